set_option linter.unusedVariables false
set_option maxRecDepth 4000
noncomputable section XNC
theorem lp196_38 {G : xk} {d : Nat} {S0 : yS} {f : Int} (h_f : 0 ≤ f ∧ f ≤ 19) {c : Int} (h_c : 0 ≤ c ∧ c ≤ 19) {gv : Int} (h_gv : 0 ≤ gv ∧ gv ≤ 1) (hd : 1 ≤ d + 1)  (no : Nat) (K : ∀ (S : yS) (hI : yI S) (hF : yFr [(43, 31)] [66, 67, 78, 79] S0 S) (hR : yRm [] S0 S) (e_MC : MC S) (n0 : Int) (h_n0 : 0 ≤ n0 ∧ n0 ≤ 61) (q_0 : n0 ≤ 1 + 3 * gs S) (q_1 : cf1 S0 S f c n0) (q_2 : gfQ S0 S gv) (hn : 2000 - 100 * gs S + n0 < (no : Nat)), yT xPr G LY xC196 7 [some ((2, 43)), some (vi f), some (vi c), some (vi gv), some (vi n0), none, none] [] S (d + 1) (fun r S' => r = (0, (0, 0)) ∧ cfQ S0 S' f c ∧ gfQ S0 S' gv ∧ MC S' ∧ yI S' ∧ yFr [(43, 31)] [66, 67, 78, 79] S0 S' ∧ yRm [] S0 S'))  : ∀ (n : Nat), ∀ (S : yS) (hI : yI S) (hF : yFr [(43, 31)] [66, 67, 78, 79] S0 S) (hR : yRm [] S0 S) (e_MC : MC S) (n0 f0 j : Int) (h_n0 : 0 ≤ n0 ∧ n0 ≤ 61) (h_f0 : 0 ≤ f0 ∧ f0 ≤ 19) (h_j : -1 ≤ j ∧ j ≤ 3) (q_0 : n0 + j + 1 ≤ 1 + 3 * gs S) (q_1 : 2000 - 100 * gs S + n0 + j + 1 < (no : Int)) (q_2 : cf2 S0 S f c n0 f0 j) (q_3 : gfQ S0 S gv) (hn : j + 1 < (n : Nat)), yT xPr G LY xC196 38 [some ((2, 43)), some (vi f), some (vi c), some (vi gv), some (vi n0), some (vi f0), some (vi j)] [] S (d + 1) (fun r S' => r = (0, (0, 0)) ∧ cfQ S0 S' f c ∧ gfQ S0 S' gv ∧ MC S' ∧ yI S' ∧ yFr [(43, 31)] [66, 67, 78, 79] S0 S' ∧ yRm [] S0 S') := by
  intro n
  induction n with
  | zero => intro S hI hF hR e_MC n0 f0 j h_n0 h_f0 h_j q_0 q_1 q_2 q_3 hn; exact absurd hn (by omega)
  | succ n ih =>
    intro S hI hF hR e_MC n0 f0 j h_n0 h_f0 h_j q_0 q_1 q_2 q_3 hn
    have h1 := gs_le hI
    refine r_load (i := 38) (u := 6) (w := 0) rfl rfl rfl ?_
    refine z_lt (i := 39) (v := 55) rfl ⟨by omega, by omega⟩ (fun h2 => ?_) (fun h3 => ?_)
    · refine r_goto (i := 55) (v := 7) rfl ?_
      refine yT_drop (L1 := [some ((2, 43)), some (vi f), some (vi c), some (vi gv), some (vi n0), none, none]) rfl ?_
      exact K S hI hF hR e_MC n0 ⟨by omega, by omega⟩ (by omega) (by exact cf1_s q_2 (by omega)) (by exact q_3) (by omega)
    · refine r_load (i := 40) (u := 0) (w := 2) rfl rfl rfl ?_
      refine r_getf (i := 41) (v := 55) (w := 11) (x := (2, 79)) rfl ly43 rfl rfl fun _ => ?_
      refine r_load (i := 42) (u := 4) (w := 0) rfl rfl rfl ?_
      refine r_load (i := 43) (u := 0) (w := 2) rfl rfl rfl ?_
      refine r_getf (i := 44) (v := 8) (w := 11) (x := (2, 50)) rfl ly43 rfl rfl fun _ => ?_
      refine r_const (i := 45) (u := 4) (z := 4) rfl rfl ?_
      refine r_load (i := 46) (u := 5) (w := 0) rfl rfl rfl ?_
      refine r_imul (i := 47) rfl ?_
      refine r_load (i := 48) (u := 6) (w := 0) rfl rfl rfl ?_
      refine r_iadd (i := 49) rfl ?_
      refine a_int (i := 50) rfl ly50 rfl (by omega) (by omega) fun h6 => ?_
      have h7 := hI.a ta50 ((4 * f0) + j).toNat
      have h8 : S.a 50 ((4 * f0) + j).toNat = S0.a 50 ((4 * f0) + j).toNat := hF.a rfl _
      refine s_int (i := 51) rfl ly79 rfl (by omega) (by omega) ⟨by omega, by omega⟩ ?_
      have hI10 := hI.seta (b := 79) (j := n0.toNat) (z := S.a 50 ((4 * f0) + j).toNat) ta79 rfl (by omega) (by omega)
      have hF12 := hF.seta (b := 79) (j := n0.toNat) (z := S.a 50 ((4 * f0) + j).toNat) rfl
      have hR13 := hR.seta (b := 79) (j := n0.toNat) (z := S.a 50 ((4 * f0) + j).toNat)
      have e14 := MCx.seta e_MC (b := 79) (j := n0.toNat) (z := S.a 50 ((4 * f0) + j).toNat) rfl
      refine yT_gen (fun S9 hS11 => ?_)
      rw [hS11] at hI10 hF12 hR13 e14
      refine r_iinc (i := 52) (u := 1) (v := 4) (s := 1) (L1 := [some ((2, 43)), some (vi f), some (vi c), some (vi gv), some (vi (n0 + 1)), some (vi f0), some (vi j)]) rfl rfl rfl rfl rfl ?_
      refine r_iinc (i := 53) (u := 4294967295) (v := 6) (s := -1) (L1 := [some ((2, 43)), some (vi f), some (vi c), some (vi gv), some (vi (n0 + 1)), some (vi f0), some (vi (j + (-1)))]) rfl rfl rfl rfl rfl ?_
      refine r_goto (i := 54) (v := 38) rfl ?_
      have h15 := gs_le hI10
      have h16 : gs S9 = gs S := by rw [← hS11]; exact gsX.seta rfl
      exact ih S9 hI10 hF12 hR13 e14 (n0 + 1) f0 (j + (-1)) ⟨by omega, by omega⟩ ⟨by omega, by omega⟩ ⟨by omega, by omega⟩ (by omega) (by omega) (by exact cf2_s (z := S.a 50 ((4 * f0) + j).toNat) q_2 (by omega) (by omega) (by omega) (by omega) (by omega) (fun j => by subst hS11; rfl) (by subst hS11; rfl) (fun j => by subst hS11; rfl) (fun j => by subst hS11; rfl)) (by exact gfQ_k q_3 (by subst hS11; rfl) (fun j => by subst hS11; rfl) (fun j => by subst hS11; rfl) (fun j => by subst hS11; rfl)) (by omega)
theorem lp196_7 {G : xk} {d : Nat} {S0 : yS} {f : Int} (h_f : 0 ≤ f ∧ f ≤ 19) {c : Int} (h_c : 0 ≤ c ∧ c ≤ 19) {gv : Int} (h_gv : 0 ≤ gv ∧ gv ≤ 1) (hd : 1 ≤ d + 1) : ∀ (n : Nat), ∀ (S : yS) (hI : yI S) (hF : yFr [(43, 31)] [66, 67, 78, 79] S0 S) (hR : yRm [] S0 S) (e_MC : MC S) (n0 : Int) (h_n0 : 0 ≤ n0 ∧ n0 ≤ 61) (q_0 : n0 ≤ 1 + 3 * gs S) (q_1 : cf1 S0 S f c n0) (q_2 : gfQ S0 S gv) (hn : 2000 - 100 * gs S + n0 < (n : Nat)), yT xPr G LY xC196 7 [some ((2, 43)), some (vi f), some (vi c), some (vi gv), some (vi n0), none, none] [] S (d + 1) (fun r S' => r = (0, (0, 0)) ∧ cfQ S0 S' f c ∧ gfQ S0 S' gv ∧ MC S' ∧ yI S' ∧ yFr [(43, 31)] [66, 67, 78, 79] S0 S' ∧ yRm [] S0 S') := by
  intro n
  induction n with
  | zero => intro S hI hF hR e_MC n0 h_n0 q_0 q_1 q_2 hn; have hzgs0 := gs_le hI; exact absurd hn (by omega)
  | succ n ih =>
    intro S hI hF hR e_MC n0 h_n0 q_0 q_1 q_2 hn
    have h1 := gs_le hI
    refine r_load (i := 7) (u := 4) (w := 0) rfl rfl rfl ?_
    refine z_le (i := 8) (v := 56) rfl ⟨by omega, by omega⟩ (fun h2 => ?_) (fun h3 => ?_)
    · exact r_ret0 (i := 56) rfl ⟨rfl, (by exact cf_end q_1 (by omega)), (by exact q_2), e_MC, hI, hF, hR⟩
    · refine r_iinc (i := 9) (u := 4294967295) (v := 4) (s := -1) (L1 := [some ((2, 43)), some (vi f), some (vi c), some (vi gv), some (vi (n0 + (-1))), none, none]) rfl rfl rfl rfl rfl ?_
      refine r_load (i := 10) (u := 0) (w := 2) rfl rfl rfl ?_
      refine r_getf (i := 11) (v := 55) (w := 11) (x := (2, 79)) rfl ly43 rfl rfl fun _ => ?_
      refine r_load (i := 12) (u := 4) (w := 0) rfl rfl rfl ?_
      refine a_int (i := 13) rfl ly79 rfl (by omega) (by omega) fun h5 => ?_
      have h6 := hI.a ta79 (n0 + (-1)).toNat
      refine r_store (i := 14) (u := 5) (w := 0) (L1 := [some ((2, 43)), some (vi f), some (vi c), some (vi gv), some (vi (n0 + (-1))), some (vi (S.a 79 (n0 + (-1)).toNat)), none]) rfl rfl rfl rfl ?_
      refine r_load (i := 15) (u := 0) (w := 2) rfl rfl rfl ?_
      refine r_getf (i := 16) (v := 54) (w := 11) (x := (2, 78)) rfl ly43 rfl rfl fun _ => ?_
      refine r_load (i := 17) (u := 5) (w := 0) rfl rfl rfl ?_
      refine a_bool (i := 18) rfl ly78 rfl (by omega) (by omega) fun h8 => ?_
      have h9 := hI.a ta78 (S.a 79 (n0 + (-1)).toNat).toNat
      refine z_eq (i := 19) (v := 21) rfl ⟨by omega, by omega⟩ (fun h10 => ?_) (fun h11 => ?_)
      · refine r_load (i := 21) (u := 0) (w := 2) rfl rfl rfl ?_
        refine r_getf (i := 22) (v := 54) (w := 11) (x := (2, 78)) rfl ly43 rfl rfl fun _ => ?_
        refine r_load (i := 23) (u := 5) (w := 0) rfl rfl rfl ?_
        refine r_const (i := 24) (u := 1) (z := 1) rfl rfl ?_
        refine s_bool (i := 25) rfl ly78 rfl (by omega) (by omega) (by omega) (by omega) ?_
        have hI14 := hI.seta (b := 78) (j := (S.a 79 (n0 + (-1)).toNat).toNat) (z := 1) ta78 rfl (by omega) (by omega)
        have hF16 := hF.seta (b := 78) (j := (S.a 79 (n0 + (-1)).toNat).toNat) (z := 1) rfl
        have hR17 := hR.seta (b := 78) (j := (S.a 79 (n0 + (-1)).toNat).toNat) (z := 1)
        have e18 := MCx.seta e_MC (b := 78) (j := (S.a 79 (n0 + (-1)).toNat).toNat) (z := 1) rfl
        refine yT_gen (fun S13 hS15 => ?_)
        rw [hS15] at hI14 hF16 hR17 e18
        refine r_load (i := 26) (u := 0) (w := 2) rfl rfl rfl ?_
        refine r_load (i := 27) (u := 5) (w := 0) rfl rfl rfl ?_
        refine r_load (i := 28) (u := 2) (w := 0) rfl rfl rfl ?_
        refine r_load (i := 29) (u := 3) (w := 0) rfl rfl rfl ?_
        refine r_call (i := 30) (u := 11) (v := 194) (w := 0) (b := 0) (na := 1796) (C2 := xC194) (as := [(2, 43), vi (S.a 79 (n0 + (-1)).toNat), vi c, vi gv]) (s := []) rfl rfl rfl rfl rfl rfl rfl (sp194 (t := S.a 79 (n0 + (-1)).toNat) (c := c) (gv := gv) hI14 ⟨by omega, by omega⟩ ⟨by omega, by omega⟩ ⟨by omega, by omega⟩  e18 (by omega)) (fun r19 S20 hq21 => ?_)
        obtain ⟨rfl, mo22, gv23, e24, hI25, hF26, hR27⟩ := hq21
        have hF28 := hF16.trans hF26 rfl rfl
        have hR29 := hR17.trans hR27 rfl
        refine Or.inl ⟨rfl, ?_⟩
        refine r_load (i := 31) (u := 0) (w := 2) rfl rfl rfl ?_
        refine r_getf (i := 32) (v := 9) (w := 11) (x := (2, 51)) rfl ly43 rfl rfl fun _ => ?_
        refine r_load (i := 33) (u := 5) (w := 0) rfl rfl rfl ?_
        refine a_int (i := 34) rfl ly51 rfl (by omega) (by omega) fun h31 => ?_
        have h32 := hI25.a ta51 (S.a 79 (n0 + (-1)).toNat).toNat
        have h33 : S20.a 51 (S.a 79 (n0 + (-1)).toNat).toNat = S13.a 51 (S.a 79 (n0 + (-1)).toNat).toNat := hF26.a rfl _
        have h34 : S13.a 51 (S.a 79 (n0 + (-1)).toNat).toNat = S.a 51 (S.a 79 (n0 + (-1)).toNat).toNat := by rw [← hS15]; rfl
        have h35 : S.a 51 (S.a 79 (n0 + (-1)).toNat).toNat = S0.a 51 (S.a 79 (n0 + (-1)).toNat).toNat := hF.a rfl _
        refine r_const (i := 35) (u := 1) (z := 1) rfl rfl ?_
        refine r_isub (i := 36) rfl ?_
        refine r_store (i := 37) (u := 6) (w := 0) (L1 := [some ((2, 43)), some (vi f), some (vi c), some (vi gv), some (vi (n0 + (-1))), some (vi (S.a 79 (n0 + (-1)).toNat)), some (vi ((S20.a 51 (S.a 79 (n0 + (-1)).toNat).toNat) - 1))]) rfl rfl rfl rfl ?_
        have h36 := gs_le hI25
        have h37 : gs S20 = gs S13 := gsX.fr hF26 rfl rfl
        have h38 : gs S13 = gs S + 1 := by rw [← hS15]; exact gs_set (by omega) (by omega)
        exact lp196_38 h_f h_c h_gv  hd   n ih _ S20 hI25 hF28 hR29 e24 (n0 + (-1)) (S.a 79 (n0 + (-1)).toNat) ((S20.a 51 (S.a 79 (n0 + (-1)).toNat).toNat) - 1) ⟨by omega, by omega⟩ ⟨by omega, by omega⟩ ⟨by omega, by omega⟩ (by omega) (by omega) (by exact cf2_0 q_1 (by omega) (by omega) rfl (by omega) (by omega) (by omega) hS15 (sMo_fr hF rfl rfl) mo22 (hF26.a rfl) (hF26.a rfl) (by omega)) (by exact gfQ_s q_2 (by omega) hS15 (hF.a rfl) gv23 (hF26.a rfl)) (Int.lt_succ_toNat _)
      · refine r_goto (i := 20) (v := 7) rfl ?_
        refine yT_drop (L1 := [some ((2, 43)), some (vi f), some (vi c), some (vi gv), some (vi (n0 + (-1))), none, none]) rfl ?_
        exact ih S hI hF hR e_MC (n0 + (-1)) ⟨by omega, by omega⟩ (by omega) (by exact cf1_in q_1 (by omega) (by omega) rfl (by omega) (by omega) (by omega)) (by exact q_2) (by omega)
/-- ProxyForgeModel.collectFace -/
theorem sp196 {G : xk} {S : yS} {d : Nat} (hI : yI S) {f : Int} (h_f : 0 ≤ f ∧ f ≤ 19) {c : Int} (h_c : 0 ≤ c ∧ c ≤ 19) {gv : Int} (h_gv : 0 ≤ gv ∧ gv ≤ 1) (e_MC : MC S) (hd : 1 ≤ d) : yT xPr G LY xC196 0 [some ((2, 43)), some (vi f), some (vi c), some (vi gv)] [] S d (fun r S' => r = (0, (0, 0)) ∧ cfQ S S' f c ∧ gfQ S S' gv ∧ MC S' ∧ yI S' ∧ yFr [(43, 31)] [66, 67, 78, 79] S S' ∧ yRm [] S S') := by
  refine yT_pad 3 ?_
  show yT xPr G LY xC196 0 [some ((2, 43)), some (vi f), some (vi c), some (vi gv), none, none, none] [] S d _
  obtain ⟨d, rfl⟩ : ∃ q, d = q + 1 := ⟨d - 1, by omega⟩
  have hF : yFr [(43, 31)] [66, 67, 78, 79] S S := yFr.refl S
  have hR : yRm [] S S := yRm.refl S
  refine r_const (i := 0) (u := 1) (z := 1) rfl rfl ?_
  refine r_store (i := 1) (u := 4) (w := 0) (L1 := [some ((2, 43)), some (vi f), some (vi c), some (vi gv), some (vi 1), none, none]) rfl rfl rfl rfl ?_
  refine r_load (i := 2) (u := 0) (w := 2) rfl rfl rfl ?_
  refine r_getf (i := 3) (v := 55) (w := 11) (x := (2, 79)) rfl ly43 rfl rfl fun _ => ?_
  refine r_const (i := 4) (u := 0) (z := 0) rfl rfl ?_
  refine r_load (i := 5) (u := 1) (w := 0) rfl rfl rfl ?_
  refine s_int (i := 6) rfl ly79 rfl (by omega) (by omega) ⟨by omega, by omega⟩ ?_
  have hI3 := hI.seta (b := 79) (j := (0 : Int).toNat) (z := f) ta79 rfl (by omega) (by omega)
  have hF5 := hF.seta (b := 79) (j := (0 : Int).toNat) (z := f) rfl
  have hR6 := hR.seta (b := 79) (j := (0 : Int).toNat) (z := f)
  have e7 := MCx.seta e_MC (b := 79) (j := (0 : Int).toNat) (z := f) rfl
  refine yT_gen (fun S2 hS4 => ?_)
  rw [hS4] at hI3 hF5 hR6 e7
  have h8 := gs_le hI3
  have h9 : gs S2 = gs S := by rw [← hS4]; exact gsX.seta rfl
  exact lp196_7 h_f h_c h_gv  hd _ S2 hI3 hF5 hR6 e7 1 ⟨by omega, by omega⟩ (by omega) (by exact cf1_0 (by subst hS4; rfl) (fun j => by subst hS4; rfl) (fun j => by subst hS4; rfl) (by subst hS4; exact ysa_eq)) (by exact gfQ_0 (by subst hS4; rfl) (fun j => by subst hS4; rfl) (fun j => by subst hS4; rfl) (fun j => by subst hS4; rfl)) (Int.lt_succ_toNat _)
theorem lp195_36 {G : xk} {d : Nat} {S0 : yS} {c : Int} (h_c : 0 ≤ c ∧ c ≤ 19) {a : Int} (h_a : -1 ≤ a ∧ a ≤ 19) {b : Int} (h_b : -1 ≤ b ∧ b ≤ 19) {e : Int} (h_e : -1 ≤ e ∧ e ≤ 19) (hd : 2 ≤ d + 1) {t : Int} (h_t : 0 ≤ t ∧ t ≤ 19) (no : Nat) (K : ∀ (S : yS) (hI : yI S) (hF : yFr [(43, 31)] [66, 67, 78, 79] S0 S) (hR : yRm [] S0 S) (e_MC : MC S) (t : Int) (h_t : -1 ≤ t ∧ t ≤ 19) (q_0 : mA2 S0 S c t) (q_1 : ga2 S0 S c) (hn : t + 1 < (no : Nat)), yT xPr G LY xC195 32 [some ((2, 43)), some (vi c), some (vi a), some (vi b), some (vi e), some (vi t), none] [] S (d + 1) (fun r S' => r = (0, (0, 0)) ∧ mcQ S0 S' c a b e ∧ mcG S0 S' c a b e ∧ MC S' ∧ yI S' ∧ yFr [(43, 31)] [66, 67, 78, 79] S0 S' ∧ yRm [] S0 S')) (hm : t + 1 < ((no + 1 : Nat) : Int)) : ∀ (n : Nat), ∀ (S : yS) (hI : yI S) (hF : yFr [(43, 31)] [66, 67, 78, 79] S0 S) (hR : yRm [] S0 S) (e_MC : MC S) (j : Int) (h_j : 0 ≤ j ∧ j ≤ 4) (q_0 : mA3 S0 S c t j) (q_1 : j ≤ S.a 51 t.toNat) (q_2 : ga2 S0 S c) (hn : 4 - j < (n : Nat)), yT xPr G LY xC195 36 [some ((2, 43)), some (vi c), some (vi a), some (vi b), some (vi e), some (vi t), some (vi j)] [] S (d + 1) (fun r S' => r = (0, (0, 0)) ∧ mcQ S0 S' c a b e ∧ mcG S0 S' c a b e ∧ MC S' ∧ yI S' ∧ yFr [(43, 31)] [66, 67, 78, 79] S0 S' ∧ yRm [] S0 S') := by
  intro n
  induction n with
  | zero => intro S hI hF hR e_MC j h_j q_0 q_1 q_2 hn; exact absurd hn (by omega)
  | succ n ih =>
    intro S hI hF hR e_MC j h_j q_0 q_1 q_2 hn
    have h1 := hI.a ta51 t.toNat
    have h2 : S.a 51 t.toNat = S0.a 51 t.toNat := hF.a rfl _
    refine r_load (i := 36) (u := 6) (w := 0) rfl rfl rfl ?_
    refine r_load (i := 37) (u := 0) (w := 2) rfl rfl rfl ?_
    refine r_getf (i := 38) (v := 9) (w := 11) (x := (2, 51)) rfl ly43 rfl rfl fun _ => ?_
    refine r_load (i := 39) (u := 5) (w := 0) rfl rfl rfl ?_
    refine a_int (i := 40) rfl ly51 rfl (by omega) (by omega) fun h4 => ?_
    have h5 := hI.a ta51 t.toNat
    refine c_ge (i := 41) (v := 56) rfl ⟨by omega, by omega⟩ ⟨by omega, by omega⟩ (fun h6 => ?_) (fun h7 => ?_)
    · refine r_load (i := 56) (u := 0) (w := 2) rfl rfl rfl ?_
      refine r_getf (i := 57) (v := 7) (w := 11) (x := (2, 49)) rfl ly43 rfl rfl fun _ => ?_
      refine r_load (i := 58) (u := 5) (w := 0) rfl rfl rfl ?_
      refine a_int (i := 59) rfl ly49 rfl (by omega) (by omega) fun h9 => ?_
      have h10 := hI.a ta49 t.toNat
      have h11 := hI.m3 t.toNat
      have h12 : S.a 49 t.toNat = S0.a 49 t.toNat := hF.a rfl _
      refine r_store (i := 60) (u := 5) (w := 0) (L1 := [some ((2, 43)), some (vi c), some (vi a), some (vi b), some (vi e), some (vi (S.a 49 t.toNat)), some (vi j)]) rfl rfl rfl rfl ?_
      refine r_goto (i := 61) (v := 32) rfl ?_
      refine yT_drop (L1 := [some ((2, 43)), some (vi c), some (vi a), some (vi b), some (vi e), some (vi (S.a 49 t.toNat)), none]) rfl ?_
      exact K S hI hF hR e_MC (S.a 49 t.toNat) ⟨by omega, by omega⟩ (by exact mA2_s q_0 (by omega) (by omega) (by omega) (by omega)) (by exact q_2) (by omega)
    · refine r_load (i := 42) (u := 0) (w := 2) rfl rfl rfl ?_
      refine r_load (i := 43) (u := 0) (w := 2) rfl rfl rfl ?_
      refine r_getf (i := 44) (v := 8) (w := 11) (x := (2, 50)) rfl ly43 rfl rfl fun _ => ?_
      refine r_const (i := 45) (u := 4) (z := 4) rfl rfl ?_
      refine r_load (i := 46) (u := 5) (w := 0) rfl rfl rfl ?_
      refine r_imul (i := 47) rfl ?_
      refine r_load (i := 48) (u := 6) (w := 0) rfl rfl rfl ?_
      refine r_iadd (i := 49) rfl ?_
      refine a_int (i := 50) rfl ly50 rfl (by omega) (by omega) fun h14 => ?_
      have h15 := hI.a ta50 ((4 * t) + j).toNat
      have h16 : S.a 50 ((4 * t) + j).toNat = S0.a 50 ((4 * t) + j).toNat := hF.a rfl _
      refine r_load (i := 51) (u := 1) (w := 0) rfl rfl rfl ?_
      refine r_const (i := 52) (u := 0) (z := 0) rfl rfl ?_
      refine r_call (i := 53) (u := 11) (v := 196) (w := 0) (b := 0) (na := 1796) (C2 := xC196) (as := [(2, 43), vi (S.a 50 ((4 * t) + j).toNat), vi c, vi 0]) (s := []) rfl rfl rfl rfl rfl rfl rfl (sp196 (f := S.a 50 ((4 * t) + j).toNat) (c := c) (gv := 0) hI ⟨by omega, by omega⟩ ⟨by omega, by omega⟩ ⟨by omega, by omega⟩  e_MC (by omega)) (fun r17 S18 hq19 => ?_)
      obtain ⟨rfl, cf20, gf21, e22, hI23, hF24, hR25⟩ := hq19
      have hF26 := hF.trans hF24 rfl rfl
      have hR27 := hR.trans hR25 rfl
      refine Or.inl ⟨rfl, ?_⟩
      refine r_iinc (i := 54) (u := 1) (v := 6) (s := 1) (L1 := [some ((2, 43)), some (vi c), some (vi a), some (vi b), some (vi e), some (vi t), some (vi (j + 1))]) rfl rfl rfl rfl rfl ?_
      refine r_goto (i := 55) (v := 36) rfl ?_
      have h28 := hI23.a ta51 t.toNat
      have h29 : S18.a 51 t.toNat = S.a 51 t.toNat := hF24.a rfl _
      have h30 : S.a 51 t.toNat = S0.a 51 t.toNat := hF.a rfl _
      exact ih S18 hI23 hF26 hR27 e22 (j + 1) ⟨by omega, by omega⟩ (by exact mA3_s q_0 (by omega) (sMf_fr hF rfl rfl) (by omega) cf20) (by omega) (by exact ga2_s q_2 (hF.a rfl) gf21) (by omega)
theorem lp195_32 {G : xk} {d : Nat} {S0 : yS} {c : Int} (h_c : 0 ≤ c ∧ c ≤ 19) {a : Int} (h_a : -1 ≤ a ∧ a ≤ 19) {b : Int} (h_b : -1 ≤ b ∧ b ≤ 19) {e : Int} (h_e : -1 ≤ e ∧ e ≤ 19) (hd : 2 ≤ d + 1) : ∀ (n : Nat), ∀ (S : yS) (hI : yI S) (hF : yFr [(43, 31)] [66, 67, 78, 79] S0 S) (hR : yRm [] S0 S) (e_MC : MC S) (t : Int) (h_t : -1 ≤ t ∧ t ≤ 19) (q_0 : mA2 S0 S c t) (q_1 : ga2 S0 S c) (hn : t + 1 < (n : Nat)), yT xPr G LY xC195 32 [some ((2, 43)), some (vi c), some (vi a), some (vi b), some (vi e), some (vi t), none] [] S (d + 1) (fun r S' => r = (0, (0, 0)) ∧ mcQ S0 S' c a b e ∧ mcG S0 S' c a b e ∧ MC S' ∧ yI S' ∧ yFr [(43, 31)] [66, 67, 78, 79] S0 S' ∧ yRm [] S0 S') := by
  intro n
  induction n with
  | zero => intro S hI hF hR e_MC t h_t q_0 q_1 hn; exact absurd hn (by omega)
  | succ n ih =>
    intro S hI hF hR e_MC t h_t q_0 q_1 hn
    refine r_load (i := 32) (u := 5) (w := 0) rfl rfl rfl ?_
    refine z_lt (i := 33) (v := 62) rfl ⟨by omega, by omega⟩ (fun h1 => ?_) (fun h2 => ?_)
    · refine r_load (i := 62) (u := 2) (w := 0) rfl rfl rfl ?_
      refine z_lt (i := 63) (v := 69) rfl ⟨by omega, by omega⟩ (fun h3 => ?_) (fun h4 => ?_)
      · refine r_load (i := 69) (u := 3) (w := 0) rfl rfl rfl ?_
        refine z_lt (i := 70) (v := 76) rfl ⟨by omega, by omega⟩ (fun h5 => ?_) (fun h6 => ?_)
        · refine r_load (i := 76) (u := 4) (w := 0) rfl rfl rfl ?_
          refine z_lt (i := 77) (v := 83) rfl ⟨by omega, by omega⟩ (fun h7 => ?_) (fun h8 => ?_)
          · exact r_ret0 (i := 83) rfl ⟨rfl, (by exact mc_end (mA4_0 q_0 (by omega)) (by unfold gl; first | (rw [if_pos (by omega), if_pos (by omega), if_pos (by omega)]; rfl) | (rw [if_pos (by omega), if_pos (by omega), if_neg (by omega)]; rfl) | (rw [if_pos (by omega), if_neg (by omega), if_pos (by omega)]; rfl) | (rw [if_pos (by omega), if_neg (by omega), if_neg (by omega)]; rfl) | (rw [if_neg (by omega), if_pos (by omega), if_pos (by omega)]; rfl) | (rw [if_neg (by omega), if_pos (by omega), if_neg (by omega)]; rfl) | (rw [if_neg (by omega), if_neg (by omega), if_pos (by omega)]; rfl) | (rw [if_neg (by omega), if_neg (by omega), if_neg (by omega)]; rfl))), (by exact mg_end (mA5_0 q_0 (by omega) q_1 (fun j => by rw [← show S.a 52 j = S0.a 52 j from hF.a rfl j]; exact hI.a ta52 j)) (by unfold gl; first | (rw [if_pos (by omega), if_pos (by omega), if_pos (by omega)]; rfl) | (rw [if_pos (by omega), if_pos (by omega), if_neg (by omega)]; rfl) | (rw [if_pos (by omega), if_neg (by omega), if_pos (by omega)]; rfl) | (rw [if_pos (by omega), if_neg (by omega), if_neg (by omega)]; rfl) | (rw [if_neg (by omega), if_pos (by omega), if_pos (by omega)]; rfl) | (rw [if_neg (by omega), if_pos (by omega), if_neg (by omega)]; rfl) | (rw [if_neg (by omega), if_neg (by omega), if_pos (by omega)]; rfl) | (rw [if_neg (by omega), if_neg (by omega), if_neg (by omega)]; rfl))), e_MC, hI, hF, hR⟩
          · refine r_load (i := 78) (u := 0) (w := 2) rfl rfl rfl ?_
            refine r_load (i := 79) (u := 4) (w := 0) rfl rfl rfl ?_
            refine r_load (i := 80) (u := 1) (w := 0) rfl rfl rfl ?_
            refine r_const (i := 81) (u := 1) (z := 1) rfl rfl ?_
            refine r_call (i := 82) (u := 11) (v := 196) (w := 0) (b := 0) (na := 1796) (C2 := xC196) (as := [(2, 43), vi e, vi c, vi 1]) (s := []) rfl rfl rfl rfl rfl rfl rfl (sp196 (f := e) (c := c) (gv := 1) hI ⟨by omega, by omega⟩ ⟨by omega, by omega⟩ ⟨by omega, by omega⟩  e_MC (by omega)) (fun r9 S10 hq11 => ?_)
            obtain ⟨rfl, cf12, gf13, e14, hI15, hF16, hR17⟩ := hq11
            have hF18 := hF.trans hF16 rfl rfl
            have hR19 := hR.trans hR17 rfl
            refine Or.inl ⟨rfl, ?_⟩
            exact r_ret0 (i := 83) rfl ⟨rfl, (by exact mc_end (mA4_s (mA4_0 q_0 (by omega)) (sMf_fr hF rfl rfl) cf12) (by unfold gl; first | (rw [if_pos (by omega), if_pos (by omega), if_pos (by omega)]; rfl) | (rw [if_pos (by omega), if_pos (by omega), if_neg (by omega)]; rfl) | (rw [if_pos (by omega), if_neg (by omega), if_pos (by omega)]; rfl) | (rw [if_pos (by omega), if_neg (by omega), if_neg (by omega)]; rfl) | (rw [if_neg (by omega), if_pos (by omega), if_pos (by omega)]; rfl) | (rw [if_neg (by omega), if_pos (by omega), if_neg (by omega)]; rfl) | (rw [if_neg (by omega), if_neg (by omega), if_pos (by omega)]; rfl) | (rw [if_neg (by omega), if_neg (by omega), if_neg (by omega)]; rfl))), (by exact mg_end (mA5_s (mA5_0 q_0 (by omega) q_1 (fun j => by rw [← show S.a 52 j = S0.a 52 j from hF.a rfl j]; exact hI.a ta52 j)) (sMf_fr hF rfl rfl) cf12 gf13 (fun j => by rw [← show S.a 52 j = S0.a 52 j from hF.a rfl j]; exact hI.a ta52 j)) (by unfold gl; first | (rw [if_pos (by omega), if_pos (by omega), if_pos (by omega)]; rfl) | (rw [if_pos (by omega), if_pos (by omega), if_neg (by omega)]; rfl) | (rw [if_pos (by omega), if_neg (by omega), if_pos (by omega)]; rfl) | (rw [if_pos (by omega), if_neg (by omega), if_neg (by omega)]; rfl) | (rw [if_neg (by omega), if_pos (by omega), if_pos (by omega)]; rfl) | (rw [if_neg (by omega), if_pos (by omega), if_neg (by omega)]; rfl) | (rw [if_neg (by omega), if_neg (by omega), if_pos (by omega)]; rfl) | (rw [if_neg (by omega), if_neg (by omega), if_neg (by omega)]; rfl))), e14, hI15, hF18, hR19⟩
        · refine r_load (i := 71) (u := 0) (w := 2) rfl rfl rfl ?_
          refine r_load (i := 72) (u := 3) (w := 0) rfl rfl rfl ?_
          refine r_load (i := 73) (u := 1) (w := 0) rfl rfl rfl ?_
          refine r_const (i := 74) (u := 1) (z := 1) rfl rfl ?_
          refine r_call (i := 75) (u := 11) (v := 196) (w := 0) (b := 0) (na := 1796) (C2 := xC196) (as := [(2, 43), vi b, vi c, vi 1]) (s := []) rfl rfl rfl rfl rfl rfl rfl (sp196 (f := b) (c := c) (gv := 1) hI ⟨by omega, by omega⟩ ⟨by omega, by omega⟩ ⟨by omega, by omega⟩  e_MC (by omega)) (fun r20 S21 hq22 => ?_)
          obtain ⟨rfl, cf23, gf24, e25, hI26, hF27, hR28⟩ := hq22
          have hF29 := hF.trans hF27 rfl rfl
          have hR30 := hR.trans hR28 rfl
          refine Or.inl ⟨rfl, ?_⟩
          refine r_load (i := 76) (u := 4) (w := 0) rfl rfl rfl ?_
          refine z_lt (i := 77) (v := 83) rfl ⟨by omega, by omega⟩ (fun h31 => ?_) (fun h32 => ?_)
          · exact r_ret0 (i := 83) rfl ⟨rfl, (by exact mc_end (mA4_s (mA4_0 q_0 (by omega)) (sMf_fr hF rfl rfl) cf23) (by unfold gl; first | (rw [if_pos (by omega), if_pos (by omega), if_pos (by omega)]; rfl) | (rw [if_pos (by omega), if_pos (by omega), if_neg (by omega)]; rfl) | (rw [if_pos (by omega), if_neg (by omega), if_pos (by omega)]; rfl) | (rw [if_pos (by omega), if_neg (by omega), if_neg (by omega)]; rfl) | (rw [if_neg (by omega), if_pos (by omega), if_pos (by omega)]; rfl) | (rw [if_neg (by omega), if_pos (by omega), if_neg (by omega)]; rfl) | (rw [if_neg (by omega), if_neg (by omega), if_pos (by omega)]; rfl) | (rw [if_neg (by omega), if_neg (by omega), if_neg (by omega)]; rfl))), (by exact mg_end (mA5_s (mA5_0 q_0 (by omega) q_1 (fun j => by rw [← show S.a 52 j = S0.a 52 j from hF.a rfl j]; exact hI.a ta52 j)) (sMf_fr hF rfl rfl) cf23 gf24 (fun j => by rw [← show S.a 52 j = S0.a 52 j from hF.a rfl j]; exact hI.a ta52 j)) (by unfold gl; first | (rw [if_pos (by omega), if_pos (by omega), if_pos (by omega)]; rfl) | (rw [if_pos (by omega), if_pos (by omega), if_neg (by omega)]; rfl) | (rw [if_pos (by omega), if_neg (by omega), if_pos (by omega)]; rfl) | (rw [if_pos (by omega), if_neg (by omega), if_neg (by omega)]; rfl) | (rw [if_neg (by omega), if_pos (by omega), if_pos (by omega)]; rfl) | (rw [if_neg (by omega), if_pos (by omega), if_neg (by omega)]; rfl) | (rw [if_neg (by omega), if_neg (by omega), if_pos (by omega)]; rfl) | (rw [if_neg (by omega), if_neg (by omega), if_neg (by omega)]; rfl))), e25, hI26, hF29, hR30⟩
          · refine r_load (i := 78) (u := 0) (w := 2) rfl rfl rfl ?_
            refine r_load (i := 79) (u := 4) (w := 0) rfl rfl rfl ?_
            refine r_load (i := 80) (u := 1) (w := 0) rfl rfl rfl ?_
            refine r_const (i := 81) (u := 1) (z := 1) rfl rfl ?_
            refine r_call (i := 82) (u := 11) (v := 196) (w := 0) (b := 0) (na := 1796) (C2 := xC196) (as := [(2, 43), vi e, vi c, vi 1]) (s := []) rfl rfl rfl rfl rfl rfl rfl (sp196 (f := e) (c := c) (gv := 1) hI26 ⟨by omega, by omega⟩ ⟨by omega, by omega⟩ ⟨by omega, by omega⟩  e25 (by omega)) (fun r33 S34 hq35 => ?_)
            obtain ⟨rfl, cf36, gf37, e38, hI39, hF40, hR41⟩ := hq35
            have hF42 := hF29.trans hF40 rfl rfl
            have hR43 := hR30.trans hR41 rfl
            refine Or.inl ⟨rfl, ?_⟩
            exact r_ret0 (i := 83) rfl ⟨rfl, (by exact mc_end (mA4_s (mA4_s (mA4_0 q_0 (by omega)) (sMf_fr hF rfl rfl) cf23) (sMf_tr (sMf_fr hF rfl rfl) (sMf_fr hF27 rfl rfl)) cf36) (by unfold gl; first | (rw [if_pos (by omega), if_pos (by omega), if_pos (by omega)]; rfl) | (rw [if_pos (by omega), if_pos (by omega), if_neg (by omega)]; rfl) | (rw [if_pos (by omega), if_neg (by omega), if_pos (by omega)]; rfl) | (rw [if_pos (by omega), if_neg (by omega), if_neg (by omega)]; rfl) | (rw [if_neg (by omega), if_pos (by omega), if_pos (by omega)]; rfl) | (rw [if_neg (by omega), if_pos (by omega), if_neg (by omega)]; rfl) | (rw [if_neg (by omega), if_neg (by omega), if_pos (by omega)]; rfl) | (rw [if_neg (by omega), if_neg (by omega), if_neg (by omega)]; rfl))), (by exact mg_end (mA5_s (mA5_s (mA5_0 q_0 (by omega) q_1 (fun j => by rw [← show S.a 52 j = S0.a 52 j from hF.a rfl j]; exact hI.a ta52 j)) (sMf_fr hF rfl rfl) cf23 gf24 (fun j => by rw [← show S.a 52 j = S0.a 52 j from hF.a rfl j]; exact hI.a ta52 j)) (sMf_tr (sMf_fr hF rfl rfl) (sMf_fr hF27 rfl rfl)) cf36 gf37 (fun j => by rw [← show S.a 52 j = S0.a 52 j from hF.a rfl j]; exact hI.a ta52 j)) (by unfold gl; first | (rw [if_pos (by omega), if_pos (by omega), if_pos (by omega)]; rfl) | (rw [if_pos (by omega), if_pos (by omega), if_neg (by omega)]; rfl) | (rw [if_pos (by omega), if_neg (by omega), if_pos (by omega)]; rfl) | (rw [if_pos (by omega), if_neg (by omega), if_neg (by omega)]; rfl) | (rw [if_neg (by omega), if_pos (by omega), if_pos (by omega)]; rfl) | (rw [if_neg (by omega), if_pos (by omega), if_neg (by omega)]; rfl) | (rw [if_neg (by omega), if_neg (by omega), if_pos (by omega)]; rfl) | (rw [if_neg (by omega), if_neg (by omega), if_neg (by omega)]; rfl))), e38, hI39, hF42, hR43⟩
      · refine r_load (i := 64) (u := 0) (w := 2) rfl rfl rfl ?_
        refine r_load (i := 65) (u := 2) (w := 0) rfl rfl rfl ?_
        refine r_load (i := 66) (u := 1) (w := 0) rfl rfl rfl ?_
        refine r_const (i := 67) (u := 1) (z := 1) rfl rfl ?_
        refine r_call (i := 68) (u := 11) (v := 196) (w := 0) (b := 0) (na := 1796) (C2 := xC196) (as := [(2, 43), vi a, vi c, vi 1]) (s := []) rfl rfl rfl rfl rfl rfl rfl (sp196 (f := a) (c := c) (gv := 1) hI ⟨by omega, by omega⟩ ⟨by omega, by omega⟩ ⟨by omega, by omega⟩  e_MC (by omega)) (fun r44 S45 hq46 => ?_)
        obtain ⟨rfl, cf47, gf48, e49, hI50, hF51, hR52⟩ := hq46
        have hF53 := hF.trans hF51 rfl rfl
        have hR54 := hR.trans hR52 rfl
        refine Or.inl ⟨rfl, ?_⟩
        refine r_load (i := 69) (u := 3) (w := 0) rfl rfl rfl ?_
        refine z_lt (i := 70) (v := 76) rfl ⟨by omega, by omega⟩ (fun h55 => ?_) (fun h56 => ?_)
        · refine r_load (i := 76) (u := 4) (w := 0) rfl rfl rfl ?_
          refine z_lt (i := 77) (v := 83) rfl ⟨by omega, by omega⟩ (fun h57 => ?_) (fun h58 => ?_)
          · exact r_ret0 (i := 83) rfl ⟨rfl, (by exact mc_end (mA4_s (mA4_0 q_0 (by omega)) (sMf_fr hF rfl rfl) cf47) (by unfold gl; first | (rw [if_pos (by omega), if_pos (by omega), if_pos (by omega)]; rfl) | (rw [if_pos (by omega), if_pos (by omega), if_neg (by omega)]; rfl) | (rw [if_pos (by omega), if_neg (by omega), if_pos (by omega)]; rfl) | (rw [if_pos (by omega), if_neg (by omega), if_neg (by omega)]; rfl) | (rw [if_neg (by omega), if_pos (by omega), if_pos (by omega)]; rfl) | (rw [if_neg (by omega), if_pos (by omega), if_neg (by omega)]; rfl) | (rw [if_neg (by omega), if_neg (by omega), if_pos (by omega)]; rfl) | (rw [if_neg (by omega), if_neg (by omega), if_neg (by omega)]; rfl))), (by exact mg_end (mA5_s (mA5_0 q_0 (by omega) q_1 (fun j => by rw [← show S.a 52 j = S0.a 52 j from hF.a rfl j]; exact hI.a ta52 j)) (sMf_fr hF rfl rfl) cf47 gf48 (fun j => by rw [← show S.a 52 j = S0.a 52 j from hF.a rfl j]; exact hI.a ta52 j)) (by unfold gl; first | (rw [if_pos (by omega), if_pos (by omega), if_pos (by omega)]; rfl) | (rw [if_pos (by omega), if_pos (by omega), if_neg (by omega)]; rfl) | (rw [if_pos (by omega), if_neg (by omega), if_pos (by omega)]; rfl) | (rw [if_pos (by omega), if_neg (by omega), if_neg (by omega)]; rfl) | (rw [if_neg (by omega), if_pos (by omega), if_pos (by omega)]; rfl) | (rw [if_neg (by omega), if_pos (by omega), if_neg (by omega)]; rfl) | (rw [if_neg (by omega), if_neg (by omega), if_pos (by omega)]; rfl) | (rw [if_neg (by omega), if_neg (by omega), if_neg (by omega)]; rfl))), e49, hI50, hF53, hR54⟩
          · refine r_load (i := 78) (u := 0) (w := 2) rfl rfl rfl ?_
            refine r_load (i := 79) (u := 4) (w := 0) rfl rfl rfl ?_
            refine r_load (i := 80) (u := 1) (w := 0) rfl rfl rfl ?_
            refine r_const (i := 81) (u := 1) (z := 1) rfl rfl ?_
            refine r_call (i := 82) (u := 11) (v := 196) (w := 0) (b := 0) (na := 1796) (C2 := xC196) (as := [(2, 43), vi e, vi c, vi 1]) (s := []) rfl rfl rfl rfl rfl rfl rfl (sp196 (f := e) (c := c) (gv := 1) hI50 ⟨by omega, by omega⟩ ⟨by omega, by omega⟩ ⟨by omega, by omega⟩  e49 (by omega)) (fun r59 S60 hq61 => ?_)
            obtain ⟨rfl, cf62, gf63, e64, hI65, hF66, hR67⟩ := hq61
            have hF68 := hF53.trans hF66 rfl rfl
            have hR69 := hR54.trans hR67 rfl
            refine Or.inl ⟨rfl, ?_⟩
            exact r_ret0 (i := 83) rfl ⟨rfl, (by exact mc_end (mA4_s (mA4_s (mA4_0 q_0 (by omega)) (sMf_fr hF rfl rfl) cf47) (sMf_tr (sMf_fr hF rfl rfl) (sMf_fr hF51 rfl rfl)) cf62) (by unfold gl; first | (rw [if_pos (by omega), if_pos (by omega), if_pos (by omega)]; rfl) | (rw [if_pos (by omega), if_pos (by omega), if_neg (by omega)]; rfl) | (rw [if_pos (by omega), if_neg (by omega), if_pos (by omega)]; rfl) | (rw [if_pos (by omega), if_neg (by omega), if_neg (by omega)]; rfl) | (rw [if_neg (by omega), if_pos (by omega), if_pos (by omega)]; rfl) | (rw [if_neg (by omega), if_pos (by omega), if_neg (by omega)]; rfl) | (rw [if_neg (by omega), if_neg (by omega), if_pos (by omega)]; rfl) | (rw [if_neg (by omega), if_neg (by omega), if_neg (by omega)]; rfl))), (by exact mg_end (mA5_s (mA5_s (mA5_0 q_0 (by omega) q_1 (fun j => by rw [← show S.a 52 j = S0.a 52 j from hF.a rfl j]; exact hI.a ta52 j)) (sMf_fr hF rfl rfl) cf47 gf48 (fun j => by rw [← show S.a 52 j = S0.a 52 j from hF.a rfl j]; exact hI.a ta52 j)) (sMf_tr (sMf_fr hF rfl rfl) (sMf_fr hF51 rfl rfl)) cf62 gf63 (fun j => by rw [← show S.a 52 j = S0.a 52 j from hF.a rfl j]; exact hI.a ta52 j)) (by unfold gl; first | (rw [if_pos (by omega), if_pos (by omega), if_pos (by omega)]; rfl) | (rw [if_pos (by omega), if_pos (by omega), if_neg (by omega)]; rfl) | (rw [if_pos (by omega), if_neg (by omega), if_pos (by omega)]; rfl) | (rw [if_pos (by omega), if_neg (by omega), if_neg (by omega)]; rfl) | (rw [if_neg (by omega), if_pos (by omega), if_pos (by omega)]; rfl) | (rw [if_neg (by omega), if_pos (by omega), if_neg (by omega)]; rfl) | (rw [if_neg (by omega), if_neg (by omega), if_pos (by omega)]; rfl) | (rw [if_neg (by omega), if_neg (by omega), if_neg (by omega)]; rfl))), e64, hI65, hF68, hR69⟩
        · refine r_load (i := 71) (u := 0) (w := 2) rfl rfl rfl ?_
          refine r_load (i := 72) (u := 3) (w := 0) rfl rfl rfl ?_
          refine r_load (i := 73) (u := 1) (w := 0) rfl rfl rfl ?_
          refine r_const (i := 74) (u := 1) (z := 1) rfl rfl ?_
          refine r_call (i := 75) (u := 11) (v := 196) (w := 0) (b := 0) (na := 1796) (C2 := xC196) (as := [(2, 43), vi b, vi c, vi 1]) (s := []) rfl rfl rfl rfl rfl rfl rfl (sp196 (f := b) (c := c) (gv := 1) hI50 ⟨by omega, by omega⟩ ⟨by omega, by omega⟩ ⟨by omega, by omega⟩  e49 (by omega)) (fun r70 S71 hq72 => ?_)
          obtain ⟨rfl, cf73, gf74, e75, hI76, hF77, hR78⟩ := hq72
          have hF79 := hF53.trans hF77 rfl rfl
          have hR80 := hR54.trans hR78 rfl
          refine Or.inl ⟨rfl, ?_⟩
          refine r_load (i := 76) (u := 4) (w := 0) rfl rfl rfl ?_
          refine z_lt (i := 77) (v := 83) rfl ⟨by omega, by omega⟩ (fun h81 => ?_) (fun h82 => ?_)
          · exact r_ret0 (i := 83) rfl ⟨rfl, (by exact mc_end (mA4_s (mA4_s (mA4_0 q_0 (by omega)) (sMf_fr hF rfl rfl) cf47) (sMf_tr (sMf_fr hF rfl rfl) (sMf_fr hF51 rfl rfl)) cf73) (by unfold gl; first | (rw [if_pos (by omega), if_pos (by omega), if_pos (by omega)]; rfl) | (rw [if_pos (by omega), if_pos (by omega), if_neg (by omega)]; rfl) | (rw [if_pos (by omega), if_neg (by omega), if_pos (by omega)]; rfl) | (rw [if_pos (by omega), if_neg (by omega), if_neg (by omega)]; rfl) | (rw [if_neg (by omega), if_pos (by omega), if_pos (by omega)]; rfl) | (rw [if_neg (by omega), if_pos (by omega), if_neg (by omega)]; rfl) | (rw [if_neg (by omega), if_neg (by omega), if_pos (by omega)]; rfl) | (rw [if_neg (by omega), if_neg (by omega), if_neg (by omega)]; rfl))), (by exact mg_end (mA5_s (mA5_s (mA5_0 q_0 (by omega) q_1 (fun j => by rw [← show S.a 52 j = S0.a 52 j from hF.a rfl j]; exact hI.a ta52 j)) (sMf_fr hF rfl rfl) cf47 gf48 (fun j => by rw [← show S.a 52 j = S0.a 52 j from hF.a rfl j]; exact hI.a ta52 j)) (sMf_tr (sMf_fr hF rfl rfl) (sMf_fr hF51 rfl rfl)) cf73 gf74 (fun j => by rw [← show S.a 52 j = S0.a 52 j from hF.a rfl j]; exact hI.a ta52 j)) (by unfold gl; first | (rw [if_pos (by omega), if_pos (by omega), if_pos (by omega)]; rfl) | (rw [if_pos (by omega), if_pos (by omega), if_neg (by omega)]; rfl) | (rw [if_pos (by omega), if_neg (by omega), if_pos (by omega)]; rfl) | (rw [if_pos (by omega), if_neg (by omega), if_neg (by omega)]; rfl) | (rw [if_neg (by omega), if_pos (by omega), if_pos (by omega)]; rfl) | (rw [if_neg (by omega), if_pos (by omega), if_neg (by omega)]; rfl) | (rw [if_neg (by omega), if_neg (by omega), if_pos (by omega)]; rfl) | (rw [if_neg (by omega), if_neg (by omega), if_neg (by omega)]; rfl))), e75, hI76, hF79, hR80⟩
          · refine r_load (i := 78) (u := 0) (w := 2) rfl rfl rfl ?_
            refine r_load (i := 79) (u := 4) (w := 0) rfl rfl rfl ?_
            refine r_load (i := 80) (u := 1) (w := 0) rfl rfl rfl ?_
            refine r_const (i := 81) (u := 1) (z := 1) rfl rfl ?_
            refine r_call (i := 82) (u := 11) (v := 196) (w := 0) (b := 0) (na := 1796) (C2 := xC196) (as := [(2, 43), vi e, vi c, vi 1]) (s := []) rfl rfl rfl rfl rfl rfl rfl (sp196 (f := e) (c := c) (gv := 1) hI76 ⟨by omega, by omega⟩ ⟨by omega, by omega⟩ ⟨by omega, by omega⟩  e75 (by omega)) (fun r83 S84 hq85 => ?_)
            obtain ⟨rfl, cf86, gf87, e88, hI89, hF90, hR91⟩ := hq85
            have hF92 := hF79.trans hF90 rfl rfl
            have hR93 := hR80.trans hR91 rfl
            refine Or.inl ⟨rfl, ?_⟩
            exact r_ret0 (i := 83) rfl ⟨rfl, (by exact mc_end (mA4_s (mA4_s (mA4_s (mA4_0 q_0 (by omega)) (sMf_fr hF rfl rfl) cf47) (sMf_tr (sMf_fr hF rfl rfl) (sMf_fr hF51 rfl rfl)) cf73) (sMf_tr (sMf_tr (sMf_fr hF rfl rfl) (sMf_fr hF51 rfl rfl)) (sMf_fr hF77 rfl rfl)) cf86) (by unfold gl; first | (rw [if_pos (by omega), if_pos (by omega), if_pos (by omega)]; rfl) | (rw [if_pos (by omega), if_pos (by omega), if_neg (by omega)]; rfl) | (rw [if_pos (by omega), if_neg (by omega), if_pos (by omega)]; rfl) | (rw [if_pos (by omega), if_neg (by omega), if_neg (by omega)]; rfl) | (rw [if_neg (by omega), if_pos (by omega), if_pos (by omega)]; rfl) | (rw [if_neg (by omega), if_pos (by omega), if_neg (by omega)]; rfl) | (rw [if_neg (by omega), if_neg (by omega), if_pos (by omega)]; rfl) | (rw [if_neg (by omega), if_neg (by omega), if_neg (by omega)]; rfl))), (by exact mg_end (mA5_s (mA5_s (mA5_s (mA5_0 q_0 (by omega) q_1 (fun j => by rw [← show S.a 52 j = S0.a 52 j from hF.a rfl j]; exact hI.a ta52 j)) (sMf_fr hF rfl rfl) cf47 gf48 (fun j => by rw [← show S.a 52 j = S0.a 52 j from hF.a rfl j]; exact hI.a ta52 j)) (sMf_tr (sMf_fr hF rfl rfl) (sMf_fr hF51 rfl rfl)) cf73 gf74 (fun j => by rw [← show S.a 52 j = S0.a 52 j from hF.a rfl j]; exact hI.a ta52 j)) (sMf_tr (sMf_tr (sMf_fr hF rfl rfl) (sMf_fr hF51 rfl rfl)) (sMf_fr hF77 rfl rfl)) cf86 gf87 (fun j => by rw [← show S.a 52 j = S0.a 52 j from hF.a rfl j]; exact hI.a ta52 j)) (by unfold gl; first | (rw [if_pos (by omega), if_pos (by omega), if_pos (by omega)]; rfl) | (rw [if_pos (by omega), if_pos (by omega), if_neg (by omega)]; rfl) | (rw [if_pos (by omega), if_neg (by omega), if_pos (by omega)]; rfl) | (rw [if_pos (by omega), if_neg (by omega), if_neg (by omega)]; rfl) | (rw [if_neg (by omega), if_pos (by omega), if_pos (by omega)]; rfl) | (rw [if_neg (by omega), if_pos (by omega), if_neg (by omega)]; rfl) | (rw [if_neg (by omega), if_neg (by omega), if_pos (by omega)]; rfl) | (rw [if_neg (by omega), if_neg (by omega), if_neg (by omega)]; rfl))), e88, hI89, hF92, hR93⟩
    · refine r_const (i := 34) (u := 0) (z := 0) rfl rfl ?_
      refine r_store (i := 35) (u := 6) (w := 0) (L1 := [some ((2, 43)), some (vi c), some (vi a), some (vi b), some (vi e), some (vi t), some (vi 0)]) rfl rfl rfl rfl ?_
      have h94 := hI.a ta51 t.toNat
      have h95 : S.a 51 t.toNat = S0.a 51 t.toNat := hF.a rfl _
      exact lp195_36 h_c h_a h_b h_e  hd (t := t) ⟨by omega, by omega⟩ n ih (by omega) _ S hI hF hR e_MC 0 ⟨by omega, by omega⟩ (by exact mA3_0 q_0) (by omega) (by exact q_1) (Int.lt_succ_toNat _)
theorem lp195_17 {G : xk} {d : Nat} {S0 : yS} {c : Int} (h_c : 0 ≤ c ∧ c ≤ 19) {a : Int} (h_a : -1 ≤ a ∧ a ≤ 19) {b : Int} (h_b : -1 ≤ b ∧ b ≤ 19) {e : Int} (h_e : -1 ≤ e ∧ e ≤ 19) (hd : 2 ≤ d + 1) : ∀ (n : Nat), ∀ (S : yS) (hI : yI S) (hF : yFr [(43, 31)] [66, 67, 78, 79] S0 S) (hR : yRm [] S0 S) (e_MC : MC S) (t : Int) (h_t : -1 ≤ t ∧ t ≤ 19) (q_0 : mA1 S0 S c t) (q_1 : ga1 S0 S c) (hn : t + 1 < (n : Nat)), yT xPr G LY xC195 17 [some ((2, 43)), some (vi c), some (vi a), some (vi b), some (vi e), some (vi t), none] [] S (d + 1) (fun r S' => r = (0, (0, 0)) ∧ mcQ S0 S' c a b e ∧ mcG S0 S' c a b e ∧ MC S' ∧ yI S' ∧ yFr [(43, 31)] [66, 67, 78, 79] S0 S' ∧ yRm [] S0 S') := by
  intro n
  induction n with
  | zero => intro S hI hF hR e_MC t h_t q_0 q_1 hn; exact absurd hn (by omega)
  | succ n ih =>
    intro S hI hF hR e_MC t h_t q_0 q_1 hn
    refine r_load (i := 17) (u := 5) (w := 0) rfl rfl rfl ?_
    refine z_lt (i := 18) (v := 30) rfl ⟨by omega, by omega⟩ (fun h1 => ?_) (fun h2 => ?_)
    · refine r_load (i := 30) (u := 1) (w := 0) rfl rfl rfl ?_
      refine r_store (i := 31) (u := 5) (w := 0) (L1 := [some ((2, 43)), some (vi c), some (vi a), some (vi b), some (vi e), some (vi c), none]) rfl rfl rfl rfl ?_
      exact lp195_32 h_c h_a h_b h_e  hd _ S hI hF hR e_MC c ⟨by omega, by omega⟩ (by exact mA2_0 q_0 (by omega) (by omega)) (by exact ga2_0 q_1) (Int.lt_succ_toNat _)
    · refine r_load (i := 19) (u := 0) (w := 2) rfl rfl rfl ?_
      refine r_load (i := 20) (u := 5) (w := 0) rfl rfl rfl ?_
      refine r_load (i := 21) (u := 1) (w := 0) rfl rfl rfl ?_
      refine r_const (i := 22) (u := 0) (z := 0) rfl rfl ?_
      refine r_call (i := 23) (u := 11) (v := 194) (w := 0) (b := 0) (na := 1796) (C2 := xC194) (as := [(2, 43), vi t, vi c, vi 0]) (s := []) rfl rfl rfl rfl rfl rfl rfl (sp194 (t := t) (c := c) (gv := 0) hI ⟨by omega, by omega⟩ ⟨by omega, by omega⟩ ⟨by omega, by omega⟩  e_MC (by omega)) (fun r3 S4 hq5 => ?_)
      obtain ⟨rfl, mo6, gv7, e8, hI9, hF10, hR11⟩ := hq5
      have hF12 := hF.trans hF10 rfl rfl
      have hR13 := hR.trans hR11 rfl
      refine Or.inl ⟨rfl, ?_⟩
      refine r_load (i := 24) (u := 0) (w := 2) rfl rfl rfl ?_
      refine r_getf (i := 25) (v := 7) (w := 11) (x := (2, 49)) rfl ly43 rfl rfl fun _ => ?_
      refine r_load (i := 26) (u := 5) (w := 0) rfl rfl rfl ?_
      refine a_int (i := 27) rfl ly49 rfl (by omega) (by omega) fun h15 => ?_
      have h16 := hI9.a ta49 t.toNat
      have h17 := hI9.m3 t.toNat
      have h18 : S4.a 49 t.toNat = S.a 49 t.toNat := hF10.a rfl _
      have h19 : S.a 49 t.toNat = S0.a 49 t.toNat := hF.a rfl _
      refine r_store (i := 28) (u := 5) (w := 0) (L1 := [some ((2, 43)), some (vi c), some (vi a), some (vi b), some (vi e), some (vi (S4.a 49 t.toNat)), none]) rfl rfl rfl rfl ?_
      refine r_goto (i := 29) (v := 17) rfl ?_
      exact ih S4 hI9 hF12 hR13 e8 (S4.a 49 t.toNat) ⟨by omega, by omega⟩ (by exact mA1_s q_0 (by omega) (sMo_fr hF rfl rfl) mo6 (hF10.a rfl) (by omega) (by omega)) (by exact ga1_s q_1 q_0 (by omega) (hF.a rfl) gv7) (by omega)
theorem lp195_5 {G : xk} {d : Nat} {S0 : yS} {c : Int} (h_c : 0 ≤ c ∧ c ≤ 19) {a : Int} (h_a : -1 ≤ a ∧ a ≤ 19) {b : Int} (h_b : -1 ≤ b ∧ b ≤ 19) {e : Int} (h_e : -1 ≤ e ∧ e ≤ 19) (hd : 2 ≤ d + 1) : ∀ (n : Nat), ∀ (S : yS) (hI : yI S) (hF : yFr [(43, 31)] [66, 67, 78, 79] S0 S) (hR : yRm [] S0 S) (e_MC : MC S) (t : Int) (h_t : 0 ≤ t ∧ t ≤ 20) (q_0 : gnZ S t) (q_1 : S.f 43 31 = 0) (hn : 20 - t < (n : Nat)), yT xPr G LY xC195 5 [some ((2, 43)), some (vi c), some (vi a), some (vi b), some (vi e), some (vi t), none] [] S (d + 1) (fun r S' => r = (0, (0, 0)) ∧ mcQ S0 S' c a b e ∧ mcG S0 S' c a b e ∧ MC S' ∧ yI S' ∧ yFr [(43, 31)] [66, 67, 78, 79] S0 S' ∧ yRm [] S0 S') := by
  intro n
  induction n with
  | zero => intro S hI hF hR e_MC t h_t q_0 q_1 hn; exact absurd hn (by omega)
  | succ n ih =>
    intro S hI hF hR e_MC t h_t q_0 q_1 hn
    have h1 := hI.f tf43_31
    refine r_load (i := 5) (u := 5) (w := 0) rfl rfl rfl ?_
    refine r_const (i := 6) (u := 20) (z := 20) rfl rfl ?_
    refine c_ge (i := 7) (v := 15) rfl ⟨by omega, by omega⟩ ⟨by omega, by omega⟩ (fun h2 => ?_) (fun h3 => ?_)
    · refine r_load (i := 15) (u := 1) (w := 0) rfl rfl rfl ?_
      refine r_store (i := 16) (u := 5) (w := 0) (L1 := [some ((2, 43)), some (vi c), some (vi a), some (vi b), some (vi e), some (vi c), none]) rfl rfl rfl rfl ?_
      exact lp195_17 h_c h_a h_b h_e  hd _ S hI hF hR e_MC c ⟨by omega, by omega⟩ (by exact mA1_0 (fun j hj => q_0 j (by omega)) (by omega) (by omega)) (by exact ga1_0 (by omega)) (Int.lt_succ_toNat _)
    · refine r_load (i := 8) (u := 0) (w := 2) rfl rfl rfl ?_
      refine r_getf (i := 9) (v := 54) (w := 11) (x := (2, 78)) rfl ly43 rfl rfl fun _ => ?_
      refine r_load (i := 10) (u := 5) (w := 0) rfl rfl rfl ?_
      refine r_const (i := 11) (u := 0) (z := 0) rfl rfl ?_
      refine s_bool (i := 12) rfl ly78 rfl (by omega) (by omega) (by omega) (by omega) ?_
      have hI6 := hI.seta (b := 78) (j := t.toNat) (z := 0) ta78 rfl (by omega) (by omega)
      have hF8 := hF.seta (b := 78) (j := t.toNat) (z := 0) rfl
      have hR9 := hR.seta (b := 78) (j := t.toNat) (z := 0)
      have e10 := MCx.seta e_MC (b := 78) (j := t.toNat) (z := 0) rfl
      refine yT_gen (fun S5 hS7 => ?_)
      rw [hS7] at hI6 hF8 hR9 e10
      refine r_iinc (i := 13) (u := 1) (v := 5) (s := 1) (L1 := [some ((2, 43)), some (vi c), some (vi a), some (vi b), some (vi e), some (vi (t + 1)), none]) rfl rfl rfl rfl rfl ?_
      refine r_goto (i := 14) (v := 5) rfl ?_
      have h11 := hI6.f tf43_31
      have h12 : S5.f 43 31 = S.f 43 31 := by rw [← hS7]; rfl
      exact ih S5 hI6 hF8 hR9 e10 (t + 1) ⟨by omega, by omega⟩ (by exact gnZ_s q_0 (by omega) hS7) (by omega) (by omega)
/-- ProxyForgeModel.collectAll -/
theorem sp195 {G : xk} {S : yS} {d : Nat} (hI : yI S) {c : Int} (h_c : 0 ≤ c ∧ c ≤ 19) {a : Int} (h_a : -1 ≤ a ∧ a ≤ 19) {b : Int} (h_b : -1 ≤ b ∧ b ≤ 19) {e : Int} (h_e : -1 ≤ e ∧ e ≤ 19) (hd : 2 ≤ d) : yT xPr G LY xC195 0 [some ((2, 43)), some (vi c), some (vi a), some (vi b), some (vi e)] [] S d (fun r S' => r = (0, (0, 0)) ∧ mcQ S S' c a b e ∧ mcG S S' c a b e ∧ MC S' ∧ yI S' ∧ yFr [(43, 31)] [66, 67, 78, 79] S S' ∧ yRm [] S S') := by
  refine yT_pad 2 ?_
  show yT xPr G LY xC195 0 [some ((2, 43)), some (vi c), some (vi a), some (vi b), some (vi e), none, none] [] S d _
  obtain ⟨d, rfl⟩ : ∃ q, d = q + 1 := ⟨d - 1, by omega⟩
  have hF : yFr [(43, 31)] [66, 67, 78, 79] S S := yFr.refl S
  have hR : yRm [] S S := yRm.refl S
  refine r_load (i := 0) (u := 0) (w := 2) rfl rfl rfl ?_
  refine r_const (i := 1) (u := 0) (z := 0) rfl rfl ?_
  refine r_putI (i := 2) (v := 31) (w := 11) rfl ly43 rfl ⟨by omega, by omega⟩ ?_
  have hI2 := hI.setf (b := 43) (w := 31) (z := 0) tf43_31 rfl (by omega) (by omega)
  have hF4 := hF.setf (b := 43) (w := 31) (z := 0) rfl
  have hR5 := hR.setf (b := 43) (w := 31) (z := 0)
  refine yT_gen (fun S1 hS3 => ?_)
  rw [hS3] at hI2 hF4 hR5 
  have mc9 := MC_0 (S := S1) (by subst_vars; rfl)
  refine r_const (i := 3) (u := 0) (z := 0) rfl rfl ?_
  refine r_store (i := 4) (u := 5) (w := 0) (L1 := [some ((2, 43)), some (vi c), some (vi a), some (vi b), some (vi e), some (vi 0), none]) rfl rfl rfl rfl ?_
  have h6 := hI2.f tf43_31
  have h7 : S1.f 43 31 = 0 := by rw [← hS3]; exact ysf_eq
  exact lp195_5 h_c h_a h_b h_e  hd _ S1 hI2 hF4 hR5 mc9 0 ⟨by omega, by omega⟩ (by exact gnZ_0) (by omega) (Int.lt_succ_toNat _)
theorem lp238_130 {G : xk} {d : Nat} {S0 : yS} {c : Int} (h_c : 0 ≤ c ∧ c ≤ 19) {a : Int} (h_a : -1 ≤ a ∧ a ≤ 19) {b : Int} (h_b : -1 ≤ b ∧ b ≤ 19) {e : Int} (h_e : -1 ≤ e ∧ e ≤ 19) (hd : 3 ≤ d + 1) {n0 : Int} (h_n0 : 0 ≤ n0 ∧ n0 ≤ 60) {k : Int} (h_k : 0 ≤ k ∧ k ≤ 59) (no : Nat) (K : ∀ (S : yS) (hI : yI S) (hF : yFr [(43, 31)] [66, 67, 68, 78, 79] S0 S) (hR : yRm [] S0 S) (e_MC : MC S) (n0 k : Int) (h_n0 : 0 ≤ n0 ∧ n0 ≤ 60) (h_k : 0 ≤ k ∧ k ≤ 60) (q_0 : n0 = nf S k) (q_1 : n0 ≤ k) (q_2 : k ≤ S.f 43 31) (q_3 : paM S0 c a b e) (q_4 : mcQ S0 S c a b e) (q_5 : mr1 S0 S k) (q_6 : mcG S0 S c a b e) (hn : 60 - k < (no : Nat)), yT xPr G LY xC238 110 [some ((2, 43)), some (vi c), some (vi a), some (vi b), some (vi e), none, some (vi n0), some (vi k), none, none, none, none] [] S (d + 1) (fun r S' => ∃ z : Int, r = (1, vi z) ∧ 0 ≤ z ∧ z ≤ 6 ∧ (z = 0 → nfa S' ≤ 24) ∧ (z = 0 → MC S') ∧ mrQ S0 S' z c a b e ∧ (z = 0 → mcG S0 S' c a b e) ∧ yI S' ∧ yFr [(43, 31)] [66, 67, 68, 78, 79] S0 S' ∧ yRm [] S0 S')) (hm : 60 - k < ((no + 1 : Nat) : Int)) : ∀ (n : Nat), ∀ (S : yS) (hI : yI S) (hF : yFr [(43, 31)] [66, 67, 68, 78, 79] S0 S) (hR : yRm [] S0 S) (e_MC : MC S) (m i0 : Int) (h_m : 0 ≤ m ∧ m ≤ 59) (h_i0 : 0 ≤ i0 ∧ i0 ≤ 60) (q_0 : n0 = nf S (k + 1)) (q_1 : n0 ≤ k + 1) (q_2 : k + 1 ≤ S.f 43 31) (q_3 : paM S0 c a b e) (q_4 : mcQ S0 S c a b e) (q_5 : mr2 S0 S k m i0) (q_6 : m = S.a 66 k.toNat) (q_7 : yand (S.a 54 (m).toNat) 16 ≤ 0) (q_8 : mcG S0 S c a b e) (hn : 60 - i0 < (n : Nat)), yT xPr G LY xC238 130 [some ((2, 43)), some (vi c), some (vi a), some (vi b), some (vi e), none, some (vi n0), some (vi k), some (vi m), some (vi i0), none, none] [] S (d + 1) (fun r S' => ∃ z : Int, r = (1, vi z) ∧ 0 ≤ z ∧ z ≤ 6 ∧ (z = 0 → nfa S' ≤ 24) ∧ (z = 0 → MC S') ∧ mrQ S0 S' z c a b e ∧ (z = 0 → mcG S0 S' c a b e) ∧ yI S' ∧ yFr [(43, 31)] [66, 67, 68, 78, 79] S0 S' ∧ yRm [] S0 S') := by
  intro n
  induction n with
  | zero => intro S hI hF hR e_MC m i0 h_m h_i0 q_0 q_1 q_2 q_3 q_4 q_5 q_6 q_7 q_8 hn; exact absurd hn (by omega)
  | succ n ih =>
    intro S hI hF hR e_MC m i0 h_m h_i0 q_0 q_1 q_2 q_3 q_4 q_5 q_6 q_7 q_8 hn
    have h1 := nfz_0 (S := S)
    have h2 := hI.f tf43_31
    have h3 := hI.a ta66 k.toNat
    refine r_load (i := 130) (u := 9) (w := 0) rfl rfl rfl ?_
    refine r_load (i := 131) (u := 7) (w := 0) rfl rfl rfl ?_
    refine c_ge (i := 132) (v := 216) rfl ⟨by omega, by omega⟩ ⟨by omega, by omega⟩ (fun h4 => ?_) (fun h5 => ?_)
    · refine r_iinc (i := 216) (u := 1) (v := 7) (s := 1) (L1 := [some ((2, 43)), some (vi c), some (vi a), some (vi b), some (vi e), none, some (vi n0), some (vi (k + 1)), some (vi m), some (vi i0), none, none]) rfl rfl rfl rfl rfl ?_
      refine r_goto (i := 217) (v := 110) rfl ?_
      refine yT_drop (L1 := [some ((2, 43)), some (vi c), some (vi a), some (vi b), some (vi e), none, some (vi n0), some (vi (k + 1)), none, none, none, none]) rfl ?_
      exact K S hI hF hR e_MC n0 (k + 1) ⟨by omega, by omega⟩ ⟨by omega, by omega⟩ (by omega) (by omega) (by omega) (by exact q_3) (by exact mcQ_up (sU_rfl) q_4) (by exact mr1_s q_5 (by omega) (by omega) (by omega)) (by exact q_8) (by omega)
    · refine r_load (i := 133) (u := 0) (w := 2) rfl rfl rfl ?_
      refine r_getf (i := 134) (v := 29) (w := 11) (x := (2, 66)) rfl ly43 rfl rfl fun _ => ?_
      refine r_load (i := 135) (u := 9) (w := 0) rfl rfl rfl ?_
      refine a_int (i := 136) rfl ly66 rfl (by omega) (by omega) fun h7 => ?_
      have h8 := hI.a ta66 i0.toNat
      refine r_store (i := 137) (u := 10) (w := 0) (L1 := [some ((2, 43)), some (vi c), some (vi a), some (vi b), some (vi e), none, some (vi n0), some (vi k), some (vi m), some (vi i0), some (vi (S.a 66 i0.toNat)), none]) rfl rfl rfl rfl ?_
      refine r_load (i := 138) (u := 0) (w := 2) rfl rfl rfl ?_
      refine r_getf (i := 139) (v := 13) (w := 11) (x := (2, 54)) rfl ly43 rfl rfl fun _ => ?_
      refine r_load (i := 140) (u := 10) (w := 0) rfl rfl rfl ?_
      refine a_int (i := 141) rfl ly54 rfl (by omega) (by omega) fun h10 => ?_
      have h11 := hI.a ta54 (S.a 66 i0.toNat).toNat
      have h12 : S.a 54 (S.a 66 i0.toNat).toNat = S0.a 54 (S.a 66 i0.toNat).toNat := hF.a rfl _
      refine r_const (i := 142) (u := 16) (z := 16) rfl rfl ?_
      refine r_iand (i := 143) rfl ?_
      have h13 := @yand_c (S.a 54 (S.a 66 i0.toNat).toNat) 16 (by decide) (by decide)
      refine z_gt (i := 144) (v := 214) rfl ⟨by omega, by omega⟩ (fun h14 => ?_) (fun h15 => ?_)
      · refine r_iinc (i := 214) (u := 1) (v := 9) (s := 1) (L1 := [some ((2, 43)), some (vi c), some (vi a), some (vi b), some (vi e), none, some (vi n0), some (vi k), some (vi m), some (vi (i0 + 1)), some (vi (S.a 66 i0.toNat)), none]) rfl rfl rfl rfl rfl ?_
        refine r_goto (i := 215) (v := 130) rfl ?_
        refine yT_drop (L1 := [some ((2, 43)), some (vi c), some (vi a), some (vi b), some (vi e), none, some (vi n0), some (vi k), some (vi m), some (vi (i0 + 1)), none, none]) rfl ?_
        have h16 := hI.a ta66 k.toNat
        exact ih S hI hF hR e_MC m (i0 + 1) ⟨by omega, by omega⟩ ⟨by omega, by omega⟩ (by omega) (by omega) (by omega) (by exact q_3) (by exact mcQ_up (sU_rfl) q_4) (by exact mr2_n sU_rfl q_5 (by omega) (fun hh f9 => cm_n1 (by omega))) (by omega) (by rw [(sU_rfl).2.2]; exact q_7) (by exact q_8) (by omega)
      · refine r_load (i := 145) (u := 0) (w := 2) rfl rfl rfl ?_
        refine r_getf (i := 146) (v := 12) (w := 11) (x := (2, 53)) rfl ly43 rfl rfl fun _ => ?_
        refine r_load (i := 147) (u := 10) (w := 0) rfl rfl rfl ?_
        refine a_int (i := 148) rfl ly53 rfl (by omega) (by omega) fun h18 => ?_
        have h19 := hI.a ta53 (S.a 66 i0.toNat).toNat
        have h20 : S.a 53 (S.a 66 i0.toNat).toNat = S0.a 53 (S.a 66 i0.toNat).toNat := hF.a rfl _
        refine r_load (i := 149) (u := 0) (w := 2) rfl rfl rfl ?_
        refine r_getf (i := 150) (v := 12) (w := 11) (x := (2, 53)) rfl ly43 rfl rfl fun _ => ?_
        refine r_load (i := 151) (u := 8) (w := 0) rfl rfl rfl ?_
        refine a_int (i := 152) rfl ly53 rfl (by omega) (by omega) fun h22 => ?_
        have h23 := hI.a ta53 m.toNat
        have h24 : S.a 53 m.toNat = S0.a 53 m.toNat := hF.a rfl _
        refine c_ne (i := 153) (v := 214) rfl ⟨by omega, by omega⟩ ⟨by omega, by omega⟩ (fun h25 => ?_) (fun h26 => ?_)
        · refine r_iinc (i := 214) (u := 1) (v := 9) (s := 1) (L1 := [some ((2, 43)), some (vi c), some (vi a), some (vi b), some (vi e), none, some (vi n0), some (vi k), some (vi m), some (vi (i0 + 1)), some (vi (S.a 66 i0.toNat)), none]) rfl rfl rfl rfl rfl ?_
          refine r_goto (i := 215) (v := 130) rfl ?_
          refine yT_drop (L1 := [some ((2, 43)), some (vi c), some (vi a), some (vi b), some (vi e), none, some (vi n0), some (vi k), some (vi m), some (vi (i0 + 1)), none, none]) rfl ?_
          have h27 := hI.a ta66 k.toNat
          exact ih S hI hF hR e_MC m (i0 + 1) ⟨by omega, by omega⟩ ⟨by omega, by omega⟩ (by omega) (by omega) (by omega) (by exact q_3) (by exact mcQ_up (sU_rfl) q_4) (by exact mr2_n sU_rfl q_5 (by omega) (fun hh f9 => cm_n1 (by omega))) (by omega) (by rw [(sU_rfl).2.2]; exact q_7) (by exact q_8) (by omega)
        · refine r_load (i := 154) (u := 0) (w := 2) rfl rfl rfl ?_
          refine r_getf (i := 155) (v := 14) (w := 11) (x := (2, 55)) rfl ly43 rfl rfl fun _ => ?_
          refine r_load (i := 156) (u := 10) (w := 0) rfl rfl rfl ?_
          refine a_int (i := 157) rfl ly55 rfl (by omega) (by omega) fun h29 => ?_
          have h30 := hI.a ta55 (S.a 66 i0.toNat).toNat
          have kp31 := hI.k55 (S.a 66 i0.toNat).toNat
          have h32 : S.a 55 (S.a 66 i0.toNat).toNat = S0.a 55 (S.a 66 i0.toNat).toNat := hF.a rfl _
          refine r_load (i := 158) (u := 0) (w := 2) rfl rfl rfl ?_
          refine r_getf (i := 159) (v := 14) (w := 11) (x := (2, 55)) rfl ly43 rfl rfl fun _ => ?_
          refine r_load (i := 160) (u := 8) (w := 0) rfl rfl rfl ?_
          refine a_int (i := 161) rfl ly55 rfl (by omega) (by omega) fun h34 => ?_
          have h35 := hI.a ta55 m.toNat
          have kp36 := hI.k55 m.toNat
          have h37 : S.a 55 m.toNat = S0.a 55 m.toNat := hF.a rfl _
          refine c_eq (i := 162) (v := 164) rfl ⟨by omega, by omega⟩ ⟨by omega, by omega⟩ (fun h38 => ?_) (fun h39 => ?_)
          · refine r_load (i := 164) (u := 0) (w := 2) rfl rfl rfl ?_
            refine r_getf (i := 165) (v := 15) (w := 11) (x := (2, 56)) rfl ly43 rfl rfl fun _ => ?_
            refine r_load (i := 166) (u := 8) (w := 0) rfl rfl rfl ?_
            refine a_int (i := 167) rfl ly56 rfl (by omega) (by omega) fun h41 => ?_
            have h42 := hI.a ta56 m.toNat
            have h43 : S.a 56 m.toNat = S0.a 56 m.toNat := hF.a rfl _
            refine r_const (i := 168) (u := 3) (z := 3) rfl rfl ?_
            refine c_le (i := 169) (v := 178) rfl ⟨by omega, by omega⟩ ⟨by omega, by omega⟩ (fun h44 => ?_) (fun h45 => ?_)
            · refine r_const (i := 178) (u := 0) (z := 0) rfl rfl ?_
              refine r_store (i := 179) (u := 11) (w := 0) (L1 := [some ((2, 43)), some (vi c), some (vi a), some (vi b), some (vi e), none, some (vi n0), some (vi k), some (vi m), some (vi i0), some (vi (S.a 66 i0.toNat)), some (vi 0)]) rfl rfl rfl rfl ?_
              refine r_load (i := 180) (u := 11) (w := 0) rfl rfl rfl ?_
              refine z_eq (i := 181) (v := 212) rfl ⟨by omega, by omega⟩ (fun h46 => ?_) (fun h47 => absurd h47 (by omega))
              refine r_const (i := 212) (u := 5) (z := 5) rfl rfl ?_
              exact r_retI (i := 213) rfl ⟨5, rfl, by omega, by omega, (by intro hz; first | exact absurd hz (by omega) | omega), (by intro hz; first | exact absurd hz (by omega) | assumption), (by exact Or.inr (Or.inr (Or.inr (Or.inr ⟨q_3, mcQ_up (sU_rfl) q_4, hF.a rfl, (hI.f tf43_31).1, fun hh => Or.inl ⟨rfl, hmY_of (k := k) (j := i0) (m := m) (sU_rfl) (by omega) (by omega) (by omega) (by omega) (by omega) (by omega) (cm_y1 (by omega) (by omega) (by omega))⟩⟩)))), (by intro hz; exact absurd hz (by omega)), hI, hF, hR⟩
            · refine r_load (i := 170) (u := 0) (w := 2) rfl rfl rfl ?_
              refine r_getf (i := 171) (v := 15) (w := 11) (x := (2, 56)) rfl ly43 rfl rfl fun _ => ?_
              refine r_load (i := 172) (u := 10) (w := 0) rfl rfl rfl ?_
              refine a_int (i := 173) rfl ly56 rfl (by omega) (by omega) fun h49 => ?_
              have h50 := hI.a ta56 (S.a 66 i0.toNat).toNat
              have h51 : S.a 56 (S.a 66 i0.toNat).toNat = S0.a 56 (S.a 66 i0.toNat).toNat := hF.a rfl _
              refine r_const (i := 174) (u := 3) (z := 3) rfl rfl ?_
              refine c_le (i := 175) (v := 178) rfl ⟨by omega, by omega⟩ ⟨by omega, by omega⟩ (fun h52 => ?_) (fun h53 => ?_)
              · refine r_const (i := 178) (u := 0) (z := 0) rfl rfl ?_
                refine r_store (i := 179) (u := 11) (w := 0) (L1 := [some ((2, 43)), some (vi c), some (vi a), some (vi b), some (vi e), none, some (vi n0), some (vi k), some (vi m), some (vi i0), some (vi (S.a 66 i0.toNat)), some (vi 0)]) rfl rfl rfl rfl ?_
                refine r_load (i := 180) (u := 11) (w := 0) rfl rfl rfl ?_
                refine z_eq (i := 181) (v := 212) rfl ⟨by omega, by omega⟩ (fun h54 => ?_) (fun h55 => absurd h55 (by omega))
                refine r_const (i := 212) (u := 5) (z := 5) rfl rfl ?_
                exact r_retI (i := 213) rfl ⟨5, rfl, by omega, by omega, (by intro hz; first | exact absurd hz (by omega) | omega), (by intro hz; first | exact absurd hz (by omega) | assumption), (by exact Or.inr (Or.inr (Or.inr (Or.inr ⟨q_3, mcQ_up (sU_rfl) q_4, hF.a rfl, (hI.f tf43_31).1, fun hh => Or.inl ⟨rfl, hmY_of (k := k) (j := i0) (m := m) (sU_rfl) (by omega) (by omega) (by omega) (by omega) (by omega) (by omega) (cm_y1 (by omega) (by omega) (by omega))⟩⟩)))), (by intro hz; exact absurd hz (by omega)), hI, hF, hR⟩
              · refine r_const (i := 176) (u := 1) (z := 1) rfl rfl ?_
                refine r_goto (i := 177) (v := 179) rfl ?_
                refine r_store (i := 179) (u := 11) (w := 0) (L1 := [some ((2, 43)), some (vi c), some (vi a), some (vi b), some (vi e), none, some (vi n0), some (vi k), some (vi m), some (vi i0), some (vi (S.a 66 i0.toNat)), some (vi 1)]) rfl rfl rfl rfl ?_
                refine r_load (i := 180) (u := 11) (w := 0) rfl rfl rfl ?_
                refine z_eq (i := 181) (v := 212) rfl ⟨by omega, by omega⟩ (fun h56 => absurd h56 (by omega)) (fun h57 => ?_)
                refine r_load (i := 182) (u := 0) (w := 2) rfl rfl rfl ?_
                refine r_load (i := 183) (u := 0) (w := 2) rfl rfl rfl ?_
                refine r_getf (i := 184) (v := 15) (w := 11) (x := (2, 56)) rfl ly43 rfl rfl fun _ => ?_
                refine r_load (i := 185) (u := 8) (w := 0) rfl rfl rfl ?_
                refine a_int (i := 186) rfl ly56 rfl (by omega) (by omega) fun h59 => ?_
                have h60 := hI.a ta56 m.toNat
                refine r_const (i := 187) (u := 4) (z := 4) rfl rfl ?_
                refine r_isub (i := 188) rfl ?_
                refine r_load (i := 189) (u := 0) (w := 2) rfl rfl rfl ?_
                refine r_getf (i := 190) (v := 15) (w := 11) (x := (2, 56)) rfl ly43 rfl rfl fun _ => ?_
                refine r_load (i := 191) (u := 10) (w := 0) rfl rfl rfl ?_
                refine a_int (i := 192) rfl ly56 rfl (by omega) (by omega) fun h62 => ?_
                have h63 := hI.a ta56 (S.a 66 i0.toNat).toNat
                refine r_const (i := 193) (u := 4) (z := 4) rfl rfl ?_
                refine r_isub (i := 194) rfl ?_
                have h64 := hI.f tf43_1
                have h65 : S.f 43 1 = S0.f 43 1 := hF.f rfl
                refine r_call (i := 195) (u := 11) (v := 261) (w := 0) (b := 0) (na := 1795) (C2 := xC261) (as := [(2, 43), vi ((S.a 56 m.toNat) - 4), vi ((S.a 56 (S.a 66 i0.toNat).toNat) - 4)]) (s := []) rfl rfl rfl rfl rfl rfl rfl (sp261 (t := (S.a 56 m.toNat) - 4) (o := (S.a 56 (S.a 66 i0.toNat).toNat) - 4) hI ⟨by omega, by omega⟩ ⟨by omega, by omega⟩   (by omega)) (fun r66 S67 hq68 => ?_)
                obtain ⟨z69, rfl, h70, h71, um72, hI73, hF74, hR75⟩ := hq68
                have hF76 := hF.trans hF74 rfl rfl
                have hR77 := hR.trans hR75 rfl
                have e78 := MCx.fr e_MC hF74 rfl rfl
                refine Or.inr (Or.inl ⟨rfl, ?_⟩)
                refine z_ne (i := 196) (v := 214) rfl ⟨by omega, by omega⟩ (fun h79 => ?_) (fun h80 => ?_)
                · refine r_iinc (i := 214) (u := 1) (v := 9) (s := 1) (L1 := [some ((2, 43)), some (vi c), some (vi a), some (vi b), some (vi e), none, some (vi n0), some (vi k), some (vi m), some (vi (i0 + 1)), some (vi (S.a 66 i0.toNat)), some (vi 1)]) rfl rfl rfl rfl rfl ?_
                  refine r_goto (i := 215) (v := 130) rfl ?_
                  refine yT_drop (L1 := [some ((2, 43)), some (vi c), some (vi a), some (vi b), some (vi e), none, some (vi n0), some (vi k), some (vi m), some (vi (i0 + 1)), none, none]) rfl ?_
                  have h81 := nfz_0 (S := S67)
                  have h82 : nf S67 = nf S := nfX.fr hF74 rfl rfl
                  have h83 : nf S67 k = nf S k := congrFun h82 _
                  have h84 : nf S67 (k + 1) = nf S (k + 1) := congrFun h82 _
                  have h85 := hI73.f tf43_31
                  have h86 : S67.f 43 31 = S.f 43 31 := hF74.f rfl
                  have h87 := hI73.a ta66 k.toNat
                  have h88 : S67.a 66 k.toNat = S.a 66 k.toNat := hF74.a rfl _
                  exact ih S67 hI73 hF76 hR77 e78 m (i0 + 1) ⟨by omega, by omega⟩ ⟨by omega, by omega⟩ (by omega) (by omega) (by omega) (by exact q_3) (by exact mcQ_up (sU_fr hF74 rfl rfl) q_4) (by exact mr2_n (sU_fr hF74 rfl rfl) q_5 (by omega) (fun hh f9 => cm_n2 (by omega) (by omega) (by omega) (by omega) (Or.inl ((un_of (sMr_fr hF rfl rfl) hh um72 (by have k8 := hh.2 m.toNat; have k9 := hh.2 (S.a 66 i0.toNat).toNat; omega) (by have k8 := hh.2 m.toNat; have k9 := hh.2 (S.a 66 i0.toNat).toNat; omega) (by have k8 := hh.2 m.toNat; have k9 := hh.2 (S.a 66 i0.toNat).toNat; omega)).mp (by omega))))) (by omega) (by rw [(sU_fr hF74 rfl rfl).2.2]; exact q_7) (by exact mcG_up q_8 (hF74.f rfl) (fun j => (hF74.a rfl j)) (fun j => (hF74.a rfl j))) (by omega)
                · refine r_load (i := 197) (u := 0) (w := 2) rfl rfl rfl ?_
                  refine r_load (i := 198) (u := 0) (w := 2) rfl rfl rfl ?_
                  refine r_getf (i := 199) (v := 15) (w := 11) (x := (2, 56)) rfl ly43 rfl rfl fun _ => ?_
                  refine r_load (i := 200) (u := 10) (w := 0) rfl rfl rfl ?_
                  refine a_int (i := 201) rfl ly56 rfl (by omega) (by omega) fun h90 => ?_
                  have h91 := hI73.a ta56 (S.a 66 i0.toNat).toNat
                  have h92 : S67.a 56 (S.a 66 i0.toNat).toNat = S.a 56 (S.a 66 i0.toNat).toNat := hF74.a rfl _
                  have h93 : S.a 56 (S.a 66 i0.toNat).toNat = S0.a 56 (S.a 66 i0.toNat).toNat := hF.a rfl _
                  refine r_const (i := 202) (u := 4) (z := 4) rfl rfl ?_
                  refine r_isub (i := 203) rfl ?_
                  refine r_load (i := 204) (u := 0) (w := 2) rfl rfl rfl ?_
                  refine r_getf (i := 205) (v := 15) (w := 11) (x := (2, 56)) rfl ly43 rfl rfl fun _ => ?_
                  refine r_load (i := 206) (u := 8) (w := 0) rfl rfl rfl ?_
                  refine a_int (i := 207) rfl ly56 rfl (by omega) (by omega) fun h95 => ?_
                  have h96 := hI73.a ta56 m.toNat
                  have h97 : S67.a 56 m.toNat = S.a 56 m.toNat := hF74.a rfl _
                  have h98 : S.a 56 m.toNat = S0.a 56 m.toNat := hF.a rfl _
                  refine r_const (i := 208) (u := 4) (z := 4) rfl rfl ?_
                  refine r_isub (i := 209) rfl ?_
                  have h99 := hI73.f tf43_1
                  have h100 : S67.f 43 1 = S.f 43 1 := hF74.f rfl
                  have h101 : S.f 43 1 = S0.f 43 1 := hF.f rfl
                  refine r_call (i := 210) (u := 11) (v := 261) (w := 0) (b := 0) (na := 1795) (C2 := xC261) (as := [(2, 43), vi ((S67.a 56 (S.a 66 i0.toNat).toNat) - 4), vi ((S67.a 56 m.toNat) - 4)]) (s := []) rfl rfl rfl rfl rfl rfl rfl (sp261 (t := (S67.a 56 (S.a 66 i0.toNat).toNat) - 4) (o := (S67.a 56 m.toNat) - 4) hI73 ⟨by omega, by omega⟩ ⟨by omega, by omega⟩   (by omega)) (fun r102 S103 hq104 => ?_)
                  obtain ⟨z105, rfl, h106, h107, um108, hI109, hF110, hR111⟩ := hq104
                  have hF112 := hF76.trans hF110 rfl rfl
                  have hR113 := hR77.trans hR111 rfl
                  have e114 := MCx.fr e78 hF110 rfl rfl
                  refine Or.inr (Or.inl ⟨rfl, ?_⟩)
                  refine z_ne (i := 211) (v := 214) rfl ⟨by omega, by omega⟩ (fun h115 => ?_) (fun h116 => ?_)
                  · refine r_iinc (i := 214) (u := 1) (v := 9) (s := 1) (L1 := [some ((2, 43)), some (vi c), some (vi a), some (vi b), some (vi e), none, some (vi n0), some (vi k), some (vi m), some (vi (i0 + 1)), some (vi (S.a 66 i0.toNat)), some (vi 1)]) rfl rfl rfl rfl rfl ?_
                    refine r_goto (i := 215) (v := 130) rfl ?_
                    refine yT_drop (L1 := [some ((2, 43)), some (vi c), some (vi a), some (vi b), some (vi e), none, some (vi n0), some (vi k), some (vi m), some (vi (i0 + 1)), none, none]) rfl ?_
                    have h117 := nfz_0 (S := S103)
                    have h118 : nf S103 = nf S67 := nfX.fr hF110 rfl rfl
                    have h119 : nf S103 k = nf S67 k := congrFun h118 _
                    have h120 : nf S103 (k + 1) = nf S67 (k + 1) := congrFun h118 _
                    have h121 : nf S67 = nf S := nfX.fr hF74 rfl rfl
                    have h122 : nf S67 k = nf S k := congrFun h121 _
                    have h123 : nf S67 (k + 1) = nf S (k + 1) := congrFun h121 _
                    have h124 := hI109.f tf43_31
                    have h125 : S103.f 43 31 = S67.f 43 31 := hF110.f rfl
                    have h126 : S67.f 43 31 = S.f 43 31 := hF74.f rfl
                    have h127 := hI109.a ta66 k.toNat
                    have h128 : S103.a 66 k.toNat = S67.a 66 k.toNat := hF110.a rfl _
                    have h129 : S67.a 66 k.toNat = S.a 66 k.toNat := hF74.a rfl _
                    exact ih S103 hI109 hF112 hR113 e114 m (i0 + 1) ⟨by omega, by omega⟩ ⟨by omega, by omega⟩ (by omega) (by omega) (by omega) (by exact q_3) (by exact mcQ_up (sU_tr (sU_fr hF74 rfl rfl) (sU_fr hF110 rfl rfl)) q_4) (by exact mr2_n (sU_tr (sU_fr hF74 rfl rfl) (sU_fr hF110 rfl rfl)) q_5 (by omega) (fun hh f9 => cm_n2 (by omega) (by omega) (by omega) (by omega) (Or.inr ((un_of (sMr_tr (sMr_fr hF rfl rfl) (sMr_fr hF74 rfl rfl)) hh um108 (by have k8 := hh.2 m.toNat; have k9 := hh.2 (S.a 66 i0.toNat).toNat; omega) (by have k8 := hh.2 m.toNat; have k9 := hh.2 (S.a 66 i0.toNat).toNat; omega) (by have k8 := hh.2 m.toNat; have k9 := hh.2 (S.a 66 i0.toNat).toNat; omega)).mp (by omega))))) (by omega) (by rw [(sU_tr (sU_fr hF74 rfl rfl) (sU_fr hF110 rfl rfl)).2.2]; exact q_7) (by exact mcG_up q_8 ((hF110.f rfl).trans (hF74.f rfl)) (fun j => ((hF110.a rfl j).trans (hF74.a rfl j))) (fun j => ((hF110.a rfl j).trans (hF74.a rfl j)))) (by omega)
                  · refine r_const (i := 212) (u := 5) (z := 5) rfl rfl ?_
                    have h130 : nfa S103 = nfa S67 := nfaX.fr hF110 rfl rfl
                    have h131 : nfa S67 = nfa S := nfaX.fr hF74 rfl rfl
                    exact r_retI (i := 213) rfl ⟨5, rfl, by omega, by omega, (by intro hz; first | exact absurd hz (by omega) | omega), (by intro hz; first | exact absurd hz (by omega) | assumption), (by exact Or.inr (Or.inr (Or.inr (Or.inr ⟨q_3, mcQ_up (sU_tr (sU_fr hF74 rfl rfl) (sU_fr hF110 rfl rfl)) q_4, hF112.a rfl, (hI109.f tf43_31).1, fun hh => Or.inl ⟨rfl, hmY_of (k := k) (j := i0) (m := m) (sU_tr (sU_fr hF74 rfl rfl) (sU_fr hF110 rfl rfl)) (by omega) (by omega) (by omega) (by omega) (by omega) (by omega) (cm_y2 (by omega) (by omega) (by omega) (by omega) (by omega) (by omega) (fun w9 => absurd ((un_of (sMr_fr hF rfl rfl) hh um72 (by have k8 := hh.2 m.toNat; have k9 := hh.2 (S.a 66 i0.toNat).toNat; omega) (by have k8 := hh.2 m.toNat; have k9 := hh.2 (S.a 66 i0.toNat).toNat; omega) (by have k8 := hh.2 m.toNat; have k9 := hh.2 (S.a 66 i0.toNat).toNat; omega)).mpr w9) (by omega)) (fun w9 => absurd ((un_of (sMr_tr (sMr_fr hF rfl rfl) (sMr_fr hF74 rfl rfl)) hh um108 (by have k8 := hh.2 m.toNat; have k9 := hh.2 (S.a 66 i0.toNat).toNat; omega) (by have k8 := hh.2 m.toNat; have k9 := hh.2 (S.a 66 i0.toNat).toNat; omega) (by have k8 := hh.2 m.toNat; have k9 := hh.2 (S.a 66 i0.toNat).toNat; omega)).mpr w9) (by omega)))⟩⟩)))), (by intro hz; exact absurd hz (by omega)), hI109, hF112, hR113⟩
          · refine r_goto (i := 163) (v := 214) rfl ?_
            refine r_iinc (i := 214) (u := 1) (v := 9) (s := 1) (L1 := [some ((2, 43)), some (vi c), some (vi a), some (vi b), some (vi e), none, some (vi n0), some (vi k), some (vi m), some (vi (i0 + 1)), some (vi (S.a 66 i0.toNat)), none]) rfl rfl rfl rfl rfl ?_
            refine r_goto (i := 215) (v := 130) rfl ?_
            refine yT_drop (L1 := [some ((2, 43)), some (vi c), some (vi a), some (vi b), some (vi e), none, some (vi n0), some (vi k), some (vi m), some (vi (i0 + 1)), none, none]) rfl ?_
            have h132 := hI.a ta66 k.toNat
            exact ih S hI hF hR e_MC m (i0 + 1) ⟨by omega, by omega⟩ ⟨by omega, by omega⟩ (by omega) (by omega) (by omega) (by exact q_3) (by exact mcQ_up (sU_rfl) q_4) (by exact mr2_n sU_rfl q_5 (by omega) (fun hh f9 => cm_n1 (by omega))) (by omega) (by rw [(sU_rfl).2.2]; exact q_7) (by exact q_8) (by omega)
theorem lp238_110 {G : xk} {d : Nat} {S0 : yS} {c : Int} (h_c : 0 ≤ c ∧ c ≤ 19) {a : Int} (h_a : -1 ≤ a ∧ a ≤ 19) {b : Int} (h_b : -1 ≤ b ∧ b ≤ 19) {e : Int} (h_e : -1 ≤ e ∧ e ≤ 19) (hd : 3 ≤ d + 1) : ∀ (n : Nat), ∀ (S : yS) (hI : yI S) (hF : yFr [(43, 31)] [66, 67, 68, 78, 79] S0 S) (hR : yRm [] S0 S) (e_MC : MC S) (n0 k : Int) (h_n0 : 0 ≤ n0 ∧ n0 ≤ 60) (h_k : 0 ≤ k ∧ k ≤ 60) (q_0 : n0 = nf S k) (q_1 : n0 ≤ k) (q_2 : k ≤ S.f 43 31) (q_3 : paM S0 c a b e) (q_4 : mcQ S0 S c a b e) (q_5 : mr1 S0 S k) (q_6 : mcG S0 S c a b e) (hn : 60 - k < (n : Nat)), yT xPr G LY xC238 110 [some ((2, 43)), some (vi c), some (vi a), some (vi b), some (vi e), none, some (vi n0), some (vi k), none, none, none, none] [] S (d + 1) (fun r S' => ∃ z : Int, r = (1, vi z) ∧ 0 ≤ z ∧ z ≤ 6 ∧ (z = 0 → nfa S' ≤ 24) ∧ (z = 0 → MC S') ∧ mrQ S0 S' z c a b e ∧ (z = 0 → mcG S0 S' c a b e) ∧ yI S' ∧ yFr [(43, 31)] [66, 67, 68, 78, 79] S0 S' ∧ yRm [] S0 S') := by
  intro n
  induction n with
  | zero => intro S hI hF hR e_MC n0 k h_n0 h_k q_0 q_1 q_2 q_3 q_4 q_5 q_6 hn; exact absurd hn (by omega)
  | succ n ih =>
    intro S hI hF hR e_MC n0 k h_n0 h_k q_0 q_1 q_2 q_3 q_4 q_5 q_6 hn
    have h1 := nfz_0 (S := S)
    have h2 := hI.f tf43_31
    refine r_load (i := 110) (u := 7) (w := 0) rfl rfl rfl ?_
    refine r_load (i := 111) (u := 0) (w := 2) rfl rfl rfl ?_
    refine r_getf (i := 112) (v := 31) (w := 11) (x := vi (S.f 43 31)) rfl ly43 rfl rfl fun h3 => ?_
    have h3 : Rg (S.f 43 31) := h3
    refine c_ge (i := 113) (v := 218) rfl ⟨by omega, by omega⟩ ⟨by omega, by omega⟩ (fun h4 => ?_) (fun h5 => ?_)
    · have nn8 := nfa_of (S := S) (k := k) (by omega)
      refine r_load (i := 218) (u := 6) (w := 0) rfl rfl rfl ?_
      refine r_const (i := 219) (u := 24) (z := 24) rfl rfl ?_
      refine c_le (i := 220) (v := 223) rfl ⟨by omega, by omega⟩ ⟨by omega, by omega⟩ (fun h6 => ?_) (fun h7 => ?_)
      · refine r_const (i := 223) (u := 0) (z := 0) rfl rfl ?_
        exact r_retI (i := 224) rfl ⟨0, rfl, by omega, by omega, (by intro hz; first | exact absurd hz (by omega) | omega), (by intro hz; first | exact absurd hz (by omega) | assumption), (by first | exact Or.inr (Or.inr (Or.inr (Or.inr ⟨q_3, q_4, hF.a rfl, (hI.f tf43_31).1, fun hh => Or.inr (Or.inl ⟨rfl, fun i j hj hi => (q_5 hh) i j hj (by omega), by omega⟩)⟩))) | exact Or.inr (Or.inr (Or.inr (Or.inr ⟨q_3, q_4, hF.a rfl, (hI.f tf43_31).1, fun hh => Or.inr (Or.inr ⟨rfl, fun i j hj hi => (q_5 hh) i j hj (by omega), by omega⟩)⟩)))), (by intro hz; first | exact absurd hz (by omega) | exact q_6), hI, hF, hR⟩
      · refine r_const (i := 221) (u := 6) (z := 6) rfl rfl ?_
        refine r_goto (i := 222) (v := 224) rfl ?_
        exact r_retI (i := 224) rfl ⟨6, rfl, by omega, by omega, (by intro hz; first | exact absurd hz (by omega) | omega), (by intro hz; first | exact absurd hz (by omega) | assumption), (by first | exact Or.inr (Or.inr (Or.inr (Or.inr ⟨q_3, q_4, hF.a rfl, (hI.f tf43_31).1, fun hh => Or.inr (Or.inl ⟨rfl, fun i j hj hi => (q_5 hh) i j hj (by omega), by omega⟩)⟩))) | exact Or.inr (Or.inr (Or.inr (Or.inr ⟨q_3, q_4, hF.a rfl, (hI.f tf43_31).1, fun hh => Or.inr (Or.inr ⟨rfl, fun i j hj hi => (q_5 hh) i j hj (by omega), by omega⟩)⟩)))), (by intro hz; first | exact absurd hz (by omega) | exact q_6), hI, hF, hR⟩
    · refine r_load (i := 114) (u := 0) (w := 2) rfl rfl rfl ?_
      refine r_getf (i := 115) (v := 29) (w := 11) (x := (2, 66)) rfl ly43 rfl rfl fun _ => ?_
      refine r_load (i := 116) (u := 7) (w := 0) rfl rfl rfl ?_
      refine a_int (i := 117) rfl ly66 rfl (by omega) (by omega) fun h9 => ?_
      have h10 := hI.a ta66 k.toNat
      refine r_store (i := 118) (u := 8) (w := 0) (L1 := [some ((2, 43)), some (vi c), some (vi a), some (vi b), some (vi e), none, some (vi n0), some (vi k), some (vi (S.a 66 k.toNat)), none, none, none]) rfl rfl rfl rfl ?_
      refine r_load (i := 119) (u := 0) (w := 2) rfl rfl rfl ?_
      refine r_getf (i := 120) (v := 13) (w := 11) (x := (2, 54)) rfl ly43 rfl rfl fun _ => ?_
      refine r_load (i := 121) (u := 8) (w := 0) rfl rfl rfl ?_
      refine a_int (i := 122) rfl ly54 rfl (by omega) (by omega) fun h12 => ?_
      have h13 := hI.a ta54 (S.a 66 k.toNat).toNat
      have h14 : S.a 54 (S.a 66 k.toNat).toNat = S0.a 54 (S.a 66 k.toNat).toNat := hF.a rfl _
      refine r_const (i := 123) (u := 16) (z := 16) rfl rfl ?_
      refine r_iand (i := 124) rfl ?_
      have h15 := @yand_c (S.a 54 (S.a 66 k.toNat).toNat) 16 (by decide) (by decide)
      refine z_le (i := 125) (v := 127) rfl ⟨by omega, by omega⟩ (fun h16 => ?_) (fun h17 => ?_)
      · have nn9 := nf_y (S := S) (k := k) (by omega) (by omega)
        refine r_iinc (i := 127) (u := 1) (v := 6) (s := 1) (L1 := [some ((2, 43)), some (vi c), some (vi a), some (vi b), some (vi e), none, some (vi (n0 + 1)), some (vi k), some (vi (S.a 66 k.toNat)), none, none, none]) rfl rfl rfl rfl rfl ?_
        refine r_const (i := 128) (u := 0) (z := 0) rfl rfl ?_
        refine r_store (i := 129) (u := 9) (w := 0) (L1 := [some ((2, 43)), some (vi c), some (vi a), some (vi b), some (vi e), none, some (vi (n0 + 1)), some (vi k), some (vi (S.a 66 k.toNat)), some (vi 0), none, none]) rfl rfl rfl rfl ?_
        have h18 := hI.a ta66 k.toNat
        exact lp238_130 h_c h_a h_b h_e  hd (n0 := n0 + 1) (k := k) ⟨by omega, by omega⟩ ⟨by omega, by omega⟩ n ih (by omega) _ S hI hF hR e_MC (S.a 66 k.toNat) 0 ⟨by omega, by omega⟩ ⟨by omega, by omega⟩ (by omega) (by omega) (by omega) (by exact q_3) (by exact mcQ_up (sU_rfl) q_4) (by exact mr2_0 q_5) (by omega) (by omega) (by exact q_6) (Int.lt_succ_toNat _)
      · have nn9 := nf_n (S := S) (k := k) (by omega) (by omega)
        refine r_goto (i := 126) (v := 216) rfl ?_
        refine r_iinc (i := 216) (u := 1) (v := 7) (s := 1) (L1 := [some ((2, 43)), some (vi c), some (vi a), some (vi b), some (vi e), none, some (vi n0), some (vi (k + 1)), some (vi (S.a 66 k.toNat)), none, none, none]) rfl rfl rfl rfl rfl ?_
        refine r_goto (i := 217) (v := 110) rfl ?_
        refine yT_drop (L1 := [some ((2, 43)), some (vi c), some (vi a), some (vi b), some (vi e), none, some (vi n0), some (vi (k + 1)), none, none, none, none]) rfl ?_
        exact ih S hI hF hR e_MC n0 (k + 1) ⟨by omega, by omega⟩ ⟨by omega, by omega⟩ (by omega) (by omega) (by omega) (by exact q_3) (by exact mcQ_up (sU_rfl) q_4) (by exact mr1_n q_5 (by omega) (by omega)) (by exact q_6) (by omega)
theorem lp238_83 {G : xk} {d : Nat} {S0 : yS} {c : Int} (h_c : 0 ≤ c ∧ c ≤ 19) {a : Int} (h_a : -1 ≤ a ∧ a ≤ 19) {b : Int} (h_b : -1 ≤ b ∧ b ≤ 19) {e : Int} (h_e : -1 ≤ e ∧ e ≤ 19) (hd : 3 ≤ d + 1) : ∀ (S : yS) (hI : yI S) (hF : yFr [(43, 31)] [66, 67, 68, 78, 79] S0 S) (hR : yRm [] S0 S)  (q_0 : ¬ r1M S0 c) (q_1 : oyM S0 c) (q_2 : ¬ r3M S0 a b e), yT xPr G LY xC238 83 [some ((2, 43)), some (vi c), some (vi a), some (vi b), some (vi e), none, none, none, none, none, none, none] [] S (d + 1) (fun r S' => ∃ z : Int, r = (1, vi z) ∧ 0 ≤ z ∧ z ≤ 6 ∧ (z = 0 → nfa S' ≤ 24) ∧ (z = 0 → MC S') ∧ mrQ S0 S' z c a b e ∧ (z = 0 → mcG S0 S' c a b e) ∧ yI S' ∧ yFr [(43, 31)] [66, 67, 68, 78, 79] S0 S' ∧ yRm [] S0 S') := by
  intro S hI hF hR   q_0 q_1 q_2
  refine r_load (i := 83) (u := 0) (w := 2) rfl rfl rfl ?_
  refine r_load (i := 84) (u := 2) (w := 0) rfl rfl rfl ?_
  refine r_load (i := 85) (u := 1) (w := 0) rfl rfl rfl ?_
  refine r_call (i := 86) (u := 11) (v := 209) (w := 0) (b := 0) (na := 771) (C2 := xC209) (as := [(2, 43), vi a, vi c]) (s := []) rfl rfl rfl rfl rfl rfl rfl (sp209 (f := a) (c := c) hI ⟨by omega, by omega⟩ ⟨by omega, by omega⟩   (by omega)) (fun r1 S2 hq3 => ?_)
  obtain ⟨z4, rfl, h5, h6, yhd7, nhd8, rfl⟩ := hq3
  refine Or.inr (Or.inl ⟨rfl, ?_⟩)
  refine z_ne (i := 87) (v := 98) rfl ⟨by omega, by omega⟩ (fun h9 => ?_) (fun h10 => ?_)
  · refine r_const (i := 98) (u := 4) (z := 4) rfl rfl ?_
    exact r_retI (i := 99) rfl ⟨4, rfl, by omega, by omega, (by intro hz; first | exact absurd hz (by omega) | omega), (by intro hz; first | exact absurd hz (by omega) | assumption), (by exact Or.inr (Or.inr (Or.inr (Or.inl ⟨rfl, q_0, q_1, q_2, Or.inl ((hd_eq hF rfl).mp (yhd7 (by omega)))⟩)))), (by intro hz; exact absurd hz (by omega)), hI, hF, hR⟩
  · refine r_load (i := 88) (u := 0) (w := 2) rfl rfl rfl ?_
    refine r_load (i := 89) (u := 3) (w := 0) rfl rfl rfl ?_
    refine r_load (i := 90) (u := 1) (w := 0) rfl rfl rfl ?_
    refine r_call (i := 91) (u := 11) (v := 209) (w := 0) (b := 0) (na := 771) (C2 := xC209) (as := [(2, 43), vi b, vi c]) (s := []) rfl rfl rfl rfl rfl rfl rfl (sp209 (f := b) (c := c) hI ⟨by omega, by omega⟩ ⟨by omega, by omega⟩   (by omega)) (fun r11 S12 hq13 => ?_)
    obtain ⟨z14, rfl, h15, h16, yhd17, nhd18, rfl⟩ := hq13
    refine Or.inr (Or.inl ⟨rfl, ?_⟩)
    refine z_ne (i := 92) (v := 98) rfl ⟨by omega, by omega⟩ (fun h19 => ?_) (fun h20 => ?_)
    · refine r_const (i := 98) (u := 4) (z := 4) rfl rfl ?_
      exact r_retI (i := 99) rfl ⟨4, rfl, by omega, by omega, (by intro hz; first | exact absurd hz (by omega) | omega), (by intro hz; first | exact absurd hz (by omega) | assumption), (by exact Or.inr (Or.inr (Or.inr (Or.inl ⟨rfl, q_0, q_1, q_2, Or.inr (Or.inl ((hd_eq hF rfl).mp (yhd17 (by omega))))⟩)))), (by intro hz; exact absurd hz (by omega)), hI, hF, hR⟩
    · refine r_load (i := 93) (u := 0) (w := 2) rfl rfl rfl ?_
      refine r_load (i := 94) (u := 4) (w := 0) rfl rfl rfl ?_
      refine r_load (i := 95) (u := 1) (w := 0) rfl rfl rfl ?_
      refine r_call (i := 96) (u := 11) (v := 209) (w := 0) (b := 0) (na := 771) (C2 := xC209) (as := [(2, 43), vi e, vi c]) (s := []) rfl rfl rfl rfl rfl rfl rfl (sp209 (f := e) (c := c) hI ⟨by omega, by omega⟩ ⟨by omega, by omega⟩   (by omega)) (fun r21 S22 hq23 => ?_)
      obtain ⟨z24, rfl, h25, h26, yhd27, nhd28, rfl⟩ := hq23
      refine Or.inr (Or.inl ⟨rfl, ?_⟩)
      refine z_eq (i := 97) (v := 100) rfl ⟨by omega, by omega⟩ (fun h29 => ?_) (fun h30 => ?_)
      · refine r_load (i := 100) (u := 0) (w := 2) rfl rfl rfl ?_
        refine r_load (i := 101) (u := 1) (w := 0) rfl rfl rfl ?_
        refine r_load (i := 102) (u := 2) (w := 0) rfl rfl rfl ?_
        refine r_load (i := 103) (u := 3) (w := 0) rfl rfl rfl ?_
        refine r_load (i := 104) (u := 4) (w := 0) rfl rfl rfl ?_
        refine r_call (i := 105) (u := 11) (v := 195) (w := 0) (b := 0) (na := 1797) (C2 := xC195) (as := [(2, 43), vi c, vi a, vi b, vi e]) (s := []) rfl rfl rfl rfl rfl rfl rfl (sp195 (c := c) (a := a) (b := b) (e := e) hI ⟨by omega, by omega⟩ ⟨by omega, by omega⟩ ⟨by omega, by omega⟩ ⟨by omega, by omega⟩   (by omega)) (fun r31 S32 hq33 => ?_)
        obtain ⟨rfl, mc834, mcg35, e36, hI37, hF38, hR39⟩ := hq33
        have hF40 := hF.trans hF38 rfl rfl
        have hR41 := hR.trans hR39 rfl
        refine Or.inl ⟨rfl, ?_⟩
        refine r_const (i := 106) (u := 0) (z := 0) rfl rfl ?_
        refine r_store (i := 107) (u := 6) (w := 0) (L1 := [some ((2, 43)), some (vi c), some (vi a), some (vi b), some (vi e), none, some (vi 0), none, none, none, none, none]) rfl rfl rfl rfl ?_
        refine r_const (i := 108) (u := 0) (z := 0) rfl rfl ?_
        refine r_store (i := 109) (u := 7) (w := 0) (L1 := [some ((2, 43)), some (vi c), some (vi a), some (vi b), some (vi e), none, some (vi 0), some (vi 0), none, none, none, none]) rfl rfl rfl rfl ?_
        have h42 := nfz_0 (S := S32)
        have h43 := hI37.f tf43_31
        exact lp238_110 h_c h_a h_b h_e  hd _ S32 hI37 hF40 hR41 e36 0 0 ⟨by omega, by omega⟩ ⟨by omega, by omega⟩ (by omega) (by omega) (by omega) (by exact ⟨q_0, q_1, q_2, fun w9 => w9.elim (fun w8 => nhd8 (by omega) ((hd_eq hF rfl).mpr w8)) (fun w9 => w9.elim (fun w8 => nhd18 (by omega) ((hd_eq hF rfl).mpr w8)) (fun w8 => nhd28 (by omega) ((hd_eq hF rfl).mpr w8)))⟩) (by exact mcQ_fr (sMf_fr hF rfl rfl) (hF.a rfl) mc834) (by exact mr1_0) (by exact mcG_0 (sMg_fr hF rfl rfl) mcg35) (Int.lt_succ_toNat _)
      · refine r_const (i := 98) (u := 4) (z := 4) rfl rfl ?_
        exact r_retI (i := 99) rfl ⟨4, rfl, by omega, by omega, (by intro hz; first | exact absurd hz (by omega) | omega), (by intro hz; first | exact absurd hz (by omega) | assumption), (by exact Or.inr (Or.inr (Or.inr (Or.inl ⟨rfl, q_0, q_1, q_2, Or.inr (Or.inr ((hd_eq hF rfl).mp (yhd27 (by omega))))⟩)))), (by intro hz; exact absurd hz (by omega)), hI, hF, hR⟩
theorem lp238_16 {G : xk} {d : Nat} {S0 : yS} {c : Int} (h_c : 0 ≤ c ∧ c ≤ 19) {a : Int} (h_a : -1 ≤ a ∧ a ≤ 19) {b : Int} (h_b : -1 ≤ b ∧ b ≤ 19) {e : Int} (h_e : -1 ≤ e ∧ e ≤ 19) (hd : 3 ≤ d + 1) : ∀ (n : Nat), ∀ (S : yS) (hI : yI S) (hF : yFr [(43, 31)] [66, 67, 68, 78, 79] S0 S) (hR : yRm [] S0 S) (sm m : Int) (h_sm : 0 ≤ sm ∧ sm ≤ 1) (h_m : 0 ≤ m ∧ m ≤ 60) (q_0 : ocW S0 sm m c) (q_1 : m ≤ S.f 43 10) (q_2 : ¬ r1M S0 c) (hn : 60 - m < (n : Nat)), yT xPr G LY xC238 16 [some ((2, 43)), some (vi c), some (vi a), some (vi b), some (vi e), some (vi sm), some (vi m), none, none, none, none, none] [] S (d + 1) (fun r S' => ∃ z : Int, r = (1, vi z) ∧ 0 ≤ z ∧ z ≤ 6 ∧ (z = 0 → nfa S' ≤ 24) ∧ (z = 0 → MC S') ∧ mrQ S0 S' z c a b e ∧ (z = 0 → mcG S0 S' c a b e) ∧ yI S' ∧ yFr [(43, 31)] [66, 67, 68, 78, 79] S0 S' ∧ yRm [] S0 S') := by
  intro n
  induction n with
  | zero => intro S hI hF hR sm m h_sm h_m q_0 q_1 q_2 hn; exact absurd hn (by omega)
  | succ n ih =>
    intro S hI hF hR sm m h_sm h_m q_0 q_1 q_2 hn
    have h1 := hI.f tf43_10
    have h2 : S.f 43 10 = S0.f 43 10 := hF.f rfl
    refine r_load (i := 16) (u := 6) (w := 0) rfl rfl rfl ?_
    refine r_load (i := 17) (u := 0) (w := 2) rfl rfl rfl ?_
    refine r_getf (i := 18) (v := 10) (w := 11) (x := vi (S.f 43 10)) rfl ly43 rfl rfl fun h3 => ?_
    have h3 : Rg (S.f 43 10) := h3
    refine c_ge (i := 19) (v := 47) rfl ⟨by omega, by omega⟩ ⟨by omega, by omega⟩ (fun h4 => ?_) (fun h5 => ?_)
    · refine r_load (i := 47) (u := 5) (w := 0) rfl rfl rfl ?_
      refine z_ne (i := 48) (v := 51) rfl ⟨by omega, by omega⟩ (fun h6 => ?_) (fun h7 => ?_)
      · refine r_load (i := 51) (u := 2) (w := 0) rfl rfl rfl ?_
        refine z_lt (i := 52) (v := 58) rfl ⟨by omega, by omega⟩ (fun h8 => ?_) (fun h9 => ?_)
        · refine r_load (i := 58) (u := 3) (w := 0) rfl rfl rfl ?_
          refine z_lt (i := 59) (v := 68) rfl ⟨by omega, by omega⟩ (fun h10 => ?_) (fun h11 => ?_)
          · refine r_load (i := 68) (u := 4) (w := 0) rfl rfl rfl ?_
            refine z_lt (i := 69) (v := 83) rfl ⟨by omega, by omega⟩ (fun h12 => ?_) (fun h13 => ?_)
            · refine yT_drop (L1 := [some ((2, 43)), some (vi c), some (vi a), some (vi b), some (vi e), none, none, none, none, none, none, none]) rfl ?_
              exact lp238_83 h_c h_a h_b h_e  hd S hI hF hR   (by exact q_2) (by exact q_0.1 (by omega)) (by unfold r3M; omega) 
            · refine r_load (i := 70) (u := 0) (w := 2) rfl rfl rfl ?_
              refine r_getf (i := 71) (v := 2) (w := 11) (x := (2, 44)) rfl ly43 rfl rfl fun _ => ?_
              refine r_load (i := 72) (u := 4) (w := 0) rfl rfl rfl ?_
              refine a_bool (i := 73) rfl ly44 rfl (by omega) (by omega) fun h15 => ?_
              have h16 : S.a 44 e.toNat = S0.a 44 e.toNat := hF.a rfl _
              refine z_eq (i := 74) (v := 81) rfl ⟨by omega, by omega⟩ (fun h17 => ?_) (fun h18 => ?_)
              · refine r_const (i := 81) (u := 3) (z := 3) rfl rfl ?_
                exact r_retI (i := 82) rfl ⟨3, rfl, by omega, by omega, (by intro hz; first | exact absurd hz (by omega) | omega), (by intro hz; first | exact absurd hz (by omega) | assumption), (by first | exact Or.inr (Or.inl ⟨rfl, q_2, fun m9 a9 b9 => (q_0.2 (by omega)) m9 a9 (by omega)⟩) | exact Or.inr (Or.inr (Or.inl ⟨rfl, q_2, q_0.1 (by omega), by unfold r3M; omega⟩))), (by intro hz; exact absurd hz (by omega)), hI, hF, hR⟩
              · refine r_load (i := 75) (u := 4) (w := 0) rfl rfl rfl ?_
                refine r_load (i := 76) (u := 2) (w := 0) rfl rfl rfl ?_
                refine c_eq (i := 77) (v := 81) rfl ⟨by omega, by omega⟩ ⟨by omega, by omega⟩ (fun h19 => ?_) (fun h20 => ?_)
                · refine r_const (i := 81) (u := 3) (z := 3) rfl rfl ?_
                  exact r_retI (i := 82) rfl ⟨3, rfl, by omega, by omega, (by intro hz; first | exact absurd hz (by omega) | omega), (by intro hz; first | exact absurd hz (by omega) | assumption), (by first | exact Or.inr (Or.inl ⟨rfl, q_2, fun m9 a9 b9 => (q_0.2 (by omega)) m9 a9 (by omega)⟩) | exact Or.inr (Or.inr (Or.inl ⟨rfl, q_2, q_0.1 (by omega), by unfold r3M; omega⟩))), (by intro hz; exact absurd hz (by omega)), hI, hF, hR⟩
                · refine r_load (i := 78) (u := 4) (w := 0) rfl rfl rfl ?_
                  refine r_load (i := 79) (u := 3) (w := 0) rfl rfl rfl ?_
                  refine c_ne (i := 80) (v := 83) rfl ⟨by omega, by omega⟩ ⟨by omega, by omega⟩ (fun h21 => ?_) (fun h22 => ?_)
                  · refine yT_drop (L1 := [some ((2, 43)), some (vi c), some (vi a), some (vi b), some (vi e), none, none, none, none, none, none, none]) rfl ?_
                    exact lp238_83 h_c h_a h_b h_e  hd S hI hF hR   (by exact q_2) (by exact q_0.1 (by omega)) (by unfold r3M; omega) 
                  · refine r_const (i := 81) (u := 3) (z := 3) rfl rfl ?_
                    exact r_retI (i := 82) rfl ⟨3, rfl, by omega, by omega, (by intro hz; first | exact absurd hz (by omega) | omega), (by intro hz; first | exact absurd hz (by omega) | assumption), (by first | exact Or.inr (Or.inl ⟨rfl, q_2, fun m9 a9 b9 => (q_0.2 (by omega)) m9 a9 (by omega)⟩) | exact Or.inr (Or.inr (Or.inl ⟨rfl, q_2, q_0.1 (by omega), by unfold r3M; omega⟩))), (by intro hz; exact absurd hz (by omega)), hI, hF, hR⟩
          · refine r_load (i := 60) (u := 0) (w := 2) rfl rfl rfl ?_
            refine r_getf (i := 61) (v := 2) (w := 11) (x := (2, 44)) rfl ly43 rfl rfl fun _ => ?_
            refine r_load (i := 62) (u := 3) (w := 0) rfl rfl rfl ?_
            refine a_bool (i := 63) rfl ly44 rfl (by omega) (by omega) fun h24 => ?_
            have h25 : S.a 44 b.toNat = S0.a 44 b.toNat := hF.a rfl _
            refine z_eq (i := 64) (v := 81) rfl ⟨by omega, by omega⟩ (fun h26 => ?_) (fun h27 => ?_)
            · refine r_const (i := 81) (u := 3) (z := 3) rfl rfl ?_
              exact r_retI (i := 82) rfl ⟨3, rfl, by omega, by omega, (by intro hz; first | exact absurd hz (by omega) | omega), (by intro hz; first | exact absurd hz (by omega) | assumption), (by first | exact Or.inr (Or.inl ⟨rfl, q_2, fun m9 a9 b9 => (q_0.2 (by omega)) m9 a9 (by omega)⟩) | exact Or.inr (Or.inr (Or.inl ⟨rfl, q_2, q_0.1 (by omega), by unfold r3M; omega⟩))), (by intro hz; exact absurd hz (by omega)), hI, hF, hR⟩
            · refine r_load (i := 65) (u := 3) (w := 0) rfl rfl rfl ?_
              refine r_load (i := 66) (u := 2) (w := 0) rfl rfl rfl ?_
              refine c_eq (i := 67) (v := 81) rfl ⟨by omega, by omega⟩ ⟨by omega, by omega⟩ (fun h28 => ?_) (fun h29 => ?_)
              · refine r_const (i := 81) (u := 3) (z := 3) rfl rfl ?_
                exact r_retI (i := 82) rfl ⟨3, rfl, by omega, by omega, (by intro hz; first | exact absurd hz (by omega) | omega), (by intro hz; first | exact absurd hz (by omega) | assumption), (by first | exact Or.inr (Or.inl ⟨rfl, q_2, fun m9 a9 b9 => (q_0.2 (by omega)) m9 a9 (by omega)⟩) | exact Or.inr (Or.inr (Or.inl ⟨rfl, q_2, q_0.1 (by omega), by unfold r3M; omega⟩))), (by intro hz; exact absurd hz (by omega)), hI, hF, hR⟩
              · refine r_load (i := 68) (u := 4) (w := 0) rfl rfl rfl ?_
                refine z_lt (i := 69) (v := 83) rfl ⟨by omega, by omega⟩ (fun h30 => ?_) (fun h31 => ?_)
                · refine yT_drop (L1 := [some ((2, 43)), some (vi c), some (vi a), some (vi b), some (vi e), none, none, none, none, none, none, none]) rfl ?_
                  exact lp238_83 h_c h_a h_b h_e  hd S hI hF hR   (by exact q_2) (by exact q_0.1 (by omega)) (by unfold r3M; omega) 
                · refine r_load (i := 70) (u := 0) (w := 2) rfl rfl rfl ?_
                  refine r_getf (i := 71) (v := 2) (w := 11) (x := (2, 44)) rfl ly43 rfl rfl fun _ => ?_
                  refine r_load (i := 72) (u := 4) (w := 0) rfl rfl rfl ?_
                  refine a_bool (i := 73) rfl ly44 rfl (by omega) (by omega) fun h33 => ?_
                  have h34 : S.a 44 e.toNat = S0.a 44 e.toNat := hF.a rfl _
                  refine z_eq (i := 74) (v := 81) rfl ⟨by omega, by omega⟩ (fun h35 => ?_) (fun h36 => ?_)
                  · refine r_const (i := 81) (u := 3) (z := 3) rfl rfl ?_
                    exact r_retI (i := 82) rfl ⟨3, rfl, by omega, by omega, (by intro hz; first | exact absurd hz (by omega) | omega), (by intro hz; first | exact absurd hz (by omega) | assumption), (by first | exact Or.inr (Or.inl ⟨rfl, q_2, fun m9 a9 b9 => (q_0.2 (by omega)) m9 a9 (by omega)⟩) | exact Or.inr (Or.inr (Or.inl ⟨rfl, q_2, q_0.1 (by omega), by unfold r3M; omega⟩))), (by intro hz; exact absurd hz (by omega)), hI, hF, hR⟩
                  · refine r_load (i := 75) (u := 4) (w := 0) rfl rfl rfl ?_
                    refine r_load (i := 76) (u := 2) (w := 0) rfl rfl rfl ?_
                    refine c_eq (i := 77) (v := 81) rfl ⟨by omega, by omega⟩ ⟨by omega, by omega⟩ (fun h37 => ?_) (fun h38 => ?_)
                    · refine r_const (i := 81) (u := 3) (z := 3) rfl rfl ?_
                      exact r_retI (i := 82) rfl ⟨3, rfl, by omega, by omega, (by intro hz; first | exact absurd hz (by omega) | omega), (by intro hz; first | exact absurd hz (by omega) | assumption), (by first | exact Or.inr (Or.inl ⟨rfl, q_2, fun m9 a9 b9 => (q_0.2 (by omega)) m9 a9 (by omega)⟩) | exact Or.inr (Or.inr (Or.inl ⟨rfl, q_2, q_0.1 (by omega), by unfold r3M; omega⟩))), (by intro hz; exact absurd hz (by omega)), hI, hF, hR⟩
                    · refine r_load (i := 78) (u := 4) (w := 0) rfl rfl rfl ?_
                      refine r_load (i := 79) (u := 3) (w := 0) rfl rfl rfl ?_
                      refine c_ne (i := 80) (v := 83) rfl ⟨by omega, by omega⟩ ⟨by omega, by omega⟩ (fun h39 => ?_) (fun h40 => ?_)
                      · refine yT_drop (L1 := [some ((2, 43)), some (vi c), some (vi a), some (vi b), some (vi e), none, none, none, none, none, none, none]) rfl ?_
                        exact lp238_83 h_c h_a h_b h_e  hd S hI hF hR   (by exact q_2) (by exact q_0.1 (by omega)) (by unfold r3M; omega) 
                      · refine r_const (i := 81) (u := 3) (z := 3) rfl rfl ?_
                        exact r_retI (i := 82) rfl ⟨3, rfl, by omega, by omega, (by intro hz; first | exact absurd hz (by omega) | omega), (by intro hz; first | exact absurd hz (by omega) | assumption), (by first | exact Or.inr (Or.inl ⟨rfl, q_2, fun m9 a9 b9 => (q_0.2 (by omega)) m9 a9 (by omega)⟩) | exact Or.inr (Or.inr (Or.inl ⟨rfl, q_2, q_0.1 (by omega), by unfold r3M; omega⟩))), (by intro hz; exact absurd hz (by omega)), hI, hF, hR⟩
        · refine r_load (i := 53) (u := 0) (w := 2) rfl rfl rfl ?_
          refine r_getf (i := 54) (v := 2) (w := 11) (x := (2, 44)) rfl ly43 rfl rfl fun _ => ?_
          refine r_load (i := 55) (u := 2) (w := 0) rfl rfl rfl ?_
          refine a_bool (i := 56) rfl ly44 rfl (by omega) (by omega) fun h42 => ?_
          have h43 : S.a 44 a.toNat = S0.a 44 a.toNat := hF.a rfl _
          refine z_eq (i := 57) (v := 81) rfl ⟨by omega, by omega⟩ (fun h44 => ?_) (fun h45 => ?_)
          · refine r_const (i := 81) (u := 3) (z := 3) rfl rfl ?_
            exact r_retI (i := 82) rfl ⟨3, rfl, by omega, by omega, (by intro hz; first | exact absurd hz (by omega) | omega), (by intro hz; first | exact absurd hz (by omega) | assumption), (by first | exact Or.inr (Or.inl ⟨rfl, q_2, fun m9 a9 b9 => (q_0.2 (by omega)) m9 a9 (by omega)⟩) | exact Or.inr (Or.inr (Or.inl ⟨rfl, q_2, q_0.1 (by omega), by unfold r3M; omega⟩))), (by intro hz; exact absurd hz (by omega)), hI, hF, hR⟩
          · refine r_load (i := 58) (u := 3) (w := 0) rfl rfl rfl ?_
            refine z_lt (i := 59) (v := 68) rfl ⟨by omega, by omega⟩ (fun h46 => ?_) (fun h47 => ?_)
            · refine r_load (i := 68) (u := 4) (w := 0) rfl rfl rfl ?_
              refine z_lt (i := 69) (v := 83) rfl ⟨by omega, by omega⟩ (fun h48 => ?_) (fun h49 => ?_)
              · refine yT_drop (L1 := [some ((2, 43)), some (vi c), some (vi a), some (vi b), some (vi e), none, none, none, none, none, none, none]) rfl ?_
                exact lp238_83 h_c h_a h_b h_e  hd S hI hF hR   (by exact q_2) (by exact q_0.1 (by omega)) (by unfold r3M; omega) 
              · refine r_load (i := 70) (u := 0) (w := 2) rfl rfl rfl ?_
                refine r_getf (i := 71) (v := 2) (w := 11) (x := (2, 44)) rfl ly43 rfl rfl fun _ => ?_
                refine r_load (i := 72) (u := 4) (w := 0) rfl rfl rfl ?_
                refine a_bool (i := 73) rfl ly44 rfl (by omega) (by omega) fun h51 => ?_
                have h52 : S.a 44 e.toNat = S0.a 44 e.toNat := hF.a rfl _
                refine z_eq (i := 74) (v := 81) rfl ⟨by omega, by omega⟩ (fun h53 => ?_) (fun h54 => ?_)
                · refine r_const (i := 81) (u := 3) (z := 3) rfl rfl ?_
                  exact r_retI (i := 82) rfl ⟨3, rfl, by omega, by omega, (by intro hz; first | exact absurd hz (by omega) | omega), (by intro hz; first | exact absurd hz (by omega) | assumption), (by first | exact Or.inr (Or.inl ⟨rfl, q_2, fun m9 a9 b9 => (q_0.2 (by omega)) m9 a9 (by omega)⟩) | exact Or.inr (Or.inr (Or.inl ⟨rfl, q_2, q_0.1 (by omega), by unfold r3M; omega⟩))), (by intro hz; exact absurd hz (by omega)), hI, hF, hR⟩
                · refine r_load (i := 75) (u := 4) (w := 0) rfl rfl rfl ?_
                  refine r_load (i := 76) (u := 2) (w := 0) rfl rfl rfl ?_
                  refine c_eq (i := 77) (v := 81) rfl ⟨by omega, by omega⟩ ⟨by omega, by omega⟩ (fun h55 => ?_) (fun h56 => ?_)
                  · refine r_const (i := 81) (u := 3) (z := 3) rfl rfl ?_
                    exact r_retI (i := 82) rfl ⟨3, rfl, by omega, by omega, (by intro hz; first | exact absurd hz (by omega) | omega), (by intro hz; first | exact absurd hz (by omega) | assumption), (by first | exact Or.inr (Or.inl ⟨rfl, q_2, fun m9 a9 b9 => (q_0.2 (by omega)) m9 a9 (by omega)⟩) | exact Or.inr (Or.inr (Or.inl ⟨rfl, q_2, q_0.1 (by omega), by unfold r3M; omega⟩))), (by intro hz; exact absurd hz (by omega)), hI, hF, hR⟩
                  · refine r_load (i := 78) (u := 4) (w := 0) rfl rfl rfl ?_
                    refine r_load (i := 79) (u := 3) (w := 0) rfl rfl rfl ?_
                    refine c_ne (i := 80) (v := 83) rfl ⟨by omega, by omega⟩ ⟨by omega, by omega⟩ (fun h57 => ?_) (fun h58 => ?_)
                    · refine yT_drop (L1 := [some ((2, 43)), some (vi c), some (vi a), some (vi b), some (vi e), none, none, none, none, none, none, none]) rfl ?_
                      exact lp238_83 h_c h_a h_b h_e  hd S hI hF hR   (by exact q_2) (by exact q_0.1 (by omega)) (by unfold r3M; omega) 
                    · refine r_const (i := 81) (u := 3) (z := 3) rfl rfl ?_
                      exact r_retI (i := 82) rfl ⟨3, rfl, by omega, by omega, (by intro hz; first | exact absurd hz (by omega) | omega), (by intro hz; first | exact absurd hz (by omega) | assumption), (by first | exact Or.inr (Or.inl ⟨rfl, q_2, fun m9 a9 b9 => (q_0.2 (by omega)) m9 a9 (by omega)⟩) | exact Or.inr (Or.inr (Or.inl ⟨rfl, q_2, q_0.1 (by omega), by unfold r3M; omega⟩))), (by intro hz; exact absurd hz (by omega)), hI, hF, hR⟩
            · refine r_load (i := 60) (u := 0) (w := 2) rfl rfl rfl ?_
              refine r_getf (i := 61) (v := 2) (w := 11) (x := (2, 44)) rfl ly43 rfl rfl fun _ => ?_
              refine r_load (i := 62) (u := 3) (w := 0) rfl rfl rfl ?_
              refine a_bool (i := 63) rfl ly44 rfl (by omega) (by omega) fun h60 => ?_
              have h61 : S.a 44 b.toNat = S0.a 44 b.toNat := hF.a rfl _
              refine z_eq (i := 64) (v := 81) rfl ⟨by omega, by omega⟩ (fun h62 => ?_) (fun h63 => ?_)
              · refine r_const (i := 81) (u := 3) (z := 3) rfl rfl ?_
                exact r_retI (i := 82) rfl ⟨3, rfl, by omega, by omega, (by intro hz; first | exact absurd hz (by omega) | omega), (by intro hz; first | exact absurd hz (by omega) | assumption), (by first | exact Or.inr (Or.inl ⟨rfl, q_2, fun m9 a9 b9 => (q_0.2 (by omega)) m9 a9 (by omega)⟩) | exact Or.inr (Or.inr (Or.inl ⟨rfl, q_2, q_0.1 (by omega), by unfold r3M; omega⟩))), (by intro hz; exact absurd hz (by omega)), hI, hF, hR⟩
              · refine r_load (i := 65) (u := 3) (w := 0) rfl rfl rfl ?_
                refine r_load (i := 66) (u := 2) (w := 0) rfl rfl rfl ?_
                refine c_eq (i := 67) (v := 81) rfl ⟨by omega, by omega⟩ ⟨by omega, by omega⟩ (fun h64 => ?_) (fun h65 => ?_)
                · refine r_const (i := 81) (u := 3) (z := 3) rfl rfl ?_
                  exact r_retI (i := 82) rfl ⟨3, rfl, by omega, by omega, (by intro hz; first | exact absurd hz (by omega) | omega), (by intro hz; first | exact absurd hz (by omega) | assumption), (by first | exact Or.inr (Or.inl ⟨rfl, q_2, fun m9 a9 b9 => (q_0.2 (by omega)) m9 a9 (by omega)⟩) | exact Or.inr (Or.inr (Or.inl ⟨rfl, q_2, q_0.1 (by omega), by unfold r3M; omega⟩))), (by intro hz; exact absurd hz (by omega)), hI, hF, hR⟩
                · refine r_load (i := 68) (u := 4) (w := 0) rfl rfl rfl ?_
                  refine z_lt (i := 69) (v := 83) rfl ⟨by omega, by omega⟩ (fun h66 => ?_) (fun h67 => ?_)
                  · refine yT_drop (L1 := [some ((2, 43)), some (vi c), some (vi a), some (vi b), some (vi e), none, none, none, none, none, none, none]) rfl ?_
                    exact lp238_83 h_c h_a h_b h_e  hd S hI hF hR   (by exact q_2) (by exact q_0.1 (by omega)) (by unfold r3M; omega) 
                  · refine r_load (i := 70) (u := 0) (w := 2) rfl rfl rfl ?_
                    refine r_getf (i := 71) (v := 2) (w := 11) (x := (2, 44)) rfl ly43 rfl rfl fun _ => ?_
                    refine r_load (i := 72) (u := 4) (w := 0) rfl rfl rfl ?_
                    refine a_bool (i := 73) rfl ly44 rfl (by omega) (by omega) fun h69 => ?_
                    have h70 : S.a 44 e.toNat = S0.a 44 e.toNat := hF.a rfl _
                    refine z_eq (i := 74) (v := 81) rfl ⟨by omega, by omega⟩ (fun h71 => ?_) (fun h72 => ?_)
                    · refine r_const (i := 81) (u := 3) (z := 3) rfl rfl ?_
                      exact r_retI (i := 82) rfl ⟨3, rfl, by omega, by omega, (by intro hz; first | exact absurd hz (by omega) | omega), (by intro hz; first | exact absurd hz (by omega) | assumption), (by first | exact Or.inr (Or.inl ⟨rfl, q_2, fun m9 a9 b9 => (q_0.2 (by omega)) m9 a9 (by omega)⟩) | exact Or.inr (Or.inr (Or.inl ⟨rfl, q_2, q_0.1 (by omega), by unfold r3M; omega⟩))), (by intro hz; exact absurd hz (by omega)), hI, hF, hR⟩
                    · refine r_load (i := 75) (u := 4) (w := 0) rfl rfl rfl ?_
                      refine r_load (i := 76) (u := 2) (w := 0) rfl rfl rfl ?_
                      refine c_eq (i := 77) (v := 81) rfl ⟨by omega, by omega⟩ ⟨by omega, by omega⟩ (fun h73 => ?_) (fun h74 => ?_)
                      · refine r_const (i := 81) (u := 3) (z := 3) rfl rfl ?_
                        exact r_retI (i := 82) rfl ⟨3, rfl, by omega, by omega, (by intro hz; first | exact absurd hz (by omega) | omega), (by intro hz; first | exact absurd hz (by omega) | assumption), (by first | exact Or.inr (Or.inl ⟨rfl, q_2, fun m9 a9 b9 => (q_0.2 (by omega)) m9 a9 (by omega)⟩) | exact Or.inr (Or.inr (Or.inl ⟨rfl, q_2, q_0.1 (by omega), by unfold r3M; omega⟩))), (by intro hz; exact absurd hz (by omega)), hI, hF, hR⟩
                      · refine r_load (i := 78) (u := 4) (w := 0) rfl rfl rfl ?_
                        refine r_load (i := 79) (u := 3) (w := 0) rfl rfl rfl ?_
                        refine c_ne (i := 80) (v := 83) rfl ⟨by omega, by omega⟩ ⟨by omega, by omega⟩ (fun h75 => ?_) (fun h76 => ?_)
                        · refine yT_drop (L1 := [some ((2, 43)), some (vi c), some (vi a), some (vi b), some (vi e), none, none, none, none, none, none, none]) rfl ?_
                          exact lp238_83 h_c h_a h_b h_e  hd S hI hF hR   (by exact q_2) (by exact q_0.1 (by omega)) (by unfold r3M; omega) 
                        · refine r_const (i := 81) (u := 3) (z := 3) rfl rfl ?_
                          exact r_retI (i := 82) rfl ⟨3, rfl, by omega, by omega, (by intro hz; first | exact absurd hz (by omega) | omega), (by intro hz; first | exact absurd hz (by omega) | assumption), (by first | exact Or.inr (Or.inl ⟨rfl, q_2, fun m9 a9 b9 => (q_0.2 (by omega)) m9 a9 (by omega)⟩) | exact Or.inr (Or.inr (Or.inl ⟨rfl, q_2, q_0.1 (by omega), by unfold r3M; omega⟩))), (by intro hz; exact absurd hz (by omega)), hI, hF, hR⟩
      · refine r_const (i := 49) (u := 2) (z := 2) rfl rfl ?_
        exact r_retI (i := 50) rfl ⟨2, rfl, by omega, by omega, (by intro hz; first | exact absurd hz (by omega) | omega), (by intro hz; first | exact absurd hz (by omega) | assumption), (by first | exact Or.inr (Or.inl ⟨rfl, q_2, fun m9 a9 b9 => (q_0.2 (by omega)) m9 a9 (by omega)⟩) | exact Or.inr (Or.inr (Or.inl ⟨rfl, q_2, q_0.1 (by omega), by unfold r3M; omega⟩))), (by intro hz; exact absurd hz (by omega)), hI, hF, hR⟩
    · refine r_load (i := 20) (u := 5) (w := 0) rfl rfl rfl ?_
      refine z_ne (i := 21) (v := 41) rfl ⟨by omega, by omega⟩ (fun h77 => ?_) (fun h78 => ?_)
      · refine r_const (i := 41) (u := 1) (z := 1) rfl rfl ?_
        refine r_goto (i := 42) (v := 44) rfl ?_
        refine r_store (i := 44) (u := 5) (w := 0) (L1 := [some ((2, 43)), some (vi c), some (vi a), some (vi b), some (vi e), some (vi 1), some (vi m), none, none, none, none, none]) rfl rfl rfl rfl ?_
        refine r_iinc (i := 45) (u := 1) (v := 6) (s := 1) (L1 := [some ((2, 43)), some (vi c), some (vi a), some (vi b), some (vi e), some (vi 1), some (vi (m + 1)), none, none, none, none, none]) rfl rfl rfl rfl rfl ?_
        refine r_goto (i := 46) (v := 16) rfl ?_
        exact ih S hI hF hR 1 (m + 1) ⟨by omega, by omega⟩ ⟨by omega, by omega⟩ (by first | exact ocW_k q_0 (by omega) (by decide) | exact ocW_y (by omega) (by omega) (by unfold opM; rw [← show S.a 54 m.toNat = S0.a 54 m.toNat from hF.a rfl _]; omega) (by decide) | exact ocW_n q_0 (by omega) (by unfold opM; rw [← show S.a 54 m.toNat = S0.a 54 m.toNat from hF.a rfl _]; omega)) (by omega) (by exact q_2) (by omega)
      · refine r_load (i := 22) (u := 0) (w := 2) rfl rfl rfl ?_
        refine r_getf (i := 23) (v := 11) (w := 11) (x := (2, 52)) rfl ly43 rfl rfl fun _ => ?_
        refine r_load (i := 24) (u := 6) (w := 0) rfl rfl rfl ?_
        refine a_int (i := 25) rfl ly52 rfl (by omega) (by omega) fun h80 => ?_
        have h81 := hI.a ta52 m.toNat
        have h82 : S.a 52 m.toNat = S0.a 52 m.toNat := hF.a rfl _
        refine r_load (i := 26) (u := 1) (w := 0) rfl rfl rfl ?_
        refine c_ne (i := 27) (v := 43) rfl ⟨by omega, by omega⟩ ⟨by omega, by omega⟩ (fun h83 => ?_) (fun h84 => ?_)
        · refine r_const (i := 43) (u := 0) (z := 0) rfl rfl ?_
          refine r_store (i := 44) (u := 5) (w := 0) (L1 := [some ((2, 43)), some (vi c), some (vi a), some (vi b), some (vi e), some (vi 0), some (vi m), none, none, none, none, none]) rfl rfl rfl rfl ?_
          refine r_iinc (i := 45) (u := 1) (v := 6) (s := 1) (L1 := [some ((2, 43)), some (vi c), some (vi a), some (vi b), some (vi e), some (vi 0), some (vi (m + 1)), none, none, none, none, none]) rfl rfl rfl rfl rfl ?_
          refine r_goto (i := 46) (v := 16) rfl ?_
          exact ih S hI hF hR 0 (m + 1) ⟨by omega, by omega⟩ ⟨by omega, by omega⟩ (by first | exact ocW_k q_0 (by omega) (by decide) | exact ocW_y (by omega) (by omega) (by unfold opM; rw [← show S.a 54 m.toNat = S0.a 54 m.toNat from hF.a rfl _]; omega) (by decide) | exact ocW_n q_0 (by omega) (by unfold opM; rw [← show S.a 54 m.toNat = S0.a 54 m.toNat from hF.a rfl _]; omega)) (by omega) (by exact q_2) (by omega)
        · refine r_load (i := 28) (u := 0) (w := 2) rfl rfl rfl ?_
          refine r_getf (i := 29) (v := 12) (w := 11) (x := (2, 53)) rfl ly43 rfl rfl fun _ => ?_
          refine r_load (i := 30) (u := 6) (w := 0) rfl rfl rfl ?_
          refine a_int (i := 31) rfl ly53 rfl (by omega) (by omega) fun h86 => ?_
          have h87 := hI.a ta53 m.toNat
          have h88 : S.a 53 m.toNat = S0.a 53 m.toNat := hF.a rfl _
          refine r_const (i := 32) (u := 10) (z := 10) rfl rfl ?_
          refine c_ne (i := 33) (v := 43) rfl ⟨by omega, by omega⟩ ⟨by omega, by omega⟩ (fun h89 => ?_) (fun h90 => ?_)
          · refine r_const (i := 43) (u := 0) (z := 0) rfl rfl ?_
            refine r_store (i := 44) (u := 5) (w := 0) (L1 := [some ((2, 43)), some (vi c), some (vi a), some (vi b), some (vi e), some (vi 0), some (vi m), none, none, none, none, none]) rfl rfl rfl rfl ?_
            refine r_iinc (i := 45) (u := 1) (v := 6) (s := 1) (L1 := [some ((2, 43)), some (vi c), some (vi a), some (vi b), some (vi e), some (vi 0), some (vi (m + 1)), none, none, none, none, none]) rfl rfl rfl rfl rfl ?_
            refine r_goto (i := 46) (v := 16) rfl ?_
            exact ih S hI hF hR 0 (m + 1) ⟨by omega, by omega⟩ ⟨by omega, by omega⟩ (by first | exact ocW_k q_0 (by omega) (by decide) | exact ocW_y (by omega) (by omega) (by unfold opM; rw [← show S.a 54 m.toNat = S0.a 54 m.toNat from hF.a rfl _]; omega) (by decide) | exact ocW_n q_0 (by omega) (by unfold opM; rw [← show S.a 54 m.toNat = S0.a 54 m.toNat from hF.a rfl _]; omega)) (by omega) (by exact q_2) (by omega)
          · refine r_load (i := 34) (u := 0) (w := 2) rfl rfl rfl ?_
            refine r_getf (i := 35) (v := 13) (w := 11) (x := (2, 54)) rfl ly43 rfl rfl fun _ => ?_
            refine r_load (i := 36) (u := 6) (w := 0) rfl rfl rfl ?_
            refine a_int (i := 37) rfl ly54 rfl (by omega) (by omega) fun h92 => ?_
            have h93 := hI.a ta54 m.toNat
            have h94 : S.a 54 m.toNat = S0.a 54 m.toNat := hF.a rfl _
            refine r_const (i := 38) (u := 4) (z := 4) rfl rfl ?_
            refine r_iand (i := 39) rfl ?_
            have h95 := @yand_c (S.a 54 m.toNat) 4 (by decide) (by decide)
            refine z_ne (i := 40) (v := 43) rfl ⟨by omega, by omega⟩ (fun h96 => ?_) (fun h97 => ?_)
            · refine r_const (i := 43) (u := 0) (z := 0) rfl rfl ?_
              refine r_store (i := 44) (u := 5) (w := 0) (L1 := [some ((2, 43)), some (vi c), some (vi a), some (vi b), some (vi e), some (vi 0), some (vi m), none, none, none, none, none]) rfl rfl rfl rfl ?_
              refine r_iinc (i := 45) (u := 1) (v := 6) (s := 1) (L1 := [some ((2, 43)), some (vi c), some (vi a), some (vi b), some (vi e), some (vi 0), some (vi (m + 1)), none, none, none, none, none]) rfl rfl rfl rfl rfl ?_
              refine r_goto (i := 46) (v := 16) rfl ?_
              exact ih S hI hF hR 0 (m + 1) ⟨by omega, by omega⟩ ⟨by omega, by omega⟩ (by first | exact ocW_k q_0 (by omega) (by decide) | exact ocW_y (by omega) (by omega) (by unfold opM; rw [← show S.a 54 m.toNat = S0.a 54 m.toNat from hF.a rfl _]; omega) (by decide) | exact ocW_n q_0 (by omega) (by unfold opM; rw [← show S.a 54 m.toNat = S0.a 54 m.toNat from hF.a rfl _]; omega)) (by omega) (by exact q_2) (by omega)
            · refine r_const (i := 41) (u := 1) (z := 1) rfl rfl ?_
              refine r_goto (i := 42) (v := 44) rfl ?_
              refine r_store (i := 44) (u := 5) (w := 0) (L1 := [some ((2, 43)), some (vi c), some (vi a), some (vi b), some (vi e), some (vi 1), some (vi m), none, none, none, none, none]) rfl rfl rfl rfl ?_
              refine r_iinc (i := 45) (u := 1) (v := 6) (s := 1) (L1 := [some ((2, 43)), some (vi c), some (vi a), some (vi b), some (vi e), some (vi 1), some (vi (m + 1)), none, none, none, none, none]) rfl rfl rfl rfl rfl ?_
              refine r_goto (i := 46) (v := 16) rfl ?_
              exact ih S hI hF hR 1 (m + 1) ⟨by omega, by omega⟩ ⟨by omega, by omega⟩ (by first | exact ocW_k q_0 (by omega) (by decide) | exact ocW_y (by omega) (by omega) (by unfold opM; rw [← show S.a 54 m.toNat = S0.a 54 m.toNat from hF.a rfl _]; omega) (by decide) | exact ocW_n q_0 (by omega) (by unfold opM; rw [← show S.a 54 m.toNat = S0.a 54 m.toNat from hF.a rfl _]; omega)) (by omega) (by exact q_2) (by omega)
/-- ProxyForgeModel.refusal -/
theorem sp238 {G : xk} {S : yS} {d : Nat} (hI : yI S) {c : Int} (h_c : 0 ≤ c ∧ c ≤ 19) {a : Int} (h_a : -1 ≤ a ∧ a ≤ 19) {b : Int} (h_b : -1 ≤ b ∧ b ≤ 19) {e : Int} (h_e : -1 ≤ e ∧ e ≤ 19) (hd : 3 ≤ d) : yT xPr G LY xC238 0 [some ((2, 43)), some (vi c), some (vi a), some (vi b), some (vi e)] [] S d (fun r S' => ∃ z : Int, r = (1, vi z) ∧ 0 ≤ z ∧ z ≤ 6 ∧ (z = 0 → nfa S' ≤ 24) ∧ (z = 0 → MC S') ∧ mrQ S S' z c a b e ∧ (z = 0 → mcG S S' c a b e) ∧ yI S' ∧ yFr [(43, 31)] [66, 67, 68, 78, 79] S S' ∧ yRm [] S S') := by
  refine yT_pad 7 ?_
  show yT xPr G LY xC238 0 [some ((2, 43)), some (vi c), some (vi a), some (vi b), some (vi e), none, none, none, none, none, none, none] [] S d _
  obtain ⟨d, rfl⟩ : ∃ q, d = q + 1 := ⟨d - 1, by omega⟩
  have hF : yFr [(43, 31)] [66, 67, 68, 78, 79] S S := yFr.refl S
  have hR : yRm [] S S := yRm.refl S
  refine r_load (i := 0) (u := 0) (w := 2) rfl rfl rfl ?_
  refine r_getf (i := 1) (v := 2) (w := 11) (x := (2, 44)) rfl ly43 rfl rfl fun _ => ?_
  refine r_load (i := 2) (u := 1) (w := 0) rfl rfl rfl ?_
  refine a_bool (i := 3) rfl ly44 rfl (by omega) (by omega) fun h2 => ?_
  refine z_ne (i := 4) (v := 10) rfl ⟨by omega, by omega⟩ (fun h3 => ?_) (fun h4 => ?_)
  · refine r_const (i := 10) (u := 1) (z := 1) rfl rfl ?_
    exact r_retI (i := 11) rfl ⟨1, rfl, by omega, by omega, (by intro hz; first | exact absurd hz (by omega) | omega), (by intro hz; first | exact absurd hz (by omega) | assumption), (by exact Or.inl ⟨rfl, by unfold r1M; omega⟩), (by intro hz; exact absurd hz (by omega)), hI, hF, hR⟩
  · refine r_load (i := 5) (u := 0) (w := 2) rfl rfl rfl ?_
    refine r_getf (i := 6) (v := 4) (w := 11) (x := (2, 46)) rfl ly43 rfl rfl fun _ => ?_
    refine r_load (i := 7) (u := 1) (w := 0) rfl rfl rfl ?_
    refine a_bool (i := 8) rfl ly46 rfl (by omega) (by omega) fun h6 => ?_
    refine z_eq (i := 9) (v := 12) rfl ⟨by omega, by omega⟩ (fun h7 => ?_) (fun h8 => ?_)
    · refine r_const (i := 12) (u := 0) (z := 0) rfl rfl ?_
      refine r_store (i := 13) (u := 5) (w := 0) (L1 := [some ((2, 43)), some (vi c), some (vi a), some (vi b), some (vi e), some (vi 0), none, none, none, none, none, none]) rfl rfl rfl rfl ?_
      refine r_const (i := 14) (u := 0) (z := 0) rfl rfl ?_
      refine r_store (i := 15) (u := 6) (w := 0) (L1 := [some ((2, 43)), some (vi c), some (vi a), some (vi b), some (vi e), some (vi 0), some (vi 0), none, none, none, none, none]) rfl rfl rfl rfl ?_
      have h9 := hI.f tf43_10
      exact lp238_16 h_c h_a h_b h_e  hd _ S hI hF hR 0 0 ⟨by omega, by omega⟩ ⟨by omega, by omega⟩ (by exact ocW_0) (by omega) (by unfold r1M; omega) (Int.lt_succ_toNat _)
    · refine r_const (i := 10) (u := 1) (z := 1) rfl rfl ?_
      exact r_retI (i := 11) rfl ⟨1, rfl, by omega, by omega, (by intro hz; first | exact absurd hz (by omega) | omega), (by intro hz; first | exact absurd hz (by omega) | assumption), (by exact Or.inl ⟨rfl, by unfold r1M; omega⟩), (by intro hz; exact absurd hz (by omega)), hI, hF, hR⟩
end XNC
