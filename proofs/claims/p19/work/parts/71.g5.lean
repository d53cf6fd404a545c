set_option linter.unusedVariables false
set_option maxRecDepth 4000
noncomputable section XNC
theorem lp52_21 {G : xk} {d : Nat} {S0 : yS} {t : Int} (h_t : 0 ≤ t ∧ t ≤ 19) {a : Int} (h_a : -1 ≤ a ∧ a ≤ 19) {b : Int} (h_b : -1 ≤ b ∧ b ≤ 19) {c : Int} (h_c : -1 ≤ c ∧ c ≤ 19) (hd : 0 ≤ d) : ∀ (n : Nat), ∀ (S : yS) (hI : yI S) (hF : yFr [(17, 6), (17, 7)] [18] S0 S) (hR : yRm [] S0 S) (e_FA : FA S)  (q_0 : S.f 17 6 = t) (q_1 : S.a 18 0 = a) (q_2 : S.a 18 1 = b) (q_3 : S.a 18 2 = c) (q_4 : asN S) (hn : 3 - S.f 17 7 < (n : Nat)), yT xPr G LY xC52 21 [some ((2, 17)), some (vi t), some (vi a), some (vi b), some (vi c)] [] S d (fun r S' => r = (0, (0, 0)) ∧ asQ S' t a b c ∧ FA S' ∧ yI S' ∧ yFr [(17, 6), (17, 7)] [18] S0 S' ∧ yRm [] S0 S') := by
  intro n
  induction n with
  | zero => intro S hI hF hR e_FA   q_0 q_1 q_2 q_3 q_4 hn; have hz0 := hI.f tf17_7; exact absurd hn (by omega)
  | succ n ih =>
    intro S hI hF hR e_FA   q_0 q_1 q_2 q_3 q_4 hn
    have h1 := hI.f tf17_6
    have h2 := hI.a ta18 0
    have h3 := hI.a ta18 1
    have h4 := hI.a ta18 2
    have h5 := hI.f tf17_7
    refine r_load (i := 21) (u := 0) (w := 2) rfl rfl rfl ?_
    refine r_getf (i := 22) (v := 7) (w := 3) (x := vi (S.f 17 7)) rfl ly17 rfl rfl fun h6 => ?_
    have h6 : Rg (S.f 17 7) := h6
    refine r_const (i := 23) (u := 3) (z := 3) rfl rfl ?_
    refine c_ge (i := 24) (v := 39) rfl ⟨by omega, by omega⟩ ⟨by omega, by omega⟩ (fun h7 => ?_) (fun h8 => ?_)
    · exact r_ret0 (i := 39) rfl ⟨rfl, (by exact as_end (by omega) q_1 q_2 q_3 q_4 (by omega) (by omega) (by omega)), e_FA, hI, hF, hR⟩
    · refine r_load (i := 25) (u := 0) (w := 2) rfl rfl rfl ?_
      refine r_getf (i := 26) (v := 2) (w := 3) (x := (2, 18)) rfl ly17 rfl rfl fun _ => ?_
      refine r_load (i := 27) (u := 0) (w := 2) rfl rfl rfl ?_
      refine r_getf (i := 28) (v := 7) (w := 3) (x := vi (S.f 17 7)) rfl ly17 rfl rfl fun h10 => ?_
      have h10 : Rg (S.f 17 7) := h10
      refine a_int (i := 29) rfl ly18 rfl (by omega) (by omega) fun h11 => ?_
      have h12 := hI.a ta18 (S.f 17 7).toNat
      refine r_const (i := 30) (u := 4294967295) (z := -1) rfl rfl ?_
      refine c_eq (i := 31) (v := 39) rfl ⟨by omega, by omega⟩ ⟨by omega, by omega⟩ (fun h13 => ?_) (fun h14 => ?_)
      · exact r_ret0 (i := 39) rfl ⟨rfl, (by exact as_end (by omega) q_1 q_2 q_3 q_4 (by omega) (by omega) (by omega)), e_FA, hI, hF, hR⟩
      · refine r_load (i := 32) (u := 0) (w := 2) rfl rfl rfl ?_
        refine r_dup (i := 33) rfl rfl ?_
        refine r_getf (i := 34) (v := 7) (w := 3) (x := vi (S.f 17 7)) rfl ly17 rfl rfl fun h15 => ?_
        have h15 : Rg (S.f 17 7) := h15
        refine r_const (i := 35) (u := 1) (z := 1) rfl rfl ?_
        refine r_iadd (i := 36) rfl ?_
        refine r_putI (i := 37) (v := 7) (w := 3) rfl ly17 rfl ⟨by omega, by omega⟩ ?_
        have hI17 := hI.setf (b := 17) (w := 7) (z := (S.f 17 7) + 1) tf17_7 rfl (by omega) (by omega)
        have hF19 := hF.setf (b := 17) (w := 7) (z := (S.f 17 7) + 1) rfl
        have hR20 := hR.setf (b := 17) (w := 7) (z := (S.f 17 7) + 1)
        refine yT_gen (fun S16 hS18 => ?_)
        rw [hS18] at hI17 hF19 hR20 
        refine r_goto (i := 38) (v := 21) rfl ?_
        have h21 := hI17.f tf17_7
        have h22 : S16.f 17 7 = (S.f 17 7) + 1 := by rw [← hS18]; exact ysf_eq
        have h23 := hI17.f tf17_6
        have h24 : S16.f 17 6 = S.f 17 6 := by rw [← hS18]; exact ysf_ne (by decide)
        have h25 := hI17.a ta18 0
        have h26 : S16.a 18 0 = S.a 18 0 := by rw [← hS18]; rfl
        have h27 := hI17.a ta18 1
        have h28 : S16.a 18 1 = S.a 18 1 := by rw [← hS18]; rfl
        have h29 := hI17.a ta18 2
        have h30 : S16.a 18 2 = S.a 18 2 := by rw [← hS18]; rfl
        exact ih S16 hI17 hF19 hR20 (by first | exact FA_0 (by omega) | exact FA_push e_FA (by omega) (by omega) (fun j => by subst_vars; rfl) (by omega))   (by omega) (by subst hS18; exact q_1) (by subst hS18; exact q_2) (by subst hS18; exact q_3) (by exact asN_s q_4 (by omega) (by omega) (by subst hS18; rfl) (fun j => by subst hS18; rfl)) (by omega)
/-- ProxyForge$Collector.ask -/
theorem sp52 {G : xk} {S : yS} {d : Nat} (hI : yI S) {t : Int} (h_t : 0 ≤ t ∧ t ≤ 19) {a : Int} (h_a : -1 ≤ a ∧ a ≤ 19) {b : Int} (h_b : -1 ≤ b ∧ b ≤ 19) {c : Int} (h_c : -1 ≤ c ∧ c ≤ 19) (hd : 0 ≤ d) : yT xPr G LY xC52 0 [some ((2, 17)), some (vi t), some (vi a), some (vi b), some (vi c)] [] S d (fun r S' => r = (0, (0, 0)) ∧ asQ S' t a b c ∧ FA S' ∧ yI S' ∧ yFr [(17, 6), (17, 7)] [18] S S' ∧ yRm [] S S') := by
  refine yT_pad 0 ?_
  show yT xPr G LY xC52 0 [some ((2, 17)), some (vi t), some (vi a), some (vi b), some (vi c)] [] S d _
  have hF : yFr [(17, 6), (17, 7)] [18] S S := yFr.refl S
  have hR : yRm [] S S := yRm.refl S
  refine r_load (i := 0) (u := 0) (w := 2) rfl rfl rfl ?_
  refine r_load (i := 1) (u := 1) (w := 0) rfl rfl rfl ?_
  refine r_putI (i := 2) (v := 6) (w := 3) rfl ly17 rfl ⟨by omega, by omega⟩ ?_
  have hI2 := hI.setf (b := 17) (w := 6) (z := t) tf17_6 rfl (by omega) (by omega)
  have hF4 := hF.setf (b := 17) (w := 6) (z := t) rfl
  have hR5 := hR.setf (b := 17) (w := 6) (z := t)
  refine yT_gen (fun S1 hS3 => ?_)
  rw [hS3] at hI2 hF4 hR5 
  refine r_load (i := 3) (u := 0) (w := 2) rfl rfl rfl ?_
  refine r_getf (i := 4) (v := 2) (w := 3) (x := (2, 18)) rfl ly17 rfl rfl fun _ => ?_
  refine r_const (i := 5) (u := 0) (z := 0) rfl rfl ?_
  refine r_load (i := 6) (u := 2) (w := 0) rfl rfl rfl ?_
  refine s_int (i := 7) rfl ly18 rfl (by omega) (by omega) ⟨by omega, by omega⟩ ?_
  have hI8 := hI2.seta (b := 18) (j := (0 : Int).toNat) (z := a) ta18 rfl (by omega) (by omega)
  have hF10 := hF4.seta (b := 18) (j := (0 : Int).toNat) (z := a) rfl
  have hR11 := hR5.seta (b := 18) (j := (0 : Int).toNat) (z := a)
  refine yT_gen (fun S7 hS9 => ?_)
  rw [hS9] at hI8 hF10 hR11 
  refine r_load (i := 8) (u := 0) (w := 2) rfl rfl rfl ?_
  refine r_getf (i := 9) (v := 2) (w := 3) (x := (2, 18)) rfl ly17 rfl rfl fun _ => ?_
  refine r_const (i := 10) (u := 1) (z := 1) rfl rfl ?_
  refine r_load (i := 11) (u := 3) (w := 0) rfl rfl rfl ?_
  refine s_int (i := 12) rfl ly18 rfl (by omega) (by omega) ⟨by omega, by omega⟩ ?_
  have hI14 := hI8.seta (b := 18) (j := (1 : Int).toNat) (z := b) ta18 rfl (by omega) (by omega)
  have hF16 := hF10.seta (b := 18) (j := (1 : Int).toNat) (z := b) rfl
  have hR17 := hR11.seta (b := 18) (j := (1 : Int).toNat) (z := b)
  refine yT_gen (fun S13 hS15 => ?_)
  rw [hS15] at hI14 hF16 hR17 
  refine r_load (i := 13) (u := 0) (w := 2) rfl rfl rfl ?_
  refine r_getf (i := 14) (v := 2) (w := 3) (x := (2, 18)) rfl ly17 rfl rfl fun _ => ?_
  refine r_const (i := 15) (u := 2) (z := 2) rfl rfl ?_
  refine r_load (i := 16) (u := 4) (w := 0) rfl rfl rfl ?_
  refine s_int (i := 17) rfl ly18 rfl (by omega) (by omega) ⟨by omega, by omega⟩ ?_
  have hI20 := hI14.seta (b := 18) (j := (2 : Int).toNat) (z := c) ta18 rfl (by omega) (by omega)
  have hF22 := hF16.seta (b := 18) (j := (2 : Int).toNat) (z := c) rfl
  have hR23 := hR17.seta (b := 18) (j := (2 : Int).toNat) (z := c)
  refine yT_gen (fun S19 hS21 => ?_)
  rw [hS21] at hI20 hF22 hR23 
  refine r_load (i := 18) (u := 0) (w := 2) rfl rfl rfl ?_
  refine r_const (i := 19) (u := 0) (z := 0) rfl rfl ?_
  refine r_putI (i := 20) (v := 7) (w := 3) rfl ly17 rfl ⟨by omega, by omega⟩ ?_
  have hI25 := hI20.setf (b := 17) (w := 7) (z := 0) tf17_7 rfl (by omega) (by omega)
  have hF27 := hF22.setf (b := 17) (w := 7) (z := 0) rfl
  have hR28 := hR23.setf (b := 17) (w := 7) (z := 0)
  refine yT_gen (fun S24 hS26 => ?_)
  rw [hS26] at hI25 hF27 hR28 
  have h29 := hI25.f tf17_7
  have h30 : S24.f 17 7 = 0 := by rw [← hS26]; exact ysf_eq
  have h31 := hI25.f tf17_6
  have h32 : S24.f 17 6 = S19.f 17 6 := by rw [← hS26]; exact ysf_ne (by decide)
  have h33 : S19.f 17 6 = S13.f 17 6 := by rw [← hS21]; rfl
  have h34 : S13.f 17 6 = S7.f 17 6 := by rw [← hS15]; rfl
  have h35 : S7.f 17 6 = S1.f 17 6 := by rw [← hS9]; rfl
  have h36 : S1.f 17 6 = t := by rw [← hS3]; exact ysf_eq
  have h37 := hI25.a ta18 0
  have h38 : S24.a 18 0 = S19.a 18 0 := by rw [← hS26]; rfl
  have h39 := hI25.a ta18 1
  have h40 : S24.a 18 1 = S19.a 18 1 := by rw [← hS26]; rfl
  have h41 := hI25.a ta18 2
  have h42 : S24.a 18 2 = S19.a 18 2 := by rw [← hS26]; rfl
  exact lp52_21 h_t h_a h_b h_c  hd _ S24 hI25 hF27 hR28 (by first | exact FA_0 (by omega) | exact FA_push e_FA (by omega) (by omega) (fun j => by subst_vars; rfl) (by omega))   (by omega) (by subst hS3 hS9 hS15 hS21 hS26; rfl) (by subst hS3 hS9 hS15 hS21 hS26; rfl) (by subst hS3 hS9 hS15 hS21 hS26; rfl) (by exact asN_0 (by omega)) (Int.lt_succ_toNat _)
theorem lp50_19 {G : xk} {d : Nat} {S : yS} (hI : yI S) (e_FA : FA S) (hd : 0 ≤ d) {k : Int} (h_k : 0 ≤ k ∧ k ≤ 2) (no : Nat) (K : ∀ (k : Int) (h_k : 0 ≤ k ∧ k ≤ 3) (q_0 : diC S k) (hn : 3 - k < (no : Nat)), yT xPr G LY xC50 2 [some ((2, 17)), some (vi k), none] [] S d (fun r S' => ∃ z : Int, r = (1, vi z) ∧ 0 ≤ z ∧ z ≤ 1 ∧ (z = 1 → diC S (S.f 17 7)) ∧ (z = 0 → ¬ diC S (S.f 17 7)) ∧ S = S')) (hm : 3 - k < ((no + 1 : Nat) : Int)) : ∀ (n : Nat), ∀ (j : Int) (h_j : 0 ≤ j ∧ j ≤ 3) (q_0 : k < S.f 17 7) (q_1 : diC S k) (q_2 : diJ S k j) (hn : 3 - j < (n : Nat)), yT xPr G LY xC50 19 [some ((2, 17)), some (vi k), some (vi j)] [] S d (fun r S' => ∃ z : Int, r = (1, vi z) ∧ 0 ≤ z ∧ z ≤ 1 ∧ (z = 1 → diC S (S.f 17 7)) ∧ (z = 0 → ¬ diC S (S.f 17 7)) ∧ S = S') := by
  intro n
  induction n with
  | zero => intro j h_j q_0 q_1 q_2 hn; exact absurd hn (by omega)
  | succ n ih =>
    intro j h_j q_0 q_1 q_2 hn
    have h1 := hI.f tf17_7
    refine r_load (i := 19) (u := 2) (w := 0) rfl rfl rfl ?_
    refine r_load (i := 20) (u := 1) (w := 0) rfl rfl rfl ?_
    refine c_ge (i := 21) (v := 35) rfl ⟨by omega, by omega⟩ ⟨by omega, by omega⟩ (fun h2 => ?_) (fun h3 => ?_)
    · refine r_iinc (i := 35) (u := 1) (v := 1) (s := 1) (L1 := [some ((2, 17)), some (vi (k + 1)), some (vi j)]) rfl rfl rfl rfl rfl ?_
      refine r_goto (i := 36) (v := 2) rfl ?_
      refine yT_drop (L1 := [some ((2, 17)), some (vi (k + 1)), none]) rfl ?_
      exact K (k + 1) ⟨by omega, by omega⟩ (by exact diC_s q_1 (by omega) q_2 (by omega)) (by omega)
    · refine r_load (i := 22) (u := 0) (w := 2) rfl rfl rfl ?_
      refine r_getf (i := 23) (v := 2) (w := 3) (x := (2, 18)) rfl ly17 rfl rfl fun _ => ?_
      refine r_load (i := 24) (u := 1) (w := 0) rfl rfl rfl ?_
      refine a_int (i := 25) rfl ly18 rfl (by omega) (by omega) fun h5 => ?_
      have h6 := hI.a ta18 k.toNat
      refine r_load (i := 26) (u := 0) (w := 2) rfl rfl rfl ?_
      refine r_getf (i := 27) (v := 2) (w := 3) (x := (2, 18)) rfl ly17 rfl rfl fun _ => ?_
      refine r_load (i := 28) (u := 2) (w := 0) rfl rfl rfl ?_
      refine a_int (i := 29) rfl ly18 rfl (by omega) (by omega) fun h8 => ?_
      have h9 := hI.a ta18 j.toNat
      refine c_ne (i := 30) (v := 33) rfl ⟨by omega, by omega⟩ ⟨by omega, by omega⟩ (fun h10 => ?_) (fun h11 => ?_)
      · refine r_iinc (i := 33) (u := 1) (v := 2) (s := 1) (L1 := [some ((2, 17)), some (vi k), some (vi (j + 1))]) rfl rfl rfl rfl rfl ?_
        refine r_goto (i := 34) (v := 19) rfl ?_
        exact ih (j + 1) ⟨by omega, by omega⟩ (by omega) (by exact q_1) (by exact diJ_s q_2 (by omega) (by omega)) (by omega)
      · refine r_const (i := 31) (u := 0) (z := 0) rfl rfl ?_
        exact r_retZ (i := 32) rfl (by omega) (by omega) ⟨0, rfl, by omega, by omega, (by intro hz; first | exact absurd hz (by omega) | exact fun i hi => q_0 i (by omega)), (by intro hz; first | exact absurd hz (by omega) | exact diN_1 (k := k) (by omega) (by omega) (by omega) | exact diN_2 (k := k) (j := j) (by omega) (by omega) (by omega) (by omega)), rfl⟩
theorem lp50_2 {G : xk} {d : Nat} {S : yS} (hI : yI S) (e_FA : FA S) (hd : 0 ≤ d) : ∀ (n : Nat), ∀ (k : Int) (h_k : 0 ≤ k ∧ k ≤ 3) (q_0 : diC S k) (hn : 3 - k < (n : Nat)), yT xPr G LY xC50 2 [some ((2, 17)), some (vi k), none] [] S d (fun r S' => ∃ z : Int, r = (1, vi z) ∧ 0 ≤ z ∧ z ≤ 1 ∧ (z = 1 → diC S (S.f 17 7)) ∧ (z = 0 → ¬ diC S (S.f 17 7)) ∧ S = S') := by
  intro n
  induction n with
  | zero => intro k h_k q_0 hn; exact absurd hn (by omega)
  | succ n ih =>
    intro k h_k q_0 hn
    refine r_load (i := 2) (u := 1) (w := 0) rfl rfl rfl ?_
    refine r_load (i := 3) (u := 0) (w := 2) rfl rfl rfl ?_
    have h1 := hI.f tf17_7
    refine r_getf (i := 4) (v := 7) (w := 3) (x := vi (S.f 17 7)) rfl ly17 rfl rfl fun h2 => ?_
    have h2 : Rg (S.f 17 7) := h2
    refine c_ge (i := 5) (v := 37) rfl ⟨by omega, by omega⟩ ⟨by omega, by omega⟩ (fun h3 => ?_) (fun h4 => ?_)
    · refine r_const (i := 37) (u := 1) (z := 1) rfl rfl ?_
      exact r_retZ (i := 38) rfl (by omega) (by omega) ⟨1, rfl, by omega, by omega, (by intro hz; first | exact absurd hz (by omega) | exact fun i hi => q_0 i (by omega)), (by intro hz; first | exact absurd hz (by omega) | exact diN_1 (k := k) (by omega) (by omega) (by omega) | exact diN_2 (k := k) (j := j) (by omega) (by omega) (by omega) (by omega)), rfl⟩
    · refine r_load (i := 6) (u := 0) (w := 2) rfl rfl rfl ?_
      refine r_getf (i := 7) (v := 0) (w := 3) (x := (2, 1)) rfl ly17 rfl rfl fun _ => ?_
      refine r_getf (i := 8) (v := 0) (w := 1) (x := (2, 2)) rfl ly1 rfl rfl fun _ => ?_
      refine r_load (i := 9) (u := 0) (w := 2) rfl rfl rfl ?_
      refine r_getf (i := 10) (v := 2) (w := 3) (x := (2, 18)) rfl ly17 rfl rfl fun _ => ?_
      refine r_load (i := 11) (u := 1) (w := 0) rfl rfl rfl ?_
      refine a_int (i := 12) rfl ly18 rfl (by omega) (by omega) fun h8 => ?_
      have h9 := hI.a ta18 k.toNat
      have fa9 := e_FA k.toNat (by omega)
      refine a_bool (i := 13) rfl ly2 rfl (by omega) (by omega) fun h10 => ?_
      refine z_ne (i := 14) (v := 17) rfl ⟨by omega, by omega⟩ (fun h11 => ?_) (fun h12 => ?_)
      · refine r_const (i := 17) (u := 0) (z := 0) rfl rfl ?_
        refine r_store (i := 18) (u := 2) (w := 0) (L1 := [some ((2, 17)), some (vi k), some (vi 0)]) rfl rfl rfl rfl ?_
        exact lp50_19 hI   e_FA hd (k := k) ⟨by omega, by omega⟩ n ih (by omega) _ 0 ⟨by omega, by omega⟩ (by omega) (by exact q_0) (by exact diJ_0 (by omega)) (Int.lt_succ_toNat _)
      · refine r_const (i := 15) (u := 0) (z := 0) rfl rfl ?_
        exact r_retZ (i := 16) rfl (by omega) (by omega) ⟨0, rfl, by omega, by omega, (by intro hz; first | exact absurd hz (by omega) | exact fun i hi => q_0 i (by omega)), (by intro hz; first | exact absurd hz (by omega) | exact diN_1 (k := k) (by omega) (by omega) (by omega) | exact diN_2 (k := k) (j := j) (by omega) (by omega) (by omega) (by omega)), rfl⟩
/-- ProxyForge$Collector.areDifferentInterfaces -/
theorem sp50 {G : xk} {S : yS} {d : Nat} (hI : yI S) (e_FA : FA S) (hd : 0 ≤ d) : yT xPr G LY xC50 0 [some ((2, 17))] [] S d (fun r S' => ∃ z : Int, r = (1, vi z) ∧ 0 ≤ z ∧ z ≤ 1 ∧ (z = 1 → diC S (S.f 17 7)) ∧ (z = 0 → ¬ diC S (S.f 17 7)) ∧ S = S') := by
  refine yT_pad 2 ?_
  show yT xPr G LY xC50 0 [some ((2, 17)), none, none] [] S d _
  refine r_const (i := 0) (u := 0) (z := 0) rfl rfl ?_
  refine r_store (i := 1) (u := 1) (w := 0) (L1 := [some ((2, 17)), some (vi 0), none]) rfl rfl rfl rfl ?_
  exact lp50_2 hI   e_FA hd _ 0 ⟨by omega, by omega⟩ (by exact diC_0) (Int.lt_succ_toNat _)
theorem lp51_2 {G : xk} {d : Nat} {S : yS} (hI : yI S) (e_FA : FA S) (hd : 1 ≤ d + 1) : ∀ (n : Nat), ∀ (k : Int) (h_k : 0 ≤ k ∧ k ≤ 3) (q_0 : viC S k) (hn : 3 - k < (n : Nat)), yT xPr G LY xC51 2 [some ((2, 17)), some (vi k)] [] S (d + 1) (fun r S' => ∃ z : Int, r = (1, vi z) ∧ 0 ≤ z ∧ z ≤ 1 ∧ (z = 1 → viC S (S.f 17 7)) ∧ (z = 0 → ¬ viC S (S.f 17 7)) ∧ S = S') := by
  intro n
  induction n with
  | zero => intro k h_k q_0 hn; exact absurd hn (by omega)
  | succ n ih =>
    intro k h_k q_0 hn
    refine r_load (i := 2) (u := 1) (w := 0) rfl rfl rfl ?_
    refine r_load (i := 3) (u := 0) (w := 2) rfl rfl rfl ?_
    have h1 := hI.f tf17_7
    refine r_getf (i := 4) (v := 7) (w := 3) (x := vi (S.f 17 7)) rfl ly17 rfl rfl fun h2 => ?_
    have h2 : Rg (S.f 17 7) := h2
    refine c_ge (i := 5) (v := 33) rfl ⟨by omega, by omega⟩ ⟨by omega, by omega⟩ (fun h3 => ?_) (fun h4 => ?_)
    · refine r_const (i := 33) (u := 1) (z := 1) rfl rfl ?_
      exact r_retZ (i := 34) rfl (by omega) (by omega) ⟨1, rfl, by omega, by omega, (by intro hz; first | exact absurd hz (by omega) | exact fun i hi => q_0 i (by omega)), (by intro hz; first | exact absurd hz (by omega) | exact viN (k := k) (by omega) (by omega) (by omega) (by omega)), rfl⟩
    · refine r_load (i := 6) (u := 0) (w := 2) rfl rfl rfl ?_
      refine r_getf (i := 7) (v := 0) (w := 3) (x := (2, 1)) rfl ly17 rfl rfl fun _ => ?_
      refine r_load (i := 8) (u := 0) (w := 2) rfl rfl rfl ?_
      refine r_getf (i := 9) (v := 2) (w := 3) (x := (2, 18)) rfl ly17 rfl rfl fun _ => ?_
      refine r_load (i := 10) (u := 1) (w := 0) rfl rfl rfl ?_
      refine a_int (i := 11) rfl ly18 rfl (by omega) (by omega) fun h7 => ?_
      have h8 := hI.a ta18 k.toNat
      have fa9 := e_FA k.toNat (by omega)
      refine r_call (i := 12) (u := 1) (v := 136) (w := 0) (b := 0) (na := 514) (C2 := xC136) (as := [(2, 1), vi (S.a 18 k.toNat)]) (s := []) rfl rfl rfl rfl rfl rfl rfl (sp136 (t := S.a 18 k.toNat) hI ⟨by omega, by omega⟩   (by omega)) (fun r9 S10 hq11 => ?_)
      obtain ⟨z12, rfl, h13, h14, h15, h16, rfl⟩ := hq11
      refine Or.inr (Or.inl ⟨rfl, ?_⟩)
      refine z_ne (i := 13) (v := 31) rfl ⟨by omega, by omega⟩ (fun h17 => ?_) (fun h18 => ?_)
      · refine r_iinc (i := 31) (u := 1) (v := 1) (s := 1) (L1 := [some ((2, 17)), some (vi (k + 1))]) rfl rfl rfl rfl rfl ?_
        refine r_goto (i := 32) (v := 2) rfl ?_
        exact ih (k + 1) ⟨by omega, by omega⟩ (by exact viC_s q_0 (by omega) (by omega)) (by omega)
      · refine r_load (i := 14) (u := 0) (w := 2) rfl rfl rfl ?_
        refine r_getf (i := 15) (v := 0) (w := 3) (x := (2, 1)) rfl ly17 rfl rfl fun _ => ?_
        refine r_getf (i := 16) (v := 2) (w := 1) (x := (2, 4)) rfl ly1 rfl rfl fun _ => ?_
        refine r_load (i := 17) (u := 0) (w := 2) rfl rfl rfl ?_
        refine r_getf (i := 18) (v := 2) (w := 3) (x := (2, 18)) rfl ly17 rfl rfl fun _ => ?_
        refine r_load (i := 19) (u := 1) (w := 0) rfl rfl rfl ?_
        refine a_int (i := 20) rfl ly18 rfl (by omega) (by omega) fun h22 => ?_
        have h23 := hI.a ta18 k.toNat
        have fa8 := e_FA k.toNat (by omega)
        refine a_int (i := 21) rfl ly4 rfl (by omega) (by omega) fun h24 => ?_
        have h25 := hI.a ta4 (S.a 18 k.toNat).toNat
        refine r_load (i := 22) (u := 0) (w := 2) rfl rfl rfl ?_
        refine r_getf (i := 23) (v := 0) (w := 3) (x := (2, 1)) rfl ly17 rfl rfl fun _ => ?_
        refine r_getf (i := 24) (v := 2) (w := 1) (x := (2, 4)) rfl ly1 rfl rfl fun _ => ?_
        refine r_load (i := 25) (u := 0) (w := 2) rfl rfl rfl ?_
        have h28 := hI.f tf17_6
        refine r_getf (i := 26) (v := 6) (w := 3) (x := vi (S.f 17 6)) rfl ly17 rfl rfl fun h29 => ?_
        have h29 : Rg (S.f 17 6) := h29
        refine a_int (i := 27) rfl ly4 rfl (by omega) (by omega) fun h30 => ?_
        have h31 := hI.a ta4 (S.f 17 6).toNat
        refine c_eq (i := 28) (v := 31) rfl ⟨by omega, by omega⟩ ⟨by omega, by omega⟩ (fun h32 => ?_) (fun h33 => ?_)
        · refine r_iinc (i := 31) (u := 1) (v := 1) (s := 1) (L1 := [some ((2, 17)), some (vi (k + 1))]) rfl rfl rfl rfl rfl ?_
          refine r_goto (i := 32) (v := 2) rfl ?_
          exact ih (k + 1) ⟨by omega, by omega⟩ (by exact viC_s q_0 (by omega) (by omega)) (by omega)
        · refine r_const (i := 29) (u := 0) (z := 0) rfl rfl ?_
          exact r_retZ (i := 30) rfl (by omega) (by omega) ⟨0, rfl, by omega, by omega, (by intro hz; first | exact absurd hz (by omega) | exact fun i hi => q_0 i (by omega)), (by intro hz; first | exact absurd hz (by omega) | exact viN (k := k) (by omega) (by omega) (by omega) (by omega)), rfl⟩
/-- ProxyForge$Collector.areFacesVisible -/
theorem sp51 {G : xk} {S : yS} {d : Nat} (hI : yI S) (e_FA : FA S) (hd : 1 ≤ d) : yT xPr G LY xC51 0 [some ((2, 17))] [] S d (fun r S' => ∃ z : Int, r = (1, vi z) ∧ 0 ≤ z ∧ z ≤ 1 ∧ (z = 1 → viC S (S.f 17 7)) ∧ (z = 0 → ¬ viC S (S.f 17 7)) ∧ S = S') := by
  refine yT_pad 1 ?_
  show yT xPr G LY xC51 0 [some ((2, 17)), none] [] S d _
  obtain ⟨d, rfl⟩ : ∃ q, d = q + 1 := ⟨d - 1, by omega⟩
  refine r_const (i := 0) (u := 0) (z := 0) rfl rfl ?_
  refine r_store (i := 1) (u := 1) (w := 0) (L1 := [some ((2, 17)), some (vi 0)]) rfl rfl rfl rfl ?_
  exact lp51_2 hI   e_FA hd _ 0 ⟨by omega, by omega⟩ (by exact viC_0) (Int.lt_succ_toNat _)
/-- ProxyForge$Collector.isInherited -/
theorem sp59 {G : xk} {S : yS} {d : Nat} (hI : yI S) {m : Int} (h_m : 0 ≤ m ∧ m ≤ 59) (hd : 1 ≤ d) : yT xPr G LY xC59 0 [some ((2, 17)), some (vi m)] [] S d (fun r S' => ∃ z : Int, r = (1, vi z) ∧ 0 ≤ z ∧ z ≤ 1 ∧ (z = 1 → S.a 11 m.toNat ≠ 10) ∧ (z = 1 → inhC S m) ∧ (z = 0 → ¬ inhC S m) ∧ S = S') := by
  refine yT_pad 0 ?_
  show yT xPr G LY xC59 0 [some ((2, 17)), some (vi m)] [] S d _
  obtain ⟨d, rfl⟩ : ∃ q, d = q + 1 := ⟨d - 1, by omega⟩
  refine r_load (i := 0) (u := 0) (w := 2) rfl rfl rfl ?_
  refine r_getf (i := 1) (v := 1) (w := 3) (x := (2, 9)) rfl ly17 rfl rfl fun _ => ?_
  refine r_getf (i := 2) (v := 2) (w := 2) (x := (2, 11)) rfl ly9 rfl rfl fun _ => ?_
  refine r_load (i := 3) (u := 1) (w := 0) rfl rfl rfl ?_
  refine a_int (i := 4) rfl ly11 rfl (by omega) (by omega) fun h3 => ?_
  have h4 := hI.a ta11 m.toNat
  refine r_const (i := 5) (u := 10) (z := 10) rfl rfl ?_
  refine c_eq (i := 6) (v := 13) rfl ⟨by omega, by omega⟩ ⟨by omega, by omega⟩ (fun h5 => ?_) (fun h6 => ?_)
  · refine r_const (i := 13) (u := 0) (z := 0) rfl rfl ?_
    have h7 := hI.a ta11 m.toNat
    exact r_retZ (i := 14) rfl (by omega) (by omega) ⟨0, rfl, by omega, by omega, (by omega), (by unfold inhC; omega), (by unfold inhC; omega), rfl⟩
  · refine r_load (i := 7) (u := 0) (w := 2) rfl rfl rfl ?_
    refine r_getf (i := 8) (v := 1) (w := 3) (x := (2, 9)) rfl ly17 rfl rfl fun _ => ?_
    refine r_load (i := 9) (u := 1) (w := 0) rfl rfl rfl ?_
    refine r_const (i := 10) (u := 12) (z := 12) rfl rfl ?_
    have h9 := hI.a ta12 m.toNat
    have h10 := hI.a ta12 m.toNat
    refine r_call (i := 11) (u := 2) (v := 76) (w := 0) (b := 0) (na := 771) (C2 := xC76) (as := [(2, 9), vi m, vi 12]) (s := []) rfl rfl rfl rfl rfl rfl rfl (sp76 (m := m) (fl := 12) hI ⟨by omega, by omega⟩ ⟨by omega, by omega⟩   (by omega)) (fun r11 S12 hq13 => ?_)
    obtain ⟨z14, rfl, h15, h16, h17, h18, rfl⟩ := hq13
    refine Or.inr (Or.inl ⟨rfl, ?_⟩)
    refine z_eq (i := 12) (v := 15) rfl ⟨by omega, by omega⟩ (fun h19 => ?_) (fun h20 => ?_)
    · refine r_load (i := 15) (u := 0) (w := 2) rfl rfl rfl ?_
      refine r_getf (i := 16) (v := 1) (w := 3) (x := (2, 9)) rfl ly17 rfl rfl fun _ => ?_
      refine r_load (i := 17) (u := 1) (w := 0) rfl rfl rfl ?_
      have h22 := hI.a ta12 m.toNat
      have h23 := hI.a ta12 m.toNat
      refine r_call (i := 18) (u := 2) (v := 80) (w := 0) (b := 0) (na := 514) (C2 := xC80) (as := [(2, 9), vi m]) (s := []) rfl rfl rfl rfl rfl rfl rfl (sp80 (m := m) hI ⟨by omega, by omega⟩   (by omega)) (fun r24 S25 hq26 => ?_)
      obtain ⟨z27, rfl, h28, h29, h30, h31, rfl⟩ := hq26
      refine Or.inr (Or.inl ⟨rfl, ?_⟩)
      refine z_eq (i := 19) (v := 36) rfl ⟨by omega, by omega⟩ (fun h32 => ?_) (fun h33 => ?_)
      · refine r_const (i := 36) (u := 1) (z := 1) rfl rfl ?_
        refine r_goto (i := 37) (v := 39) rfl ?_
        have h34 := hI.a ta11 m.toNat
        exact r_retZ (i := 39) rfl (by omega) (by omega) ⟨1, rfl, by omega, by omega, (by omega), (by unfold inhC; omega), (by unfold inhC; omega), rfl⟩
      · refine r_load (i := 20) (u := 0) (w := 2) rfl rfl rfl ?_
        refine r_getf (i := 21) (v := 0) (w := 3) (x := (2, 1)) rfl ly17 rfl rfl fun _ => ?_
        refine r_getf (i := 22) (v := 2) (w := 1) (x := (2, 4)) rfl ly1 rfl rfl fun _ => ?_
        refine r_load (i := 23) (u := 0) (w := 2) rfl rfl rfl ?_
        refine r_getf (i := 24) (v := 1) (w := 3) (x := (2, 9)) rfl ly17 rfl rfl fun _ => ?_
        refine r_getf (i := 25) (v := 1) (w := 2) (x := (2, 10)) rfl ly9 rfl rfl fun _ => ?_
        refine r_load (i := 26) (u := 1) (w := 0) rfl rfl rfl ?_
        refine a_int (i := 27) rfl ly10 rfl (by omega) (by omega) fun h39 => ?_
        have h40 := hI.a ta10 m.toNat
        refine a_int (i := 28) rfl ly4 rfl (by omega) (by omega) fun h41 => ?_
        have h42 := hI.a ta4 (S.a 10 m.toNat).toNat
        refine r_load (i := 29) (u := 0) (w := 2) rfl rfl rfl ?_
        refine r_getf (i := 30) (v := 0) (w := 3) (x := (2, 1)) rfl ly17 rfl rfl fun _ => ?_
        refine r_getf (i := 31) (v := 2) (w := 1) (x := (2, 4)) rfl ly1 rfl rfl fun _ => ?_
        refine r_load (i := 32) (u := 0) (w := 2) rfl rfl rfl ?_
        have h45 := hI.f tf17_6
        refine r_getf (i := 33) (v := 6) (w := 3) (x := vi (S.f 17 6)) rfl ly17 rfl rfl fun h46 => ?_
        have h46 : Rg (S.f 17 6) := h46
        refine a_int (i := 34) rfl ly4 rfl (by omega) (by omega) fun h47 => ?_
        have h48 := hI.a ta4 (S.f 17 6).toNat
        refine c_ne (i := 35) (v := 38) rfl ⟨by omega, by omega⟩ ⟨by omega, by omega⟩ (fun h49 => ?_) (fun h50 => ?_)
        · refine r_const (i := 38) (u := 0) (z := 0) rfl rfl ?_
          have h51 := hI.a ta11 m.toNat
          exact r_retZ (i := 39) rfl (by omega) (by omega) ⟨0, rfl, by omega, by omega, (by omega), (by unfold inhC; omega), (by unfold inhC; omega), rfl⟩
        · refine r_const (i := 36) (u := 1) (z := 1) rfl rfl ?_
          refine r_goto (i := 37) (v := 39) rfl ?_
          have h52 := hI.a ta11 m.toNat
          exact r_retZ (i := 39) rfl (by omega) (by omega) ⟨1, rfl, by omega, by omega, (by omega), (by unfold inhC; omega), (by unfold inhC; omega), rfl⟩
    · refine r_const (i := 13) (u := 0) (z := 0) rfl rfl ?_
      have h53 := hI.a ta11 m.toNat
      exact r_retZ (i := 14) rfl (by omega) (by omega) ⟨0, rfl, by omega, by omega, (by omega), (by unfold inhC; omega), (by unfold inhC; omega), rfl⟩
theorem lp58_2 {G : xk} {d : Nat} {S : yS} (hI : yI S) {m : Int} (h_m : 0 ≤ m ∧ m ≤ 59) (hd : 1 ≤ d + 1) : ∀ (n : Nat), ∀ (k : Int) (h_k : 0 ≤ k ∧ k ≤ 60) (q_0 : NC S k m) (q_1 : nsS S k m) (hn : 60 - k < (n : Nat)), yT xPr G LY xC58 2 [some ((2, 17)), some (vi m), some (vi k)] [] S (d + 1) (fun r S' => ∃ z : Int, r = (1, vi z) ∧ 0 ≤ z ∧ z ≤ 1 ∧ (z = 0 → NC S (S.f 17 11) m) ∧ (z = 0 → nsS S (S.f 17 11) m) ∧ (z = 1 → isS S (S.f 17 11) m) ∧ S = S') := by
  intro n
  induction n with
  | zero => intro k h_k q_0 q_1 hn; exact absurd hn (by omega)
  | succ n ih =>
    intro k h_k q_0 q_1 hn
    refine r_load (i := 2) (u := 2) (w := 0) rfl rfl rfl ?_
    refine r_load (i := 3) (u := 0) (w := 2) rfl rfl rfl ?_
    have h1 := hI.f tf17_11
    refine r_getf (i := 4) (v := 11) (w := 3) (x := vi (S.f 17 11)) rfl ly17 rfl rfl fun h2 => ?_
    have h2 : Rg (S.f 17 11) := h2
    refine c_ge (i := 5) (v := 33) rfl ⟨by omega, by omega⟩ ⟨by omega, by omega⟩ (fun h3 => ?_) (fun h4 => ?_)
    · refine r_const (i := 33) (u := 0) (z := 0) rfl rfl ?_
      exact r_retZ (i := 34) rfl (by omega) (by omega) ⟨0, rfl, by omega, by omega, (by intro hz; first | exact absurd hz (by omega) | exact fun j hj => q_0 j (by omega)), (by intro hz; first | exact absurd hz (by omega) | exact fun j hj => q_1 j (by omega)), (by intro hz; first | exact absurd hz (by omega) | exact isS_of (k := k) (by omega) (by omega) (by omega) (by omega) (by omega)), rfl⟩
    · refine r_load (i := 6) (u := 0) (w := 2) rfl rfl rfl ?_
      refine r_getf (i := 7) (v := 1) (w := 3) (x := (2, 9)) rfl ly17 rfl rfl fun _ => ?_
      refine r_load (i := 8) (u := 0) (w := 2) rfl rfl rfl ?_
      refine r_getf (i := 9) (v := 4) (w := 3) (x := (2, 20)) rfl ly17 rfl rfl fun _ => ?_
      refine r_load (i := 10) (u := 2) (w := 0) rfl rfl rfl ?_
      refine a_int (i := 11) rfl ly20 rfl (by omega) (by omega) fun h7 => ?_
      have h8 := hI.a ta20 k.toNat
      refine r_load (i := 12) (u := 0) (w := 2) rfl rfl rfl ?_
      refine r_getf (i := 13) (v := 1) (w := 3) (x := (2, 9)) rfl ly17 rfl rfl fun _ => ?_
      refine r_getf (i := 14) (v := 2) (w := 2) (x := (2, 11)) rfl ly9 rfl rfl fun _ => ?_
      refine r_load (i := 15) (u := 1) (w := 0) rfl rfl rfl ?_
      refine a_int (i := 16) rfl ly11 rfl (by omega) (by omega) fun h11 => ?_
      have h12 := hI.a ta11 m.toNat
      refine r_load (i := 17) (u := 0) (w := 2) rfl rfl rfl ?_
      refine r_getf (i := 18) (v := 1) (w := 3) (x := (2, 9)) rfl ly17 rfl rfl fun _ => ?_
      refine r_getf (i := 19) (v := 4) (w := 2) (x := (2, 13)) rfl ly9 rfl rfl fun _ => ?_
      refine r_load (i := 20) (u := 1) (w := 0) rfl rfl rfl ?_
      refine a_int (i := 21) rfl ly13 rfl (by omega) (by omega) fun h15 => ?_
      have kp16 := hI.k13 m.toNat
      refine r_load (i := 22) (u := 0) (w := 2) rfl rfl rfl ?_
      refine r_getf (i := 23) (v := 1) (w := 3) (x := (2, 9)) rfl ly17 rfl rfl fun _ => ?_
      refine r_getf (i := 24) (v := 5) (w := 2) (x := (2, 14)) rfl ly9 rfl rfl fun _ => ?_
      refine r_load (i := 25) (u := 1) (w := 0) rfl rfl rfl ?_
      refine a_int (i := 26) rfl ly14 rfl (by omega) (by omega) fun h19 => ?_
      have h20 := hI.a ta14 m.toNat
      refine r_call (i := 27) (u := 2) (v := 81) (w := 0) (b := 0) (na := 1285) (C2 := xC81) (as := [(2, 9), vi (S.a 20 k.toNat), vi (S.a 11 m.toNat), vi (S.a 13 m.toNat), vi (S.a 14 m.toNat)]) (s := []) rfl rfl rfl rfl rfl rfl rfl (sp81 (m := S.a 20 k.toNat) (w0 := S.a 11 m.toNat) (p := S.a 13 m.toNat) (b := S.a 14 m.toNat) hI ⟨by omega, by omega⟩ ⟨by omega, by omega⟩ ⟨by omega, by omega⟩ ⟨by omega, by omega⟩   (by omega)) (fun r21 S22 hq23 => ?_)
      obtain ⟨z24, rfl, h25, h26, h27, h28, rfl⟩ := hq23
      refine Or.inr (Or.inl ⟨rfl, ?_⟩)
      refine z_eq (i := 28) (v := 31) rfl ⟨by omega, by omega⟩ (fun h29 => ?_) (fun h30 => ?_)
      · refine r_iinc (i := 31) (u := 1) (v := 2) (s := 1) (L1 := [some ((2, 17)), some (vi m), some (vi (k + 1))]) rfl rfl rfl rfl rfl ?_
        refine r_goto (i := 32) (v := 2) rfl ?_
        exact ih (k + 1) ⟨by omega, by omega⟩ (by first | exact NC_0 | exact NC_push q_0 (by omega) (fun he => by rw [he] at *; omega) | exact NC_push q_0 (by omega) (fun he => by simp_all)) (by exact nsS_s q_1 (by omega) (by omega)) (by omega)
      · refine r_const (i := 29) (u := 1) (z := 1) rfl rfl ?_
        exact r_retZ (i := 30) rfl (by omega) (by omega) ⟨1, rfl, by omega, by omega, (by intro hz; first | exact absurd hz (by omega) | exact fun j hj => q_0 j (by omega)), (by intro hz; first | exact absurd hz (by omega) | exact fun j hj => q_1 j (by omega)), (by intro hz; first | exact absurd hz (by omega) | exact isS_of (k := k) (by omega) (by omega) (by omega) (by omega) (by omega)), rfl⟩
/-- ProxyForge$Collector.isCounted -/
theorem sp58 {G : xk} {S : yS} {d : Nat} (hI : yI S) {m : Int} (h_m : 0 ≤ m ∧ m ≤ 59) (hd : 1 ≤ d) : yT xPr G LY xC58 0 [some ((2, 17)), some (vi m)] [] S d (fun r S' => ∃ z : Int, r = (1, vi z) ∧ 0 ≤ z ∧ z ≤ 1 ∧ (z = 0 → NC S (S.f 17 11) m) ∧ (z = 0 → nsS S (S.f 17 11) m) ∧ (z = 1 → isS S (S.f 17 11) m) ∧ S = S') := by
  refine yT_pad 1 ?_
  show yT xPr G LY xC58 0 [some ((2, 17)), some (vi m), none] [] S d _
  obtain ⟨d, rfl⟩ : ∃ q, d = q + 1 := ⟨d - 1, by omega⟩
  refine r_const (i := 0) (u := 0) (z := 0) rfl rfl ?_
  refine r_store (i := 1) (u := 2) (w := 0) (L1 := [some ((2, 17)), some (vi m), some (vi 0)]) rfl rfl rfl rfl ?_
  exact lp58_2 hI h_m   hd _ 0 ⟨by omega, by omega⟩ (by first | exact NC_0 | exact NC_push q_0 (by omega) (fun he => by rw [he] at *; omega) | exact NC_push q_0 (by omega) (fun he => by simp_all)) (by exact nsS_0) (Int.lt_succ_toNat _)
/-- ProxyForge$Collector.count -/
theorem sp55 {G : xk} {S : yS} {d : Nat} (hI : yI S) {m : Int} (h_m : 0 ≤ m ∧ m ≤ 59) (p_0 : NC S (S.f 17 11) m) (p_1 : m < S.f 9 8) (p_2 : S.a 11 m.toNat ≤ 9) (p_3 : S.f 17 12 ≤ S.f 17 11) (e_DC : DC S) (e_FN : FN S) (hd : 1 ≤ d) : yT xPr G LY xC55 0 [some ((2, 17)), some (vi m)] [] S d (fun r S' => r = (0, (0, 0)) ∧ S'.f 17 12 ≤ S'.f 17 11 ∧ ctQ S S' m ∧ DC S' ∧ FN S' ∧ yI S' ∧ yFr [(17, 11), (17, 12)] [20, 21] S S' ∧ yRm [] S S') := by
  refine yT_pad 0 ?_
  show yT xPr G LY xC55 0 [some ((2, 17)), some (vi m)] [] S d _
  obtain ⟨d, rfl⟩ : ∃ q, d = q + 1 := ⟨d - 1, by omega⟩
  have hF : yFr [(17, 11), (17, 12)] [20, 21] S S := yFr.refl S
  have hR : yRm [] S S := yRm.refl S
  have h1 := hI.f tf17_11
  have h2 := hI.f tf9_8
  have h3 := hI.a ta11 m.toNat
  have h4 := hI.f tf17_12
  have hcc := DC_room e_DC (hI.f tf17_11).1 p_0 h_m.1 p_1
  have hc9 := hI.f tf9_8
  refine r_load (i := 0) (u := 0) (w := 2) rfl rfl rfl ?_
  refine r_getf (i := 1) (v := 4) (w := 3) (x := (2, 20)) rfl ly17 rfl rfl fun _ => ?_
  refine r_load (i := 2) (u := 0) (w := 2) rfl rfl rfl ?_
  refine r_getf (i := 3) (v := 11) (w := 3) (x := vi (S.f 17 11)) rfl ly17 rfl rfl fun h6 => ?_
  have h6 : Rg (S.f 17 11) := h6
  refine r_load (i := 4) (u := 1) (w := 0) rfl rfl rfl ?_
  refine s_int (i := 5) rfl ly20 rfl (by omega) (by omega) ⟨by omega, by omega⟩ ?_
  have hI8 := hI.seta (b := 20) (j := (S.f 17 11).toNat) (z := m) ta20 rfl (by omega) (by omega)
  have hF10 := hF.seta (b := 20) (j := (S.f 17 11).toNat) (z := m) rfl
  have hR11 := hR.seta (b := 20) (j := (S.f 17 11).toNat) (z := m)
  have e12 := FNx.seta e_FN (b := 20) (j := (S.f 17 11).toNat) (z := m) rfl
  refine yT_gen (fun S7 hS9 => ?_)
  rw [hS9] at hI8 hF10 hR11 e12
  refine r_load (i := 6) (u := 0) (w := 2) rfl rfl rfl ?_
  refine r_dup (i := 7) rfl rfl ?_
  have h13 := hI8.f tf17_11
  have h14 : S7.f 17 11 = S.f 17 11 := by rw [← hS9]; rfl
  refine r_getf (i := 8) (v := 11) (w := 3) (x := vi (S7.f 17 11)) rfl ly17 rfl rfl fun h15 => ?_
  have h15 : Rg (S7.f 17 11) := h15
  refine r_const (i := 9) (u := 1) (z := 1) rfl rfl ?_
  refine r_iadd (i := 10) rfl ?_
  refine r_putI (i := 11) (v := 11) (w := 3) rfl ly17 rfl ⟨by omega, by omega⟩ ?_
  have hI17 := hI8.setf (b := 17) (w := 11) (z := (S7.f 17 11) + 1) tf17_11 rfl (by omega) (by omega)
  have hF19 := hF10.setf (b := 17) (w := 11) (z := (S7.f 17 11) + 1) rfl
  have hR20 := hR11.setf (b := 17) (w := 11) (z := (S7.f 17 11) + 1)
  have e21 := FNx.setf e12 (b := 17) (w := 11) (z := (S7.f 17 11) + 1) rfl
  refine yT_gen (fun S16 hS18 => ?_)
  rw [hS18] at hI17 hF19 hR20 e21
  refine r_load (i := 12) (u := 0) (w := 2) rfl rfl rfl ?_
  refine r_getf (i := 13) (v := 1) (w := 3) (x := (2, 9)) rfl ly17 rfl rfl fun _ => ?_
  refine r_load (i := 14) (u := 1) (w := 0) rfl rfl rfl ?_
  refine r_const (i := 15) (u := 16) (z := 16) rfl rfl ?_
  have h23 := hI17.a ta12 m.toNat
  have h24 : S16.a 12 m.toNat = S7.a 12 m.toNat := by rw [← hS18]; rfl
  have h25 : S7.a 12 m.toNat = S.a 12 m.toNat := by rw [← hS9]; rfl
  have h26 := hI17.a ta12 m.toNat
  refine r_call (i := 16) (u := 2) (v := 76) (w := 0) (b := 0) (na := 771) (C2 := xC76) (as := [(2, 9), vi m, vi 16]) (s := []) rfl rfl rfl rfl rfl rfl rfl (sp76 (m := m) (fl := 16) hI17 ⟨by omega, by omega⟩ ⟨by omega, by omega⟩   (by omega)) (fun r27 S28 hq29 => ?_)
  obtain ⟨z30, rfl, h31, h32, h33, h34, rfl⟩ := hq29
  refine Or.inr (Or.inl ⟨rfl, ?_⟩)
  refine z_ne (i := 17) (v := 30) rfl ⟨by omega, by omega⟩ (fun h35 => ?_) (fun h36 => ?_)
  · have h37 := hI17.f tf17_12
    have h38 : S16.f 17 12 = S7.f 17 12 := by rw [← hS18]; exact ysf_ne (by decide)
    have h39 : S7.f 17 12 = S.f 17 12 := by rw [← hS9]; rfl
    have h40 := hI17.f tf17_11
    have h41 : S16.f 17 11 = (S7.f 17 11) + 1 := by rw [← hS18]; exact ysf_eq
    exact r_ret0 (i := 30) rfl ⟨rfl, (by omega), (by exact ct_n (hI.f tf17_11).1 (by rw [← show S16.a 12 m.toNat = S.a 12 m.toNat by omega]; omega) (by subst hS9 hS18; rfl) (fun j => by subst hS9 hS18; rfl) (by subst hS9 hS18; rfl) (fun j => by subst hS9 hS18; rfl)), (by exact DC_push e_DC (hI.f tf17_11).1 p_0 h_m.1 p_1 (by subst_vars; rfl) (by subst_vars; rfl) (fun j => by subst_vars; rfl)), e21, hI17, hF19, hR20⟩
  · refine r_load (i := 18) (u := 0) (w := 2) rfl rfl rfl ?_
    refine r_getf (i := 19) (v := 5) (w := 3) (x := (2, 21)) rfl ly17 rfl rfl fun _ => ?_
    refine r_load (i := 20) (u := 0) (w := 2) rfl rfl rfl ?_
    have h43 := hI17.f tf17_12
    have h44 : S16.f 17 12 = S7.f 17 12 := by rw [← hS18]; exact ysf_ne (by decide)
    have h45 : S7.f 17 12 = S.f 17 12 := by rw [← hS9]; rfl
    refine r_getf (i := 21) (v := 12) (w := 3) (x := vi (S16.f 17 12)) rfl ly17 rfl rfl fun h46 => ?_
    have h46 : Rg (S16.f 17 12) := h46
    refine r_load (i := 22) (u := 1) (w := 0) rfl rfl rfl ?_
    refine s_int (i := 23) rfl ly21 rfl (by omega) (by omega) ⟨by omega, by omega⟩ ?_
    have hI48 := hI17.seta (b := 21) (j := (S16.f 17 12).toNat) (z := m) ta21 rfl (by omega) (by omega)
    have hF50 := hF19.seta (b := 21) (j := (S16.f 17 12).toNat) (z := m) rfl
    have hR51 := hR20.seta (b := 21) (j := (S16.f 17 12).toNat) (z := m)
    refine yT_gen (fun S47 hS49 => ?_)
    rw [hS49] at hI48 hF50 hR51 
    refine r_load (i := 24) (u := 0) (w := 2) rfl rfl rfl ?_
    refine r_dup (i := 25) rfl rfl ?_
    have h52 := hI48.f tf17_12
    have h53 : S47.f 17 12 = S16.f 17 12 := by rw [← hS49]; rfl
    have h54 : S16.f 17 12 = S7.f 17 12 := by rw [← hS18]; exact ysf_ne (by decide)
    have h55 : S7.f 17 12 = S.f 17 12 := by rw [← hS9]; rfl
    refine r_getf (i := 26) (v := 12) (w := 3) (x := vi (S47.f 17 12)) rfl ly17 rfl rfl fun h56 => ?_
    have h56 : Rg (S47.f 17 12) := h56
    refine r_const (i := 27) (u := 1) (z := 1) rfl rfl ?_
    refine r_iadd (i := 28) rfl ?_
    refine r_putI (i := 29) (v := 12) (w := 3) rfl ly17 rfl ⟨by omega, by omega⟩ ?_
    have hI58 := hI48.setf (b := 17) (w := 12) (z := (S47.f 17 12) + 1) tf17_12 rfl (by omega) (by omega)
    have hF60 := hF50.setf (b := 17) (w := 12) (z := (S47.f 17 12) + 1) rfl
    have hR61 := hR51.setf (b := 17) (w := 12) (z := (S47.f 17 12) + 1)
    refine yT_gen (fun S57 hS59 => ?_)
    rw [hS59] at hI58 hF60 hR61 
    have h62 := hI58.f tf17_12
    have h63 : S57.f 17 12 = (S47.f 17 12) + 1 := by rw [← hS59]; exact ysf_eq
    have h64 := hI58.f tf17_11
    have h65 : S57.f 17 11 = S47.f 17 11 := by rw [← hS59]; exact ysf_ne (by decide)
    have h66 : S47.f 17 11 = S16.f 17 11 := by rw [← hS49]; rfl
    have h67 : S16.f 17 11 = (S7.f 17 11) + 1 := by rw [← hS18]; exact ysf_eq
    exact r_ret0 (i := 30) rfl ⟨rfl, (by omega), (by exact ct_y (hI.f tf17_11).1 (hI.f tf17_12).1 (by rw [← show S16.a 12 m.toNat = S.a 12 m.toNat by omega]; omega) (by subst hS9 hS18 hS49 hS59; rfl) (fun j => by subst hS9 hS18 hS49 hS59; rfl) (by subst hS9 hS18 hS49 hS59; rfl) (fun j => by subst hS9 hS18 hS49 hS59; rfl)), (by exact DC_push e_DC (hI.f tf17_11).1 p_0 h_m.1 p_1 (by subst_vars; rfl) (by subst_vars; rfl) (fun j => by subst_vars; rfl)), (by exact FN_push e_FN (hI.f tf17_12).1 p_2 (by subst_vars; rfl) (fun j => by subst_vars; rfl) (fun j => by subst_vars; rfl)), hI58, hF60, hR61⟩
theorem lp54_14 {G : xk} {d : Nat} {S0 : yS}  (hd : 2 ≤ d + 1) {k : Int} (h_k : 0 ≤ k ∧ k ≤ 19) (no : Nat) (K : ∀ (S : yS) (hI : yI S) (hF : yFr [(17, 11), (17, 12)] [20, 21] S0 S) (hR : yRm [] S0 S) (e_DC : DC S) (e_FN : FN S) (k : Int) (h_k : 0 ≤ k ∧ k ≤ 20) (q_0 : S.f 17 12 ≤ S.f 17 11) (q_1 : cA1 S0 S k) (q_2 : k ≤ S.f 17 10) (hn : 20 - k < (no : Nat)), yT xPr G LY xC54 8 [some ((2, 17)), some (vi k), none] [] S (d + 1) (fun r S' => r = (0, (0, 0)) ∧ S'.f 17 12 ≤ S'.f 17 11 ∧ caQ S0 S' ∧ DC S' ∧ FN S' ∧ yI S' ∧ yFr [(17, 11), (17, 12)] [20, 21] S0 S' ∧ yRm [] S0 S')) (hm : 20 - k < ((no + 1 : Nat) : Int)) : ∀ (n : Nat), ∀ (S : yS) (hI : yI S) (hF : yFr [(17, 11), (17, 12)] [20, 21] S0 S) (hR : yRm [] S0 S) (e_DC : DC S) (e_FN : FN S) (m : Int) (h_m : 0 ≤ m ∧ m ≤ 60) (q_0 : S.f 17 12 ≤ S.f 17 11) (q_1 : cA2 S0 S k m) (q_2 : m ≤ S.f 9 8) (q_3 : k < S.f 17 10) (hn : 60 - m < (n : Nat)), yT xPr G LY xC54 14 [some ((2, 17)), some (vi k), some (vi m)] [] S (d + 1) (fun r S' => r = (0, (0, 0)) ∧ S'.f 17 12 ≤ S'.f 17 11 ∧ caQ S0 S' ∧ DC S' ∧ FN S' ∧ yI S' ∧ yFr [(17, 11), (17, 12)] [20, 21] S0 S' ∧ yRm [] S0 S') := by
  intro n
  induction n with
  | zero => intro S hI hF hR e_DC e_FN m h_m q_0 q_1 q_2 q_3 hn; exact absurd hn (by omega)
  | succ n ih =>
    intro S hI hF hR e_DC e_FN m h_m q_0 q_1 q_2 q_3 hn
    have h1 := hI.f tf17_12
    have h2 := hI.f tf17_11
    have h3 := hI.f tf9_8
    have h4 : S.f 9 8 = S0.f 9 8 := hF.f rfl
    have h5 := hI.f tf17_10
    have h6 : S.f 17 10 = S0.f 17 10 := hF.f rfl
    refine r_load (i := 14) (u := 2) (w := 0) rfl rfl rfl ?_
    refine r_load (i := 15) (u := 0) (w := 2) rfl rfl rfl ?_
    refine r_getf (i := 16) (v := 1) (w := 3) (x := (2, 9)) rfl ly17 rfl rfl fun _ => ?_
    refine r_getf (i := 17) (v := 8) (w := 2) (x := vi (S.f 9 8)) rfl ly9 rfl rfl fun h8 => ?_
    have h8 : Rg (S.f 9 8) := h8
    refine c_ge (i := 18) (v := 42) rfl ⟨by omega, by omega⟩ ⟨by omega, by omega⟩ (fun h9 => ?_) (fun h10 => ?_)
    · refine r_iinc (i := 42) (u := 1) (v := 1) (s := 1) (L1 := [some ((2, 17)), some (vi (k + 1)), some (vi m)]) rfl rfl rfl rfl rfl ?_
      refine r_goto (i := 43) (v := 8) rfl ?_
      refine yT_drop (L1 := [some ((2, 17)), some (vi (k + 1)), none]) rfl ?_
      exact K S hI hF hR e_DC e_FN (k + 1) ⟨by omega, by omega⟩ (by omega) (by exact cA1_s q_1 (by omega) (by omega)) (by omega) (by omega)
    · refine r_load (i := 19) (u := 0) (w := 2) rfl rfl rfl ?_
      refine r_getf (i := 20) (v := 1) (w := 3) (x := (2, 9)) rfl ly17 rfl rfl fun _ => ?_
      refine r_getf (i := 21) (v := 1) (w := 2) (x := (2, 10)) rfl ly9 rfl rfl fun _ => ?_
      refine r_load (i := 22) (u := 2) (w := 0) rfl rfl rfl ?_
      refine a_int (i := 23) rfl ly10 rfl (by omega) (by omega) fun h13 => ?_
      have h14 := hI.a ta10 m.toNat
      have h15 : S.a 10 m.toNat = S0.a 10 m.toNat := hF.a rfl _
      refine r_load (i := 24) (u := 0) (w := 2) rfl rfl rfl ?_
      refine r_getf (i := 25) (v := 3) (w := 3) (x := (2, 19)) rfl ly17 rfl rfl fun _ => ?_
      refine r_load (i := 26) (u := 1) (w := 0) rfl rfl rfl ?_
      refine a_int (i := 27) rfl ly19 rfl (by omega) (by omega) fun h17 => ?_
      have h18 := hI.a ta19 k.toNat
      have h19 : S.a 19 k.toNat = S0.a 19 k.toNat := hF.a rfl _
      refine c_ne (i := 28) (v := 40) rfl ⟨by omega, by omega⟩ ⟨by omega, by omega⟩ (fun h20 => ?_) (fun h21 => ?_)
      · refine r_iinc (i := 40) (u := 1) (v := 2) (s := 1) (L1 := [some ((2, 17)), some (vi k), some (vi (m + 1))]) rfl rfl rfl rfl rfl ?_
        refine r_goto (i := 41) (v := 14) rfl ?_
        exact ih S hI hF hR e_DC e_FN (m + 1) ⟨by omega, by omega⟩ (by omega) (by exact cA2_n1 q_1 (sMm_fr hF rfl rfl) (by omega) (Or.inl (by omega))) (by omega) (by omega) (by omega)
      · refine r_load (i := 29) (u := 0) (w := 2) rfl rfl rfl ?_
        refine r_load (i := 30) (u := 2) (w := 0) rfl rfl rfl ?_
        have h22 := hI.a ta11 m.toNat
        have h23 : S.a 11 m.toNat = S0.a 11 m.toNat := hF.a rfl _
        refine r_call (i := 31) (u := 3) (v := 59) (w := 0) (b := 0) (na := 514) (C2 := xC59) (as := [(2, 17), vi m]) (s := []) rfl rfl rfl rfl rfl rfl rfl (sp59 (m := m) hI ⟨by omega, by omega⟩   (by omega)) (fun r24 S25 hq26 => ?_)
        obtain ⟨z27, rfl, h28, h29, h30, yin31, nin32, rfl⟩ := hq26
        refine Or.inr (Or.inl ⟨rfl, ?_⟩)
        refine z_eq (i := 32) (v := 40) rfl ⟨by omega, by omega⟩ (fun h33 => ?_) (fun h34 => ?_)
        · refine r_iinc (i := 40) (u := 1) (v := 2) (s := 1) (L1 := [some ((2, 17)), some (vi k), some (vi (m + 1))]) rfl rfl rfl rfl rfl ?_
          refine r_goto (i := 41) (v := 14) rfl ?_
          exact ih S hI hF hR e_DC e_FN (m + 1) ⟨by omega, by omega⟩ (by omega) (by exact cA2_n1 q_1 (sMm_fr hF rfl rfl) (by omega) (Or.inr (nin32 (by omega)))) (by omega) (by omega) (by omega)
        · refine r_load (i := 33) (u := 0) (w := 2) rfl rfl rfl ?_
          refine r_load (i := 34) (u := 2) (w := 0) rfl rfl rfl ?_
          refine r_call (i := 35) (u := 3) (v := 58) (w := 0) (b := 0) (na := 770) (C2 := xC58) (as := [(2, 17), vi m]) (s := []) rfl rfl rfl rfl rfl rfl rfl (sp58 (m := m) hI ⟨by omega, by omega⟩   (by omega)) (fun r35 S36 hq37 => ?_)
          obtain ⟨z38, rfl, h39, h40, h41, nsx42, ysx43, rfl⟩ := hq37
          refine Or.inr (Or.inl ⟨rfl, ?_⟩)
          refine z_ne (i := 36) (v := 40) rfl ⟨by omega, by omega⟩ (fun h44 => ?_) (fun h45 => ?_)
          · refine r_iinc (i := 40) (u := 1) (v := 2) (s := 1) (L1 := [some ((2, 17)), some (vi k), some (vi (m + 1))]) rfl rfl rfl rfl rfl ?_
            refine r_goto (i := 41) (v := 14) rfl ?_
            exact ih S hI hF hR e_DC e_FN (m + 1) ⟨by omega, by omega⟩ (by omega) (by exact cA2_n2 q_1 (sMm_fr hF rfl rfl) (by omega) (ysx43 (by omega))) (by omega) (by omega) (by omega)
          · refine r_load (i := 37) (u := 0) (w := 2) rfl rfl rfl ?_
            refine r_load (i := 38) (u := 2) (w := 0) rfl rfl rfl ?_
            have h46 := hI.a ta11 m.toNat
            refine r_call (i := 39) (u := 3) (v := 55) (w := 0) (b := 0) (na := 514) (C2 := xC55) (as := [(2, 17), vi m]) (s := []) rfl rfl rfl rfl rfl rfl rfl (sp55 (m := m) hI ⟨by omega, by omega⟩ (by first | assumption | grind) (by omega) (by omega) (by omega) e_DC e_FN (by omega)) (fun r47 S48 hq49 => ?_)
            obtain ⟨rfl, h50, ct51, e52, e53, hI54, hF55, hR56⟩ := hq49
            have hF57 := hF.trans hF55 rfl rfl
            have hR58 := hR.trans hR56 rfl
            refine Or.inl ⟨rfl, ?_⟩
            refine r_iinc (i := 40) (u := 1) (v := 2) (s := 1) (L1 := [some ((2, 17)), some (vi k), some (vi (m + 1))]) rfl rfl rfl rfl rfl ?_
            refine r_goto (i := 41) (v := 14) rfl ?_
            have h59 := hI54.f tf17_12
            have h60 := hI54.f tf17_11
            have h61 := hI54.f tf9_8
            have h62 : S48.f 9 8 = S.f 9 8 := hF55.f rfl
            have h63 : S.f 9 8 = S0.f 9 8 := hF.f rfl
            have h64 := hI54.f tf17_10
            have h65 : S48.f 17 10 = S.f 17 10 := hF55.f rfl
            have h66 : S.f 17 10 = S0.f 17 10 := hF.f rfl
            exact ih S48 hI54 hF57 hR58 e52 e53 (m + 1) ⟨by omega, by omega⟩ (by omega) (by exact cA2_y q_1 (sMm_fr hF rfl rfl) (by omega) (by omega) (yin31 (by omega)) (nsx42 (by omega)) ct51) (by omega) (by omega) (by omega)
theorem lp54_8 {G : xk} {d : Nat} {S0 : yS}  (hd : 2 ≤ d + 1) : ∀ (n : Nat), ∀ (S : yS) (hI : yI S) (hF : yFr [(17, 11), (17, 12)] [20, 21] S0 S) (hR : yRm [] S0 S) (e_DC : DC S) (e_FN : FN S) (k : Int) (h_k : 0 ≤ k ∧ k ≤ 20) (q_0 : S.f 17 12 ≤ S.f 17 11) (q_1 : cA1 S0 S k) (q_2 : k ≤ S.f 17 10) (hn : 20 - k < (n : Nat)), yT xPr G LY xC54 8 [some ((2, 17)), some (vi k), none] [] S (d + 1) (fun r S' => r = (0, (0, 0)) ∧ S'.f 17 12 ≤ S'.f 17 11 ∧ caQ S0 S' ∧ DC S' ∧ FN S' ∧ yI S' ∧ yFr [(17, 11), (17, 12)] [20, 21] S0 S' ∧ yRm [] S0 S') := by
  intro n
  induction n with
  | zero => intro S hI hF hR e_DC e_FN k h_k q_0 q_1 q_2 hn; exact absurd hn (by omega)
  | succ n ih =>
    intro S hI hF hR e_DC e_FN k h_k q_0 q_1 q_2 hn
    have h1 := hI.f tf17_12
    have h2 := hI.f tf17_11
    have h3 := hI.f tf17_10
    have h4 : S.f 17 10 = S0.f 17 10 := hF.f rfl
    refine r_load (i := 8) (u := 1) (w := 0) rfl rfl rfl ?_
    refine r_load (i := 9) (u := 0) (w := 2) rfl rfl rfl ?_
    refine r_getf (i := 10) (v := 10) (w := 3) (x := vi (S.f 17 10)) rfl ly17 rfl rfl fun h5 => ?_
    have h5 : Rg (S.f 17 10) := h5
    refine c_ge (i := 11) (v := 44) rfl ⟨by omega, by omega⟩ ⟨by omega, by omega⟩ (fun h6 => ?_) (fun h7 => ?_)
    · exact r_ret0 (i := 44) rfl ⟨rfl, (by omega), (by exact ca_end q_1 (by omega)), e_DC, e_FN, hI, hF, hR⟩
    · refine r_const (i := 12) (u := 0) (z := 0) rfl rfl ?_
      refine r_store (i := 13) (u := 2) (w := 0) (L1 := [some ((2, 17)), some (vi k), some (vi 0)]) rfl rfl rfl rfl ?_
      have h8 := hI.f tf9_8
      have h9 : S.f 9 8 = S0.f 9 8 := hF.f rfl
      exact lp54_14   hd (k := k) ⟨by omega, by omega⟩ n ih (by omega) _ S hI hF hR e_DC e_FN 0 ⟨by omega, by omega⟩ (by omega) (by exact cA2_0 q_1) (by omega) (by omega) (Int.lt_succ_toNat _)
/-- ProxyForge$Collector.collectAll -/
theorem sp54 {G : xk} {S : yS} {d : Nat} (hI : yI S)  (hd : 2 ≤ d) : yT xPr G LY xC54 0 [some ((2, 17))] [] S d (fun r S' => r = (0, (0, 0)) ∧ S'.f 17 12 ≤ S'.f 17 11 ∧ caQ S S' ∧ DC S' ∧ FN S' ∧ yI S' ∧ yFr [(17, 11), (17, 12)] [20, 21] S S' ∧ yRm [] S S') := by
  refine yT_pad 2 ?_
  show yT xPr G LY xC54 0 [some ((2, 17)), none, none] [] S d _
  obtain ⟨d, rfl⟩ : ∃ q, d = q + 1 := ⟨d - 1, by omega⟩
  have hF : yFr [(17, 11), (17, 12)] [20, 21] S S := yFr.refl S
  have hR : yRm [] S S := yRm.refl S
  refine r_load (i := 0) (u := 0) (w := 2) rfl rfl rfl ?_
  refine r_const (i := 1) (u := 0) (z := 0) rfl rfl ?_
  refine r_putI (i := 2) (v := 11) (w := 3) rfl ly17 rfl ⟨by omega, by omega⟩ ?_
  have hI2 := hI.setf (b := 17) (w := 11) (z := 0) tf17_11 rfl (by omega) (by omega)
  have hF4 := hF.setf (b := 17) (w := 11) (z := 0) rfl
  have hR5 := hR.setf (b := 17) (w := 11) (z := 0)
  refine yT_gen (fun S1 hS3 => ?_)
  rw [hS3] at hI2 hF4 hR5 
  refine r_load (i := 3) (u := 0) (w := 2) rfl rfl rfl ?_
  refine r_const (i := 4) (u := 0) (z := 0) rfl rfl ?_
  refine r_putI (i := 5) (v := 12) (w := 3) rfl ly17 rfl ⟨by omega, by omega⟩ ?_
  have hI7 := hI2.setf (b := 17) (w := 12) (z := 0) tf17_12 rfl (by omega) (by omega)
  have hF9 := hF4.setf (b := 17) (w := 12) (z := 0) rfl
  have hR10 := hR5.setf (b := 17) (w := 12) (z := 0)
  refine yT_gen (fun S6 hS8 => ?_)
  rw [hS8] at hI7 hF9 hR10 
  refine r_const (i := 6) (u := 0) (z := 0) rfl rfl ?_
  refine r_store (i := 7) (u := 1) (w := 0) (L1 := [some ((2, 17)), some (vi 0), none]) rfl rfl rfl rfl ?_
  have h11 := hI7.f tf17_12
  have h12 : S6.f 17 12 = 0 := by rw [← hS8]; exact ysf_eq
  have h13 := hI7.f tf17_11
  have h14 : S6.f 17 11 = S1.f 17 11 := by rw [← hS8]; exact ysf_ne (by decide)
  have h15 : S1.f 17 11 = 0 := by rw [← hS3]; exact ysf_eq
  have h16 := hI7.f tf17_10
  have h17 : S6.f 17 10 = S1.f 17 10 := by rw [← hS8]; exact ysf_ne (by decide)
  have h18 : S1.f 17 10 = S.f 17 10 := by rw [← hS3]; exact ysf_ne (by decide)
  exact lp54_8   hd _ S6 hI7 hF9 hR10 (by exact DC_0 (by omega)) (by exact FN_0 (by omega)) 0 ⟨by omega, by omega⟩ (by omega) (by exact cA1_0 (by omega) (by omega)) (by omega) (Int.lt_succ_toNat _)
/-- ProxyForge$Collector.clash -/
theorem sp53 {G : xk} {S : yS} {d : Nat} (hI : yI S) {m : Int} (h_m : 0 ≤ m ∧ m ≤ 59) {o : Int} (h_o : 0 ≤ o ∧ o ≤ 59) (hd : 1 ≤ d) : yT xPr G LY xC53 0 [some ((2, 17)), some (vi m), some (vi o)] [] S d (fun r S' => ∃ z : Int, r = (1, vi z) ∧ 0 ≤ z ∧ z ≤ 1 ∧ (z = 1 → clC S m o) ∧ (z = 0 → ¬ clC S m o) ∧ S = S') := by
  refine yT_pad 2 ?_
  show yT xPr G LY xC53 0 [some ((2, 17)), some (vi m), some (vi o), none, none] [] S d _
  obtain ⟨d, rfl⟩ : ∃ q, d = q + 1 := ⟨d - 1, by omega⟩
  refine r_load (i := 0) (u := 0) (w := 2) rfl rfl rfl ?_
  refine r_getf (i := 1) (v := 1) (w := 3) (x := (2, 9)) rfl ly17 rfl rfl fun _ => ?_
  refine r_getf (i := 2) (v := 2) (w := 2) (x := (2, 11)) rfl ly9 rfl rfl fun _ => ?_
  refine r_load (i := 3) (u := 1) (w := 0) rfl rfl rfl ?_
  refine a_int (i := 4) rfl ly11 rfl (by omega) (by omega) fun h3 => ?_
  have h4 := hI.a ta11 m.toNat
  refine r_load (i := 5) (u := 0) (w := 2) rfl rfl rfl ?_
  refine r_getf (i := 6) (v := 1) (w := 3) (x := (2, 9)) rfl ly17 rfl rfl fun _ => ?_
  refine r_getf (i := 7) (v := 2) (w := 2) (x := (2, 11)) rfl ly9 rfl rfl fun _ => ?_
  refine r_load (i := 8) (u := 2) (w := 0) rfl rfl rfl ?_
  refine a_int (i := 9) rfl ly11 rfl (by omega) (by omega) fun h7 => ?_
  have h8 := hI.a ta11 o.toNat
  refine c_ne (i := 10) (v := 22) rfl ⟨by omega, by omega⟩ ⟨by omega, by omega⟩ (fun h9 => ?_) (fun h10 => ?_)
  · refine r_const (i := 22) (u := 0) (z := 0) rfl rfl ?_
    exact r_retZ (i := 23) rfl (by omega) (by omega) ⟨0, rfl, by omega, by omega, (by intro hz; first | exact absurd hz (by omega) | exact cl_y1 (by omega) (by omega) (by omega) (by omega)), (by intro hz; first | exact absurd hz (by omega) | exact cl_n1 (by omega) | exact cl_n2 (by omega) (by omega)), rfl⟩
  · refine r_load (i := 11) (u := 0) (w := 2) rfl rfl rfl ?_
    refine r_getf (i := 12) (v := 1) (w := 3) (x := (2, 9)) rfl ly17 rfl rfl fun _ => ?_
    refine r_getf (i := 13) (v := 4) (w := 2) (x := (2, 13)) rfl ly9 rfl rfl fun _ => ?_
    refine r_load (i := 14) (u := 1) (w := 0) rfl rfl rfl ?_
    refine a_int (i := 15) rfl ly13 rfl (by omega) (by omega) fun h13 => ?_
    have kp14 := hI.k13 m.toNat
    refine r_load (i := 16) (u := 0) (w := 2) rfl rfl rfl ?_
    refine r_getf (i := 17) (v := 1) (w := 3) (x := (2, 9)) rfl ly17 rfl rfl fun _ => ?_
    refine r_getf (i := 18) (v := 4) (w := 2) (x := (2, 13)) rfl ly9 rfl rfl fun _ => ?_
    refine r_load (i := 19) (u := 2) (w := 0) rfl rfl rfl ?_
    refine a_int (i := 20) rfl ly13 rfl (by omega) (by omega) fun h17 => ?_
    have kp18 := hI.k13 o.toNat
    refine c_eq (i := 21) (v := 24) rfl ⟨by omega, by omega⟩ ⟨by omega, by omega⟩ (fun h19 => ?_) (fun h20 => ?_)
    · refine r_load (i := 24) (u := 0) (w := 2) rfl rfl rfl ?_
      refine r_getf (i := 25) (v := 1) (w := 3) (x := (2, 9)) rfl ly17 rfl rfl fun _ => ?_
      refine r_getf (i := 26) (v := 5) (w := 2) (x := (2, 14)) rfl ly9 rfl rfl fun _ => ?_
      refine r_load (i := 27) (u := 1) (w := 0) rfl rfl rfl ?_
      refine a_int (i := 28) rfl ly14 rfl (by omega) (by omega) fun h23 => ?_
      have h24 := hI.a ta14 m.toNat
      refine r_const (i := 29) (u := 4) (z := 4) rfl rfl ?_
      refine r_isub (i := 30) rfl ?_
      refine r_store (i := 31) (u := 3) (w := 0) (L1 := [some ((2, 17)), some (vi m), some (vi o), some (vi ((S.a 14 m.toNat) - 4)), none]) rfl rfl rfl rfl ?_
      refine r_load (i := 32) (u := 0) (w := 2) rfl rfl rfl ?_
      refine r_getf (i := 33) (v := 1) (w := 3) (x := (2, 9)) rfl ly17 rfl rfl fun _ => ?_
      refine r_getf (i := 34) (v := 5) (w := 2) (x := (2, 14)) rfl ly9 rfl rfl fun _ => ?_
      refine r_load (i := 35) (u := 2) (w := 0) rfl rfl rfl ?_
      refine a_int (i := 36) rfl ly14 rfl (by omega) (by omega) fun h27 => ?_
      have h28 := hI.a ta14 o.toNat
      refine r_const (i := 37) (u := 4) (z := 4) rfl rfl ?_
      refine r_isub (i := 38) rfl ?_
      refine r_store (i := 39) (u := 4) (w := 0) (L1 := [some ((2, 17)), some (vi m), some (vi o), some (vi ((S.a 14 m.toNat) - 4)), some (vi ((S.a 14 o.toNat) - 4))]) rfl rfl rfl rfl ?_
      refine r_load (i := 40) (u := 3) (w := 0) rfl rfl rfl ?_
      refine z_lt (i := 41) (v := 44) rfl ⟨by omega, by omega⟩ (fun h29 => ?_) (fun h30 => ?_)
      · refine r_load (i := 44) (u := 3) (w := 0) rfl rfl rfl ?_
        refine r_load (i := 45) (u := 4) (w := 0) rfl rfl rfl ?_
        refine c_eq (i := 46) (v := 49) rfl ⟨by omega, by omega⟩ ⟨by omega, by omega⟩ (fun h31 => ?_) (fun h32 => ?_)
        · refine r_const (i := 49) (u := 0) (z := 0) rfl rfl ?_
          exact r_retZ (i := 50) rfl (by omega) (by omega) ⟨0, rfl, by omega, by omega, (by intro hz; first | exact absurd hz (by omega) | exact cl_y1 (by omega) (by omega) (by omega) (by omega)), (by intro hz; first | exact absurd hz (by omega) | exact cl_n1 (by omega) | exact cl_n2 (by omega) (by omega)), rfl⟩
        · refine r_const (i := 47) (u := 1) (z := 1) rfl rfl ?_
          refine r_goto (i := 48) (v := 50) rfl ?_
          exact r_retZ (i := 50) rfl (by omega) (by omega) ⟨1, rfl, by omega, by omega, (by intro hz; first | exact absurd hz (by omega) | exact cl_y1 (by omega) (by omega) (by omega) (by omega)), (by intro hz; first | exact absurd hz (by omega) | exact cl_n1 (by omega) | exact cl_n2 (by omega) (by omega)), rfl⟩
      · refine r_load (i := 42) (u := 4) (w := 0) rfl rfl rfl ?_
        refine z_ge (i := 43) (v := 51) rfl ⟨by omega, by omega⟩ (fun h33 => ?_) (fun h34 => ?_)
        · refine r_load (i := 51) (u := 0) (w := 2) rfl rfl rfl ?_
          refine r_getf (i := 52) (v := 0) (w := 3) (x := (2, 1)) rfl ly17 rfl rfl fun _ => ?_
          refine r_load (i := 53) (u := 3) (w := 0) rfl rfl rfl ?_
          refine r_load (i := 54) (u := 4) (w := 0) rfl rfl rfl ?_
          refine r_call (i := 55) (u := 1) (v := 133) (w := 0) (b := 0) (na := 771) (C2 := xC133) (as := [(2, 1), vi ((S.a 14 m.toNat) - 4), vi ((S.a 14 o.toNat) - 4)]) (s := []) rfl rfl rfl rfl rfl rfl rfl (sp133 (t := (S.a 14 m.toNat) - 4) (o := (S.a 14 o.toNat) - 4) hI ⟨by omega, by omega⟩ ⟨by omega, by omega⟩   (by omega)) (fun r36 S37 hq38 => ?_)
          obtain ⟨z39, rfl, h40, h41, yb42, nb43, rfl⟩ := hq38
          refine Or.inr (Or.inl ⟨rfl, ?_⟩)
          refine z_ne (i := 56) (v := 65) rfl ⟨by omega, by omega⟩ (fun h44 => ?_) (fun h45 => ?_)
          · refine r_const (i := 65) (u := 0) (z := 0) rfl rfl ?_
            exact r_retZ (i := 66) rfl (by omega) (by omega) ⟨0, rfl, by omega, by omega, (by intro hz; first | exact absurd hz (by omega) | exact cl_y1 (by omega) (by omega) (by omega) (by omega)), (by intro hz; first | exact absurd hz (by omega) | exact cl_n1 (by omega) | exact cl_n2 (by omega) (by omega) | exact cl_n3 (by omega) (by omega) (Or.inl (yb42 (by omega)))), rfl⟩
          · refine r_load (i := 57) (u := 0) (w := 2) rfl rfl rfl ?_
            refine r_getf (i := 58) (v := 0) (w := 3) (x := (2, 1)) rfl ly17 rfl rfl fun _ => ?_
            refine r_load (i := 59) (u := 4) (w := 0) rfl rfl rfl ?_
            refine r_load (i := 60) (u := 3) (w := 0) rfl rfl rfl ?_
            refine r_call (i := 61) (u := 1) (v := 133) (w := 0) (b := 0) (na := 771) (C2 := xC133) (as := [(2, 1), vi ((S.a 14 o.toNat) - 4), vi ((S.a 14 m.toNat) - 4)]) (s := []) rfl rfl rfl rfl rfl rfl rfl (sp133 (t := (S.a 14 o.toNat) - 4) (o := (S.a 14 m.toNat) - 4) hI ⟨by omega, by omega⟩ ⟨by omega, by omega⟩   (by omega)) (fun r47 S48 hq49 => ?_)
            obtain ⟨z50, rfl, h51, h52, yb53, nb54, rfl⟩ := hq49
            refine Or.inr (Or.inl ⟨rfl, ?_⟩)
            refine z_ne (i := 62) (v := 65) rfl ⟨by omega, by omega⟩ (fun h55 => ?_) (fun h56 => ?_)
            · refine r_const (i := 65) (u := 0) (z := 0) rfl rfl ?_
              exact r_retZ (i := 66) rfl (by omega) (by omega) ⟨0, rfl, by omega, by omega, (by intro hz; first | exact absurd hz (by omega) | exact cl_y1 (by omega) (by omega) (by omega) (by omega) | exact cl_y2 (by omega) (by omega) (by omega) (by omega) (nb43 (by omega)) (nb54 (by omega))), (by intro hz; first | exact absurd hz (by omega) | exact cl_n1 (by omega) | exact cl_n2 (by omega) (by omega) | exact cl_n3 (by omega) (by omega) (Or.inl (yb42 (by omega))) | exact cl_n3 (by omega) (by omega) (Or.inr (yb53 (by omega)))), rfl⟩
            · refine r_const (i := 63) (u := 1) (z := 1) rfl rfl ?_
              refine r_goto (i := 64) (v := 66) rfl ?_
              exact r_retZ (i := 66) rfl (by omega) (by omega) ⟨1, rfl, by omega, by omega, (by intro hz; first | exact absurd hz (by omega) | exact cl_y1 (by omega) (by omega) (by omega) (by omega) | exact cl_y2 (by omega) (by omega) (by omega) (by omega) (nb43 (by omega)) (nb54 (by omega))), (by intro hz; first | exact absurd hz (by omega) | exact cl_n1 (by omega) | exact cl_n2 (by omega) (by omega) | exact cl_n3 (by omega) (by omega) (Or.inl (yb42 (by omega))) | exact cl_n3 (by omega) (by omega) (Or.inr (yb53 (by omega)))), rfl⟩
        · refine r_load (i := 44) (u := 3) (w := 0) rfl rfl rfl ?_
          refine r_load (i := 45) (u := 4) (w := 0) rfl rfl rfl ?_
          refine c_eq (i := 46) (v := 49) rfl ⟨by omega, by omega⟩ ⟨by omega, by omega⟩ (fun h57 => ?_) (fun h58 => ?_)
          · refine r_const (i := 49) (u := 0) (z := 0) rfl rfl ?_
            exact r_retZ (i := 50) rfl (by omega) (by omega) ⟨0, rfl, by omega, by omega, (by intro hz; first | exact absurd hz (by omega) | exact cl_y1 (by omega) (by omega) (by omega) (by omega)), (by intro hz; first | exact absurd hz (by omega) | exact cl_n1 (by omega) | exact cl_n2 (by omega) (by omega)), rfl⟩
          · refine r_const (i := 47) (u := 1) (z := 1) rfl rfl ?_
            refine r_goto (i := 48) (v := 50) rfl ?_
            exact r_retZ (i := 50) rfl (by omega) (by omega) ⟨1, rfl, by omega, by omega, (by intro hz; first | exact absurd hz (by omega) | exact cl_y1 (by omega) (by omega) (by omega) (by omega)), (by intro hz; first | exact absurd hz (by omega) | exact cl_n1 (by omega) | exact cl_n2 (by omega) (by omega)), rfl⟩
    · refine r_const (i := 22) (u := 0) (z := 0) rfl rfl ?_
      exact r_retZ (i := 23) rfl (by omega) (by omega) ⟨0, rfl, by omega, by omega, (by intro hz; first | exact absurd hz (by omega) | exact cl_y1 (by omega) (by omega) (by omega) (by omega)), (by intro hz; first | exact absurd hz (by omega) | exact cl_n1 (by omega) | exact cl_n2 (by omega) (by omega)), rfl⟩
theorem lp57_8 {G : xk} {d : Nat} {S : yS} (hI : yI S)  (hd : 2 ≤ d + 1) {k : Int} (h_k : 0 ≤ k ∧ k ≤ 59) (no : Nat) (K : ∀ (k : Int) (h_k : 0 ≤ k ∧ k ≤ 60) (q_0 : hcN S k) (hn : 60 - k < (no : Nat)), yT xPr G LY xC57 2 [some ((2, 17)), some (vi k), none] [] S (d + 1) (fun r S' => ∃ z : Int, r = (1, vi z) ∧ 0 ≤ z ∧ z ≤ 1 ∧ (z = 1 → hcY S) ∧ (z = 0 → hcN S (S.f 17 12)) ∧ S = S')) (hm : 60 - k < ((no + 1 : Nat) : Int)) : ∀ (n : Nat), ∀ (j : Int) (h_j : 0 ≤ j ∧ j ≤ 60) (q_0 : hcN S k) (q_1 : hcJ S k j) (q_2 : k < S.f 17 12) (hn : 60 - j < (n : Nat)), yT xPr G LY xC57 8 [some ((2, 17)), some (vi k), some (vi j)] [] S (d + 1) (fun r S' => ∃ z : Int, r = (1, vi z) ∧ 0 ≤ z ∧ z ≤ 1 ∧ (z = 1 → hcY S) ∧ (z = 0 → hcN S (S.f 17 12)) ∧ S = S') := by
  intro n
  induction n with
  | zero => intro j h_j q_0 q_1 q_2 hn; exact absurd hn (by omega)
  | succ n ih =>
    intro j h_j q_0 q_1 q_2 hn
    have h1 := hI.f tf17_12
    refine r_load (i := 8) (u := 2) (w := 0) rfl rfl rfl ?_
    refine r_load (i := 9) (u := 1) (w := 0) rfl rfl rfl ?_
    refine c_ge (i := 10) (v := 26) rfl ⟨by omega, by omega⟩ ⟨by omega, by omega⟩ (fun h2 => ?_) (fun h3 => ?_)
    · refine r_iinc (i := 26) (u := 1) (v := 1) (s := 1) (L1 := [some ((2, 17)), some (vi (k + 1)), some (vi j)]) rfl rfl rfl rfl rfl ?_
      refine r_goto (i := 27) (v := 2) rfl ?_
      refine yT_drop (L1 := [some ((2, 17)), some (vi (k + 1)), none]) rfl ?_
      exact K (k + 1) ⟨by omega, by omega⟩ (by exact hcN_s q_0 (by omega) q_1 (by omega)) (by omega)
    · refine r_load (i := 11) (u := 0) (w := 2) rfl rfl rfl ?_
      refine r_load (i := 12) (u := 0) (w := 2) rfl rfl rfl ?_
      refine r_getf (i := 13) (v := 5) (w := 3) (x := (2, 21)) rfl ly17 rfl rfl fun _ => ?_
      refine r_load (i := 14) (u := 1) (w := 0) rfl rfl rfl ?_
      refine a_int (i := 15) rfl ly21 rfl (by omega) (by omega) fun h5 => ?_
      have h6 := hI.a ta21 k.toNat
      refine r_load (i := 16) (u := 0) (w := 2) rfl rfl rfl ?_
      refine r_getf (i := 17) (v := 5) (w := 3) (x := (2, 21)) rfl ly17 rfl rfl fun _ => ?_
      refine r_load (i := 18) (u := 2) (w := 0) rfl rfl rfl ?_
      refine a_int (i := 19) rfl ly21 rfl (by omega) (by omega) fun h8 => ?_
      have h9 := hI.a ta21 j.toNat
      refine r_call (i := 20) (u := 3) (v := 53) (w := 0) (b := 0) (na := 1283) (C2 := xC53) (as := [(2, 17), vi (S.a 21 k.toNat), vi (S.a 21 j.toNat)]) (s := []) rfl rfl rfl rfl rfl rfl rfl (sp53 (m := S.a 21 k.toNat) (o := S.a 21 j.toNat) hI ⟨by omega, by omega⟩ ⟨by omega, by omega⟩   (by omega)) (fun r10 S11 hq12 => ?_)
      obtain ⟨z13, rfl, h14, h15, ycl16, ncl17, rfl⟩ := hq12
      refine Or.inr (Or.inl ⟨rfl, ?_⟩)
      refine z_eq (i := 21) (v := 24) rfl ⟨by omega, by omega⟩ (fun h18 => ?_) (fun h19 => ?_)
      · refine r_iinc (i := 24) (u := 1) (v := 2) (s := 1) (L1 := [some ((2, 17)), some (vi k), some (vi (j + 1))]) rfl rfl rfl rfl rfl ?_
        refine r_goto (i := 25) (v := 8) rfl ?_
        exact ih (j + 1) ⟨by omega, by omega⟩ (by exact q_0) (by exact hcJ_s q_1 (by omega) (ncl17 (by omega))) (by omega) (by omega)
      · refine r_const (i := 22) (u := 1) (z := 1) rfl rfl ?_
        exact r_retZ (i := 23) rfl (by omega) (by omega) ⟨1, rfl, by omega, by omega, (by intro hz; first | exact absurd hz (by omega) | exact hcY_of (k := k) (j := j) (by omega) (by omega) (by omega) (ycl16 (by omega))), (by intro hz; first | exact absurd hz (by omega) | exact fun i j hj hi => q_0 i j hj (by omega)), rfl⟩
theorem lp57_2 {G : xk} {d : Nat} {S : yS} (hI : yI S)  (hd : 2 ≤ d + 1) : ∀ (n : Nat), ∀ (k : Int) (h_k : 0 ≤ k ∧ k ≤ 60) (q_0 : hcN S k) (hn : 60 - k < (n : Nat)), yT xPr G LY xC57 2 [some ((2, 17)), some (vi k), none] [] S (d + 1) (fun r S' => ∃ z : Int, r = (1, vi z) ∧ 0 ≤ z ∧ z ≤ 1 ∧ (z = 1 → hcY S) ∧ (z = 0 → hcN S (S.f 17 12)) ∧ S = S') := by
  intro n
  induction n with
  | zero => intro k h_k q_0 hn; exact absurd hn (by omega)
  | succ n ih =>
    intro k h_k q_0 hn
    refine r_load (i := 2) (u := 1) (w := 0) rfl rfl rfl ?_
    refine r_load (i := 3) (u := 0) (w := 2) rfl rfl rfl ?_
    have h1 := hI.f tf17_12
    refine r_getf (i := 4) (v := 12) (w := 3) (x := vi (S.f 17 12)) rfl ly17 rfl rfl fun h2 => ?_
    have h2 : Rg (S.f 17 12) := h2
    refine c_ge (i := 5) (v := 28) rfl ⟨by omega, by omega⟩ ⟨by omega, by omega⟩ (fun h3 => ?_) (fun h4 => ?_)
    · refine r_const (i := 28) (u := 0) (z := 0) rfl rfl ?_
      exact r_retZ (i := 29) rfl (by omega) (by omega) ⟨0, rfl, by omega, by omega, (by intro hz; first | exact absurd hz (by omega)), (by intro hz; first | exact absurd hz (by omega) | exact fun i j hj hi => q_0 i j hj (by omega)), rfl⟩
    · refine r_const (i := 6) (u := 0) (z := 0) rfl rfl ?_
      refine r_store (i := 7) (u := 2) (w := 0) (L1 := [some ((2, 17)), some (vi k), some (vi 0)]) rfl rfl rfl rfl ?_
      exact lp57_8 hI    hd (k := k) ⟨by omega, by omega⟩ n ih (by omega) _ 0 ⟨by omega, by omega⟩ (by exact q_0) (by exact hcJ_0) (by omega) (Int.lt_succ_toNat _)
/-- ProxyForge$Collector.hasClash -/
theorem sp57 {G : xk} {S : yS} {d : Nat} (hI : yI S)  (hd : 2 ≤ d) : yT xPr G LY xC57 0 [some ((2, 17))] [] S d (fun r S' => ∃ z : Int, r = (1, vi z) ∧ 0 ≤ z ∧ z ≤ 1 ∧ (z = 1 → hcY S) ∧ (z = 0 → hcN S (S.f 17 12)) ∧ S = S') := by
  refine yT_pad 2 ?_
  show yT xPr G LY xC57 0 [some ((2, 17)), none, none] [] S d _
  obtain ⟨d, rfl⟩ : ∃ q, d = q + 1 := ⟨d - 1, by omega⟩
  refine r_const (i := 0) (u := 0) (z := 0) rfl rfl ?_
  refine r_store (i := 1) (u := 1) (w := 0) (L1 := [some ((2, 17)), some (vi 0), none]) rfl rfl rfl rfl ?_
  exact lp57_2 hI    hd _ 0 ⟨by omega, by omega⟩ (by exact hcN_0) (Int.lt_succ_toNat _)
theorem lp56_11 {G : xk} {d : Nat} {S : yS} (hI : yI S) {t : Int} (h_t : 0 ≤ t ∧ t ≤ 19) (e_FA : FA S) (hd : 1 ≤ d + 1) : ∀ (n : Nat), ∀ (k : Int) (h_k : 0 ≤ k ∧ k ≤ 3) (q_0 : fmP (dK S) t k) (q_1 : bt (S.f 17 9) t) (hn : 3 - k < (n : Nat)), yT xPr G LY xC56 11 [some ((2, 17)), some (vi t), some (vi k)] [] S (d + 1) (fun r S' => ∃ z : Int, r = (1, vi z) ∧ -1 ≤ z ∧ z ≤ 19 ∧ z = fmF (dK S) t ∧ S = S') := by
  intro n
  induction n with
  | zero => intro k h_k q_0 q_1 hn; exact absurd hn (by omega)
  | succ n ih =>
    intro k h_k q_0 q_1 hn
    refine r_load (i := 11) (u := 2) (w := 0) rfl rfl rfl ?_
    refine r_load (i := 12) (u := 0) (w := 2) rfl rfl rfl ?_
    have h1 := hI.f tf17_7
    refine r_getf (i := 13) (v := 7) (w := 3) (x := vi (S.f 17 7)) rfl ly17 rfl rfl fun h2 => ?_
    have h2 : Rg (S.f 17 7) := h2
    refine c_ge (i := 14) (v := 31) rfl ⟨by omega, by omega⟩ ⟨by omega, by omega⟩ (fun h3 => ?_) (fun h4 => ?_)
    · refine r_const (i := 31) (u := 4294967295) (z := -1) rfl rfl ?_
      exact r_retI (i := 32) rfl ⟨-1, rfl, by omega, by omega, (by exact fm_none (K := dK S) q_1 q_0 (show S.f 17 7 ≤ k by omega)), rfl⟩
    · refine r_load (i := 15) (u := 0) (w := 2) rfl rfl rfl ?_
      refine r_getf (i := 16) (v := 0) (w := 3) (x := (2, 1)) rfl ly17 rfl rfl fun _ => ?_
      refine r_load (i := 17) (u := 0) (w := 2) rfl rfl rfl ?_
      refine r_getf (i := 18) (v := 2) (w := 3) (x := (2, 18)) rfl ly17 rfl rfl fun _ => ?_
      refine r_load (i := 19) (u := 2) (w := 0) rfl rfl rfl ?_
      refine a_int (i := 20) rfl ly18 rfl (by omega) (by omega) fun h7 => ?_
      have h8 := hI.a ta18 k.toNat
      refine r_load (i := 21) (u := 1) (w := 0) rfl rfl rfl ?_
      have fa9 := e_FA k.toNat (by omega)
      refine r_call (i := 22) (u := 1) (v := 133) (w := 0) (b := 0) (na := 771) (C2 := xC133) (as := [(2, 1), vi (S.a 18 k.toNat), vi t]) (s := []) rfl rfl rfl rfl rfl rfl rfl (sp133 (t := S.a 18 k.toNat) (o := t) hI ⟨by omega, by omega⟩ ⟨by omega, by omega⟩   (by omega)) (fun r9 S10 hq11 => ?_)
      obtain ⟨z12, rfl, h13, h14, yb15, nb16, rfl⟩ := hq11
      refine Or.inr (Or.inl ⟨rfl, ?_⟩)
      refine z_eq (i := 23) (v := 29) rfl ⟨by omega, by omega⟩ (fun h17 => ?_) (fun h18 => ?_)
      · refine r_iinc (i := 29) (u := 1) (v := 2) (s := 1) (L1 := [some ((2, 17)), some (vi t), some (vi (k + 1))]) rfl rfl rfl rfl rfl ?_
        refine r_goto (i := 30) (v := 11) rfl ?_
        exact ih (k + 1) ⟨by omega, by omega⟩ (by exact fmP_s q_0 (by omega) (nb16 (by omega))) (by exact q_1) (by omega)
      · refine r_load (i := 24) (u := 0) (w := 2) rfl rfl rfl ?_
        refine r_getf (i := 25) (v := 2) (w := 3) (x := (2, 18)) rfl ly17 rfl rfl fun _ => ?_
        refine r_load (i := 26) (u := 2) (w := 0) rfl rfl rfl ?_
        refine a_int (i := 27) rfl ly18 rfl (by omega) (by omega) fun h20 => ?_
        have h21 := hI.a ta18 k.toNat
        exact r_retI (i := 28) rfl ⟨S.a 18 k.toNat, rfl, by omega, by omega, (by exact fm_hit (K := dK S) q_1 q_0 (by omega) (show k < S.f 17 7 by omega) (show S.f 17 7 ≤ 3 by omega) (yb15 (by omega))), rfl⟩
/-- ProxyForge$Collector.faceThatMet -/
theorem sp56 {G : xk} {S : yS} {d : Nat} (hI : yI S) {t : Int} (h_t : 0 ≤ t ∧ t ≤ 19) (e_FA : FA S) (hd : 1 ≤ d) : yT xPr G LY xC56 0 [some ((2, 17)), some (vi t)] [] S d (fun r S' => ∃ z : Int, r = (1, vi z) ∧ -1 ≤ z ∧ z ≤ 19 ∧ z = fmF (dK S) t ∧ S = S') := by
  refine yT_pad 1 ?_
  show yT xPr G LY xC56 0 [some ((2, 17)), some (vi t), none] [] S d _
  obtain ⟨d, rfl⟩ : ∃ q, d = q + 1 := ⟨d - 1, by omega⟩
  refine r_load (i := 0) (u := 0) (w := 2) rfl rfl rfl ?_
  refine r_getf (i := 1) (v := 9) (w := 3) (x := vi (S.f 17 9)) rfl ly17 rfl rfl fun h1 => ?_
  have h1 : Rg (S.f 17 9) := h1
  refine r_load (i := 2) (u := 1) (w := 0) rfl rfl rfl ?_
  refine r_iushr (i := 3) rfl (by omega) (by omega) ?_
  have h2 := yshr_rg (S.f 17 9) t
  refine r_const (i := 4) (u := 1) (z := 1) rfl rfl ?_
  refine r_iand (i := 5) rfl ?_
  have h3 := @yand_c (yshr (S.f 17 9) t) 1 (by decide) (by decide)
  refine z_ne (i := 6) (v := 9) rfl ⟨by omega, by omega⟩ (fun h4 => ?_) (fun h5 => ?_)
  · refine r_const (i := 9) (u := 0) (z := 0) rfl rfl ?_
    refine r_store (i := 10) (u := 2) (w := 0) (L1 := [some ((2, 17)), some (vi t), some (vi 0)]) rfl rfl rfl rfl ?_
    exact lp56_11 hI h_t  e_FA hd _ 0 ⟨by omega, by omega⟩ (by exact fmP_0) (by unfold bt; omega) (Int.lt_succ_toNat _)
  · refine r_const (i := 7) (u := 4294967295) (z := -1) rfl rfl ?_
    exact r_retI (i := 8) rfl ⟨-1, rfl, by omega, by omega, (by exact fm_no (K := dK S) (show ¬ bt (S.f 17 9) t from by unfold bt; omega)), rfl⟩
theorem lp102_8 {G : xk} {d : Nat} {S0 : yS}  (hd : 1 ≤ d + 1) : ∀ (n : Nat), ∀ (S : yS) (hI : yI S) (hF : yFr [(22, 3)] [23, 24, 25] S0 S) (hR : yRm [] S0 S) (e_FN : FN S) (k : Int) (h_k : 0 ≤ k ∧ k ≤ 24) (q_0 : S.f 22 3 ≤ S.f 17 12) (q_1 : tkL S0 S k) (q_2 : S0.f 17 12 ≤ 24 → S.f 22 3 = S0.f 17 12) (q_3 : k ≤ S.f 22 3) (hn : 24 - k < (n : Nat)), yT xPr G LY xC102 8 [some ((2, 22)), some ((2, 17)), some ((2, 9)), some ((2, 42)), some (vi k), none] [] S (d + 1) (fun r S' => r = (0, (0, 0)) ∧ tkQ S0 S' ∧ yI S' ∧ yFr [(22, 3)] [23, 24, 25] S0 S' ∧ yRm [] S0 S') := by
  intro n
  induction n with
  | zero => intro S hI hF hR e_FN k h_k q_0 q_1 q_2 q_3 hn; exact absurd hn (by omega)
  | succ n ih =>
    intro S hI hF hR e_FN k h_k q_0 q_1 q_2 q_3 hn
    have h1 := hI.f tf22_3
    have h2 := hI.f tf17_12
    have h3 : S.f 17 12 = S0.f 17 12 := hF.f rfl
    refine r_load (i := 8) (u := 4) (w := 0) rfl rfl rfl ?_
    refine r_load (i := 9) (u := 0) (w := 2) rfl rfl rfl ?_
    refine r_getf (i := 10) (v := 3) (w := 4) (x := vi (S.f 22 3)) rfl ly22 rfl rfl fun h4 => ?_
    have h4 : Rg (S.f 22 3) := h4
    refine c_ge (i := 11) (v := 42) rfl ⟨by omega, by omega⟩ ⟨by omega, by omega⟩ (fun h5 => ?_) (fun h6 => ?_)
    · exact r_ret0 (i := 42) rfl ⟨rfl, (by exact ⟨q_2, fun j hj => q_1 j (by omega)⟩), hI, hF, hR⟩
    · refine r_load (i := 12) (u := 1) (w := 2) rfl rfl rfl ?_
      refine r_getf (i := 13) (v := 5) (w := 3) (x := (2, 21)) rfl ly17 rfl rfl fun _ => ?_
      refine r_load (i := 14) (u := 4) (w := 0) rfl rfl rfl ?_
      refine a_int (i := 15) rfl ly21 rfl (by omega) (by omega) fun h8 => ?_
      have h9 := hI.a ta21 k.toNat
      have h10 : S.a 21 k.toNat = S0.a 21 k.toNat := hF.a rfl _
      have fn9 := e_FN k.toNat (by omega)
      refine r_store (i := 16) (u := 5) (w := 0) (L1 := [some ((2, 22)), some ((2, 17)), some ((2, 9)), some ((2, 42)), some (vi k), some (vi (S.a 21 k.toNat))]) rfl rfl rfl rfl ?_
      refine r_load (i := 17) (u := 0) (w := 2) rfl rfl rfl ?_
      refine r_getf (i := 18) (v := 0) (w := 4) (x := (2, 23)) rfl ly22 rfl rfl fun _ => ?_
      refine r_load (i := 19) (u := 4) (w := 0) rfl rfl rfl ?_
      refine r_load (i := 20) (u := 5) (w := 0) rfl rfl rfl ?_
      refine s_int (i := 21) rfl ly23 rfl (by omega) (by omega) ⟨by omega, by omega⟩ ?_
      have hI13 := hI.seta (b := 23) (j := k.toNat) (z := S.a 21 k.toNat) ta23 rfl (by omega) (by omega)
      have hF15 := hF.seta (b := 23) (j := k.toNat) (z := S.a 21 k.toNat) rfl
      have hR16 := hR.seta (b := 23) (j := k.toNat) (z := S.a 21 k.toNat)
      have e17 := FNx.seta e_FN (b := 23) (j := k.toNat) (z := S.a 21 k.toNat) rfl
      refine yT_gen (fun S12 hS14 => ?_)
      rw [hS14] at hI13 hF15 hR16 e17
      refine r_load (i := 22) (u := 0) (w := 2) rfl rfl rfl ?_
      refine r_getf (i := 23) (v := 1) (w := 4) (x := (2, 24)) rfl ly22 rfl rfl fun _ => ?_
      refine r_load (i := 24) (u := 4) (w := 0) rfl rfl rfl ?_
      refine r_load (i := 25) (u := 3) (w := 2) rfl rfl rfl ?_
      refine r_load (i := 26) (u := 2) (w := 2) rfl rfl rfl ?_
      refine r_getf (i := 27) (v := 2) (w := 2) (x := (2, 11)) rfl ly9 rfl rfl fun _ => ?_
      refine r_load (i := 28) (u := 5) (w := 0) rfl rfl rfl ?_
      refine a_int (i := 29) rfl ly11 rfl (by omega) (by omega) fun h20 => ?_
      have h21 := hI13.a ta11 (S.a 21 k.toNat).toNat
      have h22 : S12.a 11 (S.a 21 k.toNat).toNat = S.a 11 (S.a 21 k.toNat).toNat := by rw [← hS14]; rfl
      have h23 : S.a 11 (S.a 21 k.toNat).toNat = S0.a 11 (S.a 21 k.toNat).toNat := hF.a rfl _
      refine a_int (i := 30) rfl ly42 rfl (by omega) (by omega) fun h24 => ?_
      have h25 := hI13.a ta42 (S12.a 11 (S.a 21 k.toNat).toNat).toNat
      have h26 : S12.a 42 (S12.a 11 (S.a 21 k.toNat).toNat).toNat = S.a 42 (S12.a 11 (S.a 21 k.toNat).toNat).toNat := by rw [← hS14]; rfl
      have h27 : S.a 42 (S12.a 11 (S.a 21 k.toNat).toNat).toNat = S0.a 42 (S12.a 11 (S.a 21 k.toNat).toNat).toNat := hF.a rfl _
      refine s_int (i := 31) rfl ly24 rfl (by omega) (by omega) ⟨by omega, by omega⟩ ?_
      have hI29 := hI13.seta (b := 24) (j := k.toNat) (z := S12.a 42 (S12.a 11 (S.a 21 k.toNat).toNat).toNat) ta24 rfl (by omega) (by omega)
      have hF31 := hF15.seta (b := 24) (j := k.toNat) (z := S12.a 42 (S12.a 11 (S.a 21 k.toNat).toNat).toNat) rfl
      have hR32 := hR16.seta (b := 24) (j := k.toNat) (z := S12.a 42 (S12.a 11 (S.a 21 k.toNat).toNat).toNat)
      have e33 := FNx.seta e17 (b := 24) (j := k.toNat) (z := S12.a 42 (S12.a 11 (S.a 21 k.toNat).toNat).toNat) rfl
      refine yT_gen (fun S28 hS30 => ?_)
      rw [hS30] at hI29 hF31 hR32 e33
      refine r_load (i := 32) (u := 0) (w := 2) rfl rfl rfl ?_
      refine r_getf (i := 33) (v := 2) (w := 4) (x := (2, 25)) rfl ly22 rfl rfl fun _ => ?_
      refine r_load (i := 34) (u := 4) (w := 0) rfl rfl rfl ?_
      refine r_load (i := 35) (u := 2) (w := 2) rfl rfl rfl ?_
      refine r_getf (i := 36) (v := 6) (w := 2) (x := (2, 15)) rfl ly9 rfl rfl fun _ => ?_
      refine r_load (i := 37) (u := 5) (w := 0) rfl rfl rfl ?_
      refine a_int (i := 38) rfl ly15 rfl (by omega) (by omega) fun h36 => ?_
      have h37 := hI29.a ta15 (S.a 21 k.toNat).toNat
      have h38 : S28.a 15 (S.a 21 k.toNat).toNat = S12.a 15 (S.a 21 k.toNat).toNat := by rw [← hS30]; rfl
      have h39 : S12.a 15 (S.a 21 k.toNat).toNat = S.a 15 (S.a 21 k.toNat).toNat := by rw [← hS14]; rfl
      have h40 : S.a 15 (S.a 21 k.toNat).toNat = S0.a 15 (S.a 21 k.toNat).toNat := hF.a rfl _
      refine s_int (i := 39) rfl ly25 rfl (by omega) (by omega) ⟨by omega, by omega⟩ ?_
      have hI42 := hI29.seta (b := 25) (j := k.toNat) (z := S28.a 15 (S.a 21 k.toNat).toNat) ta25 rfl (by omega) (by omega)
      have hF44 := hF31.seta (b := 25) (j := k.toNat) (z := S28.a 15 (S.a 21 k.toNat).toNat) rfl
      have hR45 := hR32.seta (b := 25) (j := k.toNat) (z := S28.a 15 (S.a 21 k.toNat).toNat)
      have e46 := FNx.seta e33 (b := 25) (j := k.toNat) (z := S28.a 15 (S.a 21 k.toNat).toNat) rfl
      refine yT_gen (fun S41 hS43 => ?_)
      rw [hS43] at hI42 hF44 hR45 e46
      refine r_iinc (i := 40) (u := 1) (v := 4) (s := 1) (L1 := [some ((2, 22)), some ((2, 17)), some ((2, 9)), some ((2, 42)), some (vi (k + 1)), some (vi (S.a 21 k.toNat))]) rfl rfl rfl rfl rfl ?_
      refine r_goto (i := 41) (v := 8) rfl ?_
      refine yT_drop (L1 := [some ((2, 22)), some ((2, 17)), some ((2, 9)), some ((2, 42)), some (vi (k + 1)), none]) rfl ?_
      have h47 := hI42.f tf22_3
      have h48 : S41.f 22 3 = S28.f 22 3 := by rw [← hS43]; rfl
      have h49 : S28.f 22 3 = S12.f 22 3 := by rw [← hS30]; rfl
      have h50 : S12.f 22 3 = S.f 22 3 := by rw [← hS14]; rfl
      have h51 := hI42.f tf17_12
      have h52 : S41.f 17 12 = S28.f 17 12 := by rw [← hS43]; rfl
      have h53 : S28.f 17 12 = S12.f 17 12 := by rw [← hS30]; rfl
      have h54 : S12.f 17 12 = S.f 17 12 := by rw [← hS14]; rfl
      have h55 : S.f 17 12 = S0.f 17 12 := hF.f rfl
      exact ih S41 hI42 hF44 hR45 e46 (k + 1) ⟨by omega, by omega⟩ (by omega) (by exact tkL_s q_1 (by omega) (hF.a rfl) (hF.a rfl) (hF.a rfl) (hF.a rfl) (fun j => by subst hS14 hS30 hS43; rfl) (fun j => by subst hS14 hS30 hS43; rfl) (fun j => by subst hS14 hS30 hS43; rfl)) (by omega) (by omega) (by omega)
/-- ProxyForge$Proxy.take -/
theorem sp102 {G : xk} {S : yS} {d : Nat} (hI : yI S) (e_FN : FN S) (hd : 1 ≤ d) : yT xPr G LY xC102 0 [some ((2, 22)), some ((2, 17)), some ((2, 9)), some ((2, 42))] [] S d (fun r S' => r = (0, (0, 0)) ∧ tkQ S S' ∧ yI S' ∧ yFr [(22, 3)] [23, 24, 25] S S' ∧ yRm [] S S') := by
  refine yT_pad 2 ?_
  show yT xPr G LY xC102 0 [some ((2, 22)), some ((2, 17)), some ((2, 9)), some ((2, 42)), none, none] [] S d _
  obtain ⟨d, rfl⟩ : ∃ q, d = q + 1 := ⟨d - 1, by omega⟩
  have hF : yFr [(22, 3)] [23, 24, 25] S S := yFr.refl S
  have hR : yRm [] S S := yRm.refl S
  refine r_load (i := 0) (u := 0) (w := 2) rfl rfl rfl ?_
  refine r_load (i := 1) (u := 1) (w := 2) rfl rfl rfl ?_
  have h1 := hI.f tf17_12
  refine r_getf (i := 2) (v := 12) (w := 3) (x := vi (S.f 17 12)) rfl ly17 rfl rfl fun h2 => ?_
  have h2 : Rg (S.f 17 12) := h2
  refine r_const (i := 3) (u := 24) (z := 24) rfl rfl ?_
  refine r_call (i := 4) (u := 65535) (v := 269) (w := 0) (b := 2) (na := 514) (C2 := xC269) (as := [vi (S.f 17 12), vi 24]) (s := [(2, 22)]) rfl rfl rfl rfl rfl rfl rfl (sp269 (x := S.f 17 12) (y := 24)  ⟨by omega, by omega⟩ ⟨by omega, by omega⟩   (by omega)) (fun r3 S4 hq5 => ?_)
  obtain ⟨z6, rfl, h7, h8, h9, h10, rfl⟩ := hq5
  refine Or.inr (Or.inl ⟨rfl, ?_⟩)
  refine r_putI (i := 5) (v := 3) (w := 4) rfl ly22 rfl ⟨by omega, by omega⟩ ?_
  have hI12 := hI.setf (b := 22) (w := 3) (z := z6) tf22_3 rfl (by omega) (by omega)
  have hF14 := hF.setf (b := 22) (w := 3) (z := z6) rfl
  have hR15 := hR.setf (b := 22) (w := 3) (z := z6)
  have e16 := FNx.setf e_FN (b := 22) (w := 3) (z := z6) rfl
  refine yT_gen (fun S11 hS13 => ?_)
  rw [hS13] at hI12 hF14 hR15 e16
  refine r_const (i := 6) (u := 0) (z := 0) rfl rfl ?_
  refine r_store (i := 7) (u := 4) (w := 0) (L1 := [some ((2, 22)), some ((2, 17)), some ((2, 9)), some ((2, 42)), some (vi 0), none]) rfl rfl rfl rfl ?_
  have h17 := hI12.f tf22_3
  have h18 : S11.f 22 3 = z6 := by rw [← hS13]; exact ysf_eq
  have h19 := hI12.f tf17_12
  have h20 : S11.f 17 12 = S.f 17 12 := by rw [← hS13]; exact ysf_ne (by decide)
  exact lp102_8   hd _ S11 hI12 hF14 hR15 e16 0 ⟨by omega, by omega⟩ (by omega) (by exact tkL_0) (by omega) (by omega) (Int.lt_succ_toNat _)
theorem lp60_37 {G : xk} {d : Nat} {S0 : yS} {f : Int} (h_f : 0 ≤ f ∧ f ≤ 19) {dp : Int} (h_dp : 0 ≤ dp ∧ dp ≤ 20) (hd : 22 - dp ≤ ((d + 1 : Nat) : Int)) (nR : Nat) (R : ∀ {S : yS} {d : Nat} (hI : yI S) {f : Int} (h_f : 0 ≤ f ∧ f ≤ 19) {dp : Int} (h_dp : 0 ≤ dp ∧ dp ≤ 20) (hd : 22 - dp ≤ (d : Int)) (hr : 20 - dp < (nR : Int)), yT xPr G LY xC60 0 [some ((2, 17)), some (vi f), some (vi dp)] [] S d  (fun r S' => r = (0, (0, 0)) ∧ S.f 17 10 ≤ S'.f 17 10 ∧ (∀ j9 : Nat, (j9 : Int) < S.f 17 10 → S'.a 19 (j9) = S.a 19 (j9)) ∧ mtQ S S' f dp ∧ yI S' ∧ yFr [(17, 8), (17, 10)] [19] S S' ∧ yRm [] S S')) (hr : 20 - dp < ((nR + 1 : Nat) : Int)) : ∀ (n : Nat), ∀ (S : yS) (hI : yI S) (hF : yFr [(17, 8), (17, 10)] [19] S0 S) (hR : yRm [] S0 S) (j : Int) (h_j : 0 ≤ j ∧ j ≤ 4) (q_0 : dp ≤ 19) (q_1 : S0.f 17 10 + 1 ≤ S.f 17 10) (q_2 : ∀ j9 : Nat, (j9 : Int) < S0.f 17 10 → S.a 19 (j9) = S0.a 19 (j9)) (q_3 : mtL S0 S f dp j) (q_4 : j ≤ S.a 7 f.toNat) (hn : 4 - j < (n : Nat)), yT xPr G LY xC60 37 [some ((2, 17)), some (vi f), some (vi dp), some (vi j)] [] S (d + 1) (fun r S' => r = (0, (0, 0)) ∧ S0.f 17 10 ≤ S'.f 17 10 ∧ (∀ j9 : Nat, (j9 : Int) < S0.f 17 10 → S'.a 19 (j9) = S0.a 19 (j9)) ∧ mtQ S0 S' f dp ∧ yI S' ∧ yFr [(17, 8), (17, 10)] [19] S0 S' ∧ yRm [] S0 S') := by
  intro n
  induction n with
  | zero => intro S hI hF hR j h_j q_0 q_1 q_2 q_3 q_4 hn; exact absurd hn (by omega)
  | succ n ih =>
    intro S hI hF hR j h_j q_0 q_1 q_2 q_3 q_4 hn
    have h1 := hI.f tf17_10
    have h2 := hI.a ta7 f.toNat
    have h3 : S.a 7 f.toNat = S0.a 7 f.toNat := hF.a rfl _
    refine r_load (i := 37) (u := 3) (w := 0) rfl rfl rfl ?_
    refine r_load (i := 38) (u := 0) (w := 2) rfl rfl rfl ?_
    refine r_getf (i := 39) (v := 0) (w := 3) (x := (2, 1)) rfl ly17 rfl rfl fun _ => ?_
    refine r_getf (i := 40) (v := 5) (w := 1) (x := (2, 7)) rfl ly1 rfl rfl fun _ => ?_
    refine r_load (i := 41) (u := 1) (w := 0) rfl rfl rfl ?_
    refine a_int (i := 42) rfl ly7 rfl (by omega) (by omega) fun h6 => ?_
    have h7 := hI.a ta7 f.toNat
    refine c_ge (i := 43) (v := 56) rfl ⟨by omega, by omega⟩ ⟨by omega, by omega⟩ (fun h8 => ?_) (fun h9 => ?_)
    · exact r_ret0 (i := 56) rfl ⟨rfl, (by omega), (by exact q_2), (by exact mt_end q_3 (by omega)), hI, hF, hR⟩
    · refine r_load (i := 44) (u := 0) (w := 2) rfl rfl rfl ?_
      refine r_load (i := 45) (u := 0) (w := 2) rfl rfl rfl ?_
      refine r_getf (i := 46) (v := 0) (w := 3) (x := (2, 1)) rfl ly17 rfl rfl fun _ => ?_
      refine r_load (i := 47) (u := 1) (w := 0) rfl rfl rfl ?_
      refine r_load (i := 48) (u := 3) (w := 0) rfl rfl rfl ?_
      refine r_call (i := 49) (u := 1) (v := 130) (w := 0) (b := 0) (na := 771) (C2 := xC130) (as := [(2, 1), vi f, vi j]) (s := [(2, 17)]) rfl rfl rfl rfl rfl rfl rfl (sp130 (t := f) (k := j) hI ⟨by omega, by omega⟩ ⟨by omega, by omega⟩   (by omega)) (fun r11 S12 hq13 => ?_)
      obtain ⟨z14, rfl, h15, h16, h17, rfl⟩ := hq13
      refine Or.inr (Or.inl ⟨rfl, ?_⟩)
      refine r_load (i := 50) (u := 2) (w := 0) rfl rfl rfl ?_
      refine r_const (i := 51) (u := 1) (z := 1) rfl rfl ?_
      refine r_iadd (i := 52) rfl ?_
      refine r_call (i := 53) (u := 3) (v := 60) (w := 0) (b := 0) (na := 1027) (C2 := xC60) (as := [(2, 17), vi z14, vi (dp + 1)]) (s := []) rfl rfl rfl rfl rfl rfl rfl (R (f := z14) (dp := dp + 1) hI ⟨by omega, by omega⟩ ⟨by omega, by omega⟩   (by omega) (by omega)) (fun r18 S19 hq20 => ?_)
      obtain ⟨rfl, h21, mkp22, mt23, hI24, hF25, hR26⟩ := hq20
      have hF27 := hF.trans hF25 rfl rfl
      have hR28 := hR.trans hR26 rfl
      refine Or.inl ⟨rfl, ?_⟩
      refine r_iinc (i := 54) (u := 1) (v := 3) (s := 1) (L1 := [some ((2, 17)), some (vi f), some (vi dp), some (vi (j + 1))]) rfl rfl rfl rfl rfl ?_
      refine r_goto (i := 55) (v := 37) rfl ?_
      have h29 := hI24.f tf17_10
      have h30 := hI24.a ta7 f.toNat
      have h31 : S19.a 7 f.toNat = S.a 7 f.toNat := hF25.a rfl _
      have h32 : S.a 7 f.toNat = S0.a 7 f.toNat := hF.a rfl _
      exact ih S19 hI24 hF27 hR28 (j + 1) ⟨by omega, by omega⟩ (by omega) (by omega) (by exact fun j9 h9 => (mkp22 j9 (by omega)).trans (q_2 j9 h9)) (by exact mtL_s q_3 (sT_fr hF rfl rfl) (by omega) (by omega) (by omega) (by omega) mt23) (by omega) (by omega)
/-- ProxyForge$Collector.meet -/
theorem sp60_r {G : xk} : ∀ (nR : Nat) {S : yS} {d : Nat} (hI : yI S) {f : Int} (h_f : 0 ≤ f ∧ f ≤ 19) {dp : Int} (h_dp : 0 ≤ dp ∧ dp ≤ 20) (hd : 22 - dp ≤ (d : Int)) (hr : 20 - dp < (nR : Int)), yT xPr G LY xC60 0 [some ((2, 17)), some (vi f), some (vi dp)] [] S d (fun r S' => r = (0, (0, 0)) ∧ S.f 17 10 ≤ S'.f 17 10 ∧ (∀ j9 : Nat, (j9 : Int) < S.f 17 10 → S'.a 19 (j9) = S.a 19 (j9)) ∧ mtQ S S' f dp ∧ yI S' ∧ yFr [(17, 8), (17, 10)] [19] S S' ∧ yRm [] S S') := by
  intro nR
  induction nR with
  | zero => intro S d hI f h_f dp h_dp  hd hr; exact absurd hr (by omega)
  | succ nR R =>
  intro S d hI f h_f dp h_dp  hd hr
  refine yT_pad 1 ?_
  show yT xPr G LY xC60 0 [some ((2, 17)), some (vi f), some (vi dp), none] [] S d _
  obtain ⟨d, rfl⟩ : ∃ q, d = q + 1 := ⟨d - 1, by omega⟩
  have hF : yFr [(17, 8), (17, 10)] [19] S S := yFr.refl S
  have hR : yRm [] S S := yRm.refl S
  refine r_load (i := 0) (u := 0) (w := 2) rfl rfl rfl ?_
  refine r_getf (i := 1) (v := 8) (w := 3) (x := vi (S.f 17 8)) rfl ly17 rfl rfl fun h1 => ?_
  have h1 : Rg (S.f 17 8) := h1
  refine r_load (i := 2) (u := 1) (w := 0) rfl rfl rfl ?_
  refine r_iushr (i := 3) rfl (by omega) (by omega) ?_
  have h2 := yshr_rg (S.f 17 8) f
  refine r_const (i := 4) (u := 1) (z := 1) rfl rfl ?_
  refine r_iand (i := 5) rfl ?_
  have h3 := @yand_c (yshr (S.f 17 8) f) 1 (by decide) (by decide)
  refine z_ne (i := 6) (v := 14) rfl ⟨by omega, by omega⟩ (fun h4 => ?_) (fun h5 => ?_)
  · have h6 := hI.f tf17_10
    exact r_ret0 (i := 14) rfl ⟨rfl, (by omega), (by exact fun j9 _ => rfl), (by first | exact mt_in (by omega) | exact mt_full (by omega) (Or.inl (by omega)) | exact mt_full (by omega) (Or.inr (by omega))), hI, hF, hR⟩
  · refine r_load (i := 7) (u := 2) (w := 0) rfl rfl rfl ?_
    refine r_const (i := 8) (u := 20) (z := 20) rfl rfl ?_
    refine c_ge (i := 9) (v := 14) rfl ⟨by omega, by omega⟩ ⟨by omega, by omega⟩ (fun h7 => ?_) (fun h8 => ?_)
    · have h9 := hI.f tf17_10
      exact r_ret0 (i := 14) rfl ⟨rfl, (by omega), (by exact fun j9 _ => rfl), (by first | exact mt_in (by omega) | exact mt_full (by omega) (Or.inl (by omega)) | exact mt_full (by omega) (Or.inr (by omega))), hI, hF, hR⟩
    · refine r_load (i := 10) (u := 0) (w := 2) rfl rfl rfl ?_
      have h10 := hI.f tf17_10
      refine r_getf (i := 11) (v := 10) (w := 3) (x := vi (S.f 17 10)) rfl ly17 rfl rfl fun h11 => ?_
      have h11 : Rg (S.f 17 10) := h11
      refine r_const (i := 12) (u := 20) (z := 20) rfl rfl ?_
      refine c_lt (i := 13) (v := 15) rfl ⟨by omega, by omega⟩ ⟨by omega, by omega⟩ (fun h12 => ?_) (fun h13 => ?_)
      · refine r_load (i := 15) (u := 0) (w := 2) rfl rfl rfl ?_
        refine r_dup (i := 16) rfl rfl ?_
        refine r_getf (i := 17) (v := 8) (w := 3) (x := vi (S.f 17 8)) rfl ly17 rfl rfl fun h14 => ?_
        have h14 : Rg (S.f 17 8) := h14
        refine r_const (i := 18) (u := 1) (z := 1) rfl rfl ?_
        refine r_load (i := 19) (u := 1) (w := 0) rfl rfl rfl ?_
        refine r_shl1 (i := 20) rfl (by omega) (by omega) fun h15 => ?_
        refine r_ior (i := 21) rfl ?_
        have h16 := yor_rg (S.f 17 8) (yshl 1 f)
        refine r_putI (i := 22) (v := 8) (w := 3) rfl ly17 rfl ⟨by omega, by omega⟩ ?_
        have hI18 := hI.setf0 (b := 17) (w := 8) (z := yor (S.f 17 8) (yshl 1 f)) rfl rfl
        have hF20 := hF.setf (b := 17) (w := 8) (z := yor (S.f 17 8) (yshl 1 f)) rfl
        have hR21 := hR.setf (b := 17) (w := 8) (z := yor (S.f 17 8) (yshl 1 f))
        refine yT_gen (fun S17 hS19 => ?_)
        rw [hS19] at hI18 hF20 hR21 
        refine r_load (i := 23) (u := 0) (w := 2) rfl rfl rfl ?_
        refine r_getf (i := 24) (v := 3) (w := 3) (x := (2, 19)) rfl ly17 rfl rfl fun _ => ?_
        refine r_load (i := 25) (u := 0) (w := 2) rfl rfl rfl ?_
        have h23 := hI18.f tf17_10
        have h24 : S17.f 17 10 = S.f 17 10 := by rw [← hS19]; exact ysf_ne (by decide)
        refine r_getf (i := 26) (v := 10) (w := 3) (x := vi (S17.f 17 10)) rfl ly17 rfl rfl fun h25 => ?_
        have h25 : Rg (S17.f 17 10) := h25
        refine r_load (i := 27) (u := 1) (w := 0) rfl rfl rfl ?_
        refine s_int (i := 28) rfl ly19 rfl (by omega) (by omega) ⟨by omega, by omega⟩ ?_
        have hI27 := hI18.seta (b := 19) (j := (S17.f 17 10).toNat) (z := f) ta19 rfl (by omega) (by omega)
        have hF29 := hF20.seta (b := 19) (j := (S17.f 17 10).toNat) (z := f) rfl
        have hR30 := hR21.seta (b := 19) (j := (S17.f 17 10).toNat) (z := f)
        refine yT_gen (fun S26 hS28 => ?_)
        rw [hS28] at hI27 hF29 hR30 
        refine r_load (i := 29) (u := 0) (w := 2) rfl rfl rfl ?_
        refine r_dup (i := 30) rfl rfl ?_
        have h31 := hI27.f tf17_10
        have h32 : S26.f 17 10 = S17.f 17 10 := by rw [← hS28]; rfl
        have h33 : S17.f 17 10 = S.f 17 10 := by rw [← hS19]; exact ysf_ne (by decide)
        refine r_getf (i := 31) (v := 10) (w := 3) (x := vi (S26.f 17 10)) rfl ly17 rfl rfl fun h34 => ?_
        have h34 : Rg (S26.f 17 10) := h34
        refine r_const (i := 32) (u := 1) (z := 1) rfl rfl ?_
        refine r_iadd (i := 33) rfl ?_
        refine r_putI (i := 34) (v := 10) (w := 3) rfl ly17 rfl ⟨by omega, by omega⟩ ?_
        have hI36 := hI27.setf (b := 17) (w := 10) (z := (S26.f 17 10) + 1) tf17_10 rfl (by omega) (by omega)
        have hF38 := hF29.setf (b := 17) (w := 10) (z := (S26.f 17 10) + 1) rfl
        have hR39 := hR30.setf (b := 17) (w := 10) (z := (S26.f 17 10) + 1)
        refine yT_gen (fun S35 hS37 => ?_)
        rw [hS37] at hI36 hF38 hR39 
        refine r_const (i := 35) (u := 0) (z := 0) rfl rfl ?_
        refine r_store (i := 36) (u := 3) (w := 0) (L1 := [some ((2, 17)), some (vi f), some (vi dp), some (vi 0)]) rfl rfl rfl rfl ?_
        have h40 := hI36.f tf17_10
        have h41 : S35.f 17 10 = (S26.f 17 10) + 1 := by rw [← hS37]; exact ysf_eq
        have h42 := hI36.a ta7 f.toNat
        have h43 : S35.a 7 f.toNat = S26.a 7 f.toNat := by rw [← hS37]; rfl
        have h44 : S26.a 7 f.toNat = S17.a 7 f.toNat := by rw [← hS28]; rfl
        have h45 : S17.a 7 f.toNat = S.a 7 f.toNat := by rw [← hS19]; rfl
        exact lp60_37 h_f h_dp  hd nR R hr _ S35 hI36 hF38 hR39 0 ⟨by omega, by omega⟩ (by omega) (by omega) (by exact fun j9 h9 => (show _ = (ysa S 19 (S.f 17 10).toNat f).a 19 j9 from by subst hS19 hS28 hS37; rfl).trans (ysa_ne (Or.inr (by omega)))) (by exact mtL_0 (by omega) (by subst hS19 hS28 hS37; rfl) (by subst hS19 hS28 hS37; rfl) (fun j => by subst hS19 hS28 hS37; rfl) (fun j => by subst hS19 hS28 hS37; rfl) (by subst hS19 hS28 hS37; rfl)) (by omega) (Int.lt_succ_toNat _)
      · exact r_ret0 (i := 14) rfl ⟨rfl, (by omega), (by exact fun j9 _ => rfl), (by first | exact mt_in (by omega) | exact mt_full (by omega) (Or.inl (by omega)) | exact mt_full (by omega) (Or.inr (by omega))), hI, hF, hR⟩
theorem sp60 {G : xk} {S : yS} {d : Nat} (hI : yI S) {f : Int} (h_f : 0 ≤ f ∧ f ≤ 19) {dp : Int} (h_dp : 0 ≤ dp ∧ dp ≤ 20) (hd : 22 ≤ d) : yT xPr G LY xC60 0 [some ((2, 17)), some (vi f), some (vi dp)] [] S d (fun r S' => r = (0, (0, 0)) ∧ S.f 17 10 ≤ S'.f 17 10 ∧ (∀ j9 : Nat, (j9 : Int) < S.f 17 10 → S'.a 19 (j9) = S.a 19 (j9)) ∧ mtQ S S' f dp ∧ yI S' ∧ yFr [(17, 8), (17, 10)] [19] S S' ∧ yRm [] S S') := sp60_r _ hI h_f h_dp  (by omega) (Int.lt_succ_toNat _)
theorem lp61_45 {G : xk} {d : Nat} {S0 : yS}  (hd : 23 ≤ d + 1) {cl : Int} (h_cl : 0 ≤ cl ∧ cl ≤ 20) {k : Int} (h_k : 0 ≤ k ∧ k ≤ 19) (no : Nat) (K : ∀ (S : yS) (hI : yI S) (hF : yFr [(17, 8), (17, 9), (17, 10)] [19] S0 S) (hR : yRm [] S0 S) (e_FA : FA S) (cl k : Int) (h_cl : 0 ≤ cl ∧ cl ≤ 20) (h_k : 0 ≤ k ∧ k ≤ 20) (q_0 : mC1 S0 S cl k) (q_1 : k ≤ cl) (q_2 : cl ≤ S.f 17 10) (hn : 20 - k < (no : Nat)), yT xPr G LY xC61 40 [some ((2, 17)), some (vi cl), some (vi k), none] [] S (d + 1) (fun r S' => r = (0, (0, 0)) ∧ maQ S0 S' ∧ mbQ S0 S' ∧ FA S' ∧ yI S' ∧ yFr [(17, 8), (17, 9), (17, 10)] [19] S0 S' ∧ yRm [] S0 S')) (hm : 20 - k < ((no + 1 : Nat) : Int)) : ∀ (n : Nat), ∀ (S : yS) (hI : yI S) (hF : yFr [(17, 8), (17, 9), (17, 10)] [19] S0 S) (hR : yRm [] S0 S) (e_FA : FA S) (j : Int) (h_j : 0 ≤ j ∧ j ≤ 4) (q_0 : mC2 S0 S cl k j) (q_1 : k < cl) (q_2 : cl ≤ S.f 17 10) (q_3 : j ≤ S.a 7 (S.a 19 k.toNat).toNat) (hn : 4 - j < (n : Nat)), yT xPr G LY xC61 45 [some ((2, 17)), some (vi cl), some (vi k), some (vi j)] [] S (d + 1) (fun r S' => r = (0, (0, 0)) ∧ maQ S0 S' ∧ mbQ S0 S' ∧ FA S' ∧ yI S' ∧ yFr [(17, 8), (17, 9), (17, 10)] [19] S0 S' ∧ yRm [] S0 S') := by
  intro n
  induction n with
  | zero => intro S hI hF hR e_FA j h_j q_0 q_1 q_2 q_3 hn; exact absurd hn (by omega)
  | succ n ih =>
    intro S hI hF hR e_FA j h_j q_0 q_1 q_2 q_3 hn
    have h1 := hI.f tf17_10
    have h2 := hI.a ta19 k.toNat
    refine r_load (i := 45) (u := 3) (w := 0) rfl rfl rfl ?_
    refine r_load (i := 46) (u := 0) (w := 2) rfl rfl rfl ?_
    refine r_getf (i := 47) (v := 0) (w := 3) (x := (2, 1)) rfl ly17 rfl rfl fun _ => ?_
    refine r_getf (i := 48) (v := 5) (w := 1) (x := (2, 7)) rfl ly1 rfl rfl fun _ => ?_
    refine r_load (i := 49) (u := 0) (w := 2) rfl rfl rfl ?_
    refine r_getf (i := 50) (v := 3) (w := 3) (x := (2, 19)) rfl ly17 rfl rfl fun _ => ?_
    refine r_load (i := 51) (u := 2) (w := 0) rfl rfl rfl ?_
    refine a_int (i := 52) rfl ly19 rfl (by omega) (by omega) fun h6 => ?_
    have h7 := hI.a ta19 k.toNat
    refine a_int (i := 53) rfl ly7 rfl (by omega) (by omega) fun h8 => ?_
    have h9 := hI.a ta7 (S.a 19 k.toNat).toNat
    have h10 : S.a 7 (S.a 19 k.toNat).toNat = S0.a 7 (S.a 19 k.toNat).toNat := hF.a rfl _
    refine c_ge (i := 54) (v := 68) rfl ⟨by omega, by omega⟩ ⟨by omega, by omega⟩ (fun h11 => ?_) (fun h12 => ?_)
    · refine r_iinc (i := 68) (u := 1) (v := 2) (s := 1) (L1 := [some ((2, 17)), some (vi cl), some (vi (k + 1)), some (vi j)]) rfl rfl rfl rfl rfl ?_
      refine r_goto (i := 69) (v := 40) rfl ?_
      refine yT_drop (L1 := [some ((2, 17)), some (vi cl), some (vi (k + 1)), none]) rfl ?_
      exact K S hI hF hR e_FA cl (k + 1) ⟨by omega, by omega⟩ ⟨by omega, by omega⟩ (by exact mC1_s q_0 (by omega) (hF.a rfl) (by omega)) (by omega) (by omega) (by omega)
    · refine r_load (i := 55) (u := 0) (w := 2) rfl rfl rfl ?_
      refine r_load (i := 56) (u := 0) (w := 2) rfl rfl rfl ?_
      refine r_getf (i := 57) (v := 0) (w := 3) (x := (2, 1)) rfl ly17 rfl rfl fun _ => ?_
      refine r_load (i := 58) (u := 0) (w := 2) rfl rfl rfl ?_
      refine r_getf (i := 59) (v := 3) (w := 3) (x := (2, 19)) rfl ly17 rfl rfl fun _ => ?_
      refine r_load (i := 60) (u := 2) (w := 0) rfl rfl rfl ?_
      refine a_int (i := 61) rfl ly19 rfl (by omega) (by omega) fun h15 => ?_
      have h16 := hI.a ta19 k.toNat
      refine r_load (i := 62) (u := 3) (w := 0) rfl rfl rfl ?_
      refine r_call (i := 63) (u := 1) (v := 130) (w := 0) (b := 0) (na := 771) (C2 := xC130) (as := [(2, 1), vi (S.a 19 k.toNat), vi j]) (s := [(2, 17)]) rfl rfl rfl rfl rfl rfl rfl (sp130 (t := S.a 19 k.toNat) (k := j) hI ⟨by omega, by omega⟩ ⟨by omega, by omega⟩   (by omega)) (fun r17 S18 hq19 => ?_)
      obtain ⟨z20, rfl, h21, h22, h23, rfl⟩ := hq19
      refine Or.inr (Or.inl ⟨rfl, ?_⟩)
      refine r_const (i := 64) (u := 0) (z := 0) rfl rfl ?_
      refine r_call (i := 65) (u := 3) (v := 60) (w := 0) (b := 0) (na := 1027) (C2 := xC60) (as := [(2, 17), vi z20, vi 0]) (s := []) rfl rfl rfl rfl rfl rfl rfl (sp60 (f := z20) (dp := 0) hI ⟨by omega, by omega⟩ ⟨by omega, by omega⟩   (by omega)) (fun r24 S25 hq26 => ?_)
      obtain ⟨rfl, h27, mkp28, mt29, hI30, hF31, hR32⟩ := hq26
      have hF33 := hF.trans hF31 rfl rfl
      have hR34 := hR.trans hR32 rfl
      have e35 := FAx.fr e_FA hF31 rfl rfl
      refine Or.inl ⟨rfl, ?_⟩
      refine r_iinc (i := 66) (u := 1) (v := 3) (s := 1) (L1 := [some ((2, 17)), some (vi cl), some (vi k), some (vi (j + 1))]) rfl rfl rfl rfl rfl ?_
      refine r_goto (i := 67) (v := 45) rfl ?_
      have h36 := hI30.f tf17_10
      have h37 := hI30.a ta19 k.toNat
      exact ih S25 hI30 hF33 hR34 e35 (j + 1) ⟨by omega, by omega⟩ (by exact mC2_s q_0 (sT_fr hF rfl rfl) (by omega) (by omega) (by omega) (by omega) (by omega) (by omega) mkp28 mt29) (by omega) (by omega) (by rw [mkp28 k.toNat (by omega), hF31.a (b := 7) rfl]; omega) (by omega)
theorem lp61_75 {G : xk} {d : Nat} {S0 : yS}  (hd : 23 ≤ d + 1) : ∀ (n : Nat), ∀ (S : yS) (hI : yI S) (hF : yFr [(17, 8), (17, 9), (17, 10)] [19] S0 S) (hR : yRm [] S0 S) (e_FA : FA S) (mt j : Int) (h_mt : -2147483648 ≤ mt ∧ mt ≤ 2147483647) (h_j : 0 ≤ j ∧ j ≤ 3) (q_0 : mC3 S0 S j) (q_1 : j ≤ S.f 17 7) (q_2 : mC4 S0 S mt j) (hn : 3 - j < (n : Nat)), yT xPr G LY xC61 75 [some ((2, 17)), none, some (vi mt), some (vi j)] [] S (d + 1) (fun r S' => r = (0, (0, 0)) ∧ maQ S0 S' ∧ mbQ S0 S' ∧ FA S' ∧ yI S' ∧ yFr [(17, 8), (17, 9), (17, 10)] [19] S0 S' ∧ yRm [] S0 S') := by
  intro n
  induction n with
  | zero => intro S hI hF hR e_FA mt j h_mt h_j q_0 q_1 q_2 hn; exact absurd hn (by omega)
  | succ n ih =>
    intro S hI hF hR e_FA mt j h_mt h_j q_0 q_1 q_2 hn
    have h1 := hI.f tf17_7
    have h2 : S.f 17 7 = S0.f 17 7 := hF.f rfl
    refine r_load (i := 75) (u := 3) (w := 0) rfl rfl rfl ?_
    refine r_load (i := 76) (u := 0) (w := 2) rfl rfl rfl ?_
    refine r_getf (i := 77) (v := 7) (w := 3) (x := vi (S.f 17 7)) rfl ly17 rfl rfl fun h3 => ?_
    have h3 : Rg (S.f 17 7) := h3
    refine c_ge (i := 78) (v := 88) rfl ⟨by omega, by omega⟩ ⟨by omega, by omega⟩ (fun h4 => ?_) (fun h5 => ?_)
    · refine r_load (i := 88) (u := 0) (w := 2) rfl rfl rfl ?_
      refine r_load (i := 89) (u := 0) (w := 2) rfl rfl rfl ?_
      refine r_getf (i := 90) (v := 8) (w := 3) (x := vi (S.f 17 8)) rfl ly17 rfl rfl fun h6 => ?_
      have h6 : Rg (S.f 17 8) := h6
      refine r_load (i := 91) (u := 2) (w := 0) rfl rfl rfl ?_
      refine r_const (i := 92) (u := 4294967295) (z := -1) rfl rfl ?_
      refine r_ixor (i := 93) rfl ?_
      have h7 := yxor_rg mt (-1)
      refine r_iand (i := 94) rfl ?_
      have h8 := yand_rg (S.f 17 8) (yxor mt (-1))
      refine r_putI (i := 95) (v := 9) (w := 3) rfl ly17 rfl ⟨by omega, by omega⟩ ?_
      have hI10 := hI.setf0 (b := 17) (w := 9) (z := yand (S.f 17 8) (yxor mt (-1))) rfl rfl
      have hF12 := hF.setf (b := 17) (w := 9) (z := yand (S.f 17 8) (yxor mt (-1))) rfl
      have hR13 := hR.setf (b := 17) (w := 9) (z := yand (S.f 17 8) (yxor mt (-1)))
      have e14 := FAx.setf e_FA (b := 17) (w := 9) (z := yand (S.f 17 8) (yxor mt (-1))) rfl
      refine yT_gen (fun S9 hS11 => ?_)
      rw [hS11] at hI10 hF12 hR13 e14
      exact r_ret0 (i := 96) rfl ⟨rfl, (by exact ma_end q_0 (by omega) (by subst hS11; rfl) (fun j => by subst hS11; rfl)), (by exact mb_end q_2 (sT_fr hF rfl rfl) (by omega) (by subst hS11; exact ysf_eq)), e14, hI10, hF12, hR13⟩
    · refine r_load (i := 79) (u := 0) (w := 2) rfl rfl rfl ?_
      refine r_load (i := 80) (u := 0) (w := 2) rfl rfl rfl ?_
      refine r_getf (i := 81) (v := 2) (w := 3) (x := (2, 18)) rfl ly17 rfl rfl fun _ => ?_
      refine r_load (i := 82) (u := 3) (w := 0) rfl rfl rfl ?_
      refine a_int (i := 83) rfl ly18 rfl (by omega) (by omega) fun h16 => ?_
      have h17 := hI.a ta18 j.toNat
      have h18 : S.a 18 j.toNat = S0.a 18 j.toNat := hF.a rfl _
      refine r_const (i := 84) (u := 0) (z := 0) rfl rfl ?_
      have fa9 := e_FA j.toNat (by omega)
      have h19 := hI.f tf17_10
      refine r_call (i := 85) (u := 3) (v := 60) (w := 0) (b := 0) (na := 1027) (C2 := xC60) (as := [(2, 17), vi (S.a 18 j.toNat), vi 0]) (s := []) rfl rfl rfl rfl rfl rfl rfl (sp60 (f := S.a 18 j.toNat) (dp := 0) hI ⟨by omega, by omega⟩ ⟨by omega, by omega⟩   (by omega)) (fun r20 S21 hq22 => ?_)
      obtain ⟨rfl, h23, mkp24, mt25, hI26, hF27, hR28⟩ := hq22
      have hF29 := hF.trans hF27 rfl rfl
      have hR30 := hR.trans hR28 rfl
      have e31 := FAx.fr e_FA hF27 rfl rfl
      refine Or.inl ⟨rfl, ?_⟩
      refine r_iinc (i := 86) (u := 1) (v := 3) (s := 1) (L1 := [some ((2, 17)), none, some (vi mt), some (vi (j + 1))]) rfl rfl rfl rfl rfl ?_
      refine r_goto (i := 87) (v := 75) rfl ?_
      have h32 := hI26.f tf17_7
      have h33 : S21.f 17 7 = S.f 17 7 := hF27.f rfl
      have h34 : S.f 17 7 = S0.f 17 7 := hF.f rfl
      exact ih S21 hI26 hF29 hR30 e31 mt (j + 1) ⟨by omega, by omega⟩ ⟨by omega, by omega⟩ (by exact mC3_s q_0 (sT_fr hF rfl rfl) (hF.a rfl) (hF.f rfl) (by omega) (by omega) (by omega) rfl mt25) (by omega) (by exact mC4_s q_2 (sT_fr hF rfl rfl) (hF.a rfl) (hF.f rfl) (by omega) (by omega) (by omega) rfl mt25) (by omega)
theorem lp61_40 {G : xk} {d : Nat} {S0 : yS}  (hd : 23 ≤ d + 1) : ∀ (n : Nat), ∀ (S : yS) (hI : yI S) (hF : yFr [(17, 8), (17, 9), (17, 10)] [19] S0 S) (hR : yRm [] S0 S) (e_FA : FA S) (cl k : Int) (h_cl : 0 ≤ cl ∧ cl ≤ 20) (h_k : 0 ≤ k ∧ k ≤ 20) (q_0 : mC1 S0 S cl k) (q_1 : k ≤ cl) (q_2 : cl ≤ S.f 17 10) (hn : 20 - k < (n : Nat)), yT xPr G LY xC61 40 [some ((2, 17)), some (vi cl), some (vi k), none] [] S (d + 1) (fun r S' => r = (0, (0, 0)) ∧ maQ S0 S' ∧ mbQ S0 S' ∧ FA S' ∧ yI S' ∧ yFr [(17, 8), (17, 9), (17, 10)] [19] S0 S' ∧ yRm [] S0 S') := by
  intro n
  induction n with
  | zero => intro S hI hF hR e_FA cl k h_cl h_k q_0 q_1 q_2 hn; exact absurd hn (by omega)
  | succ n ih =>
    intro S hI hF hR e_FA cl k h_cl h_k q_0 q_1 q_2 hn
    have h1 := hI.f tf17_10
    refine r_load (i := 40) (u := 2) (w := 0) rfl rfl rfl ?_
    refine r_load (i := 41) (u := 1) (w := 0) rfl rfl rfl ?_
    refine c_ge (i := 42) (v := 70) rfl ⟨by omega, by omega⟩ ⟨by omega, by omega⟩ (fun h2 => ?_) (fun h3 => ?_)
    · refine r_load (i := 70) (u := 0) (w := 2) rfl rfl rfl ?_
      refine r_getf (i := 71) (v := 8) (w := 3) (x := vi (S.f 17 8)) rfl ly17 rfl rfl fun h4 => ?_
      have h4 : Rg (S.f 17 8) := h4
      refine r_store (i := 72) (u := 2) (w := 0) (L1 := [some ((2, 17)), some (vi cl), some (vi (S.f 17 8)), none]) rfl rfl rfl rfl ?_
      refine r_const (i := 73) (u := 0) (z := 0) rfl rfl ?_
      refine r_store (i := 74) (u := 3) (w := 0) (L1 := [some ((2, 17)), some (vi cl), some (vi (S.f 17 8)), some (vi 0)]) rfl rfl rfl rfl ?_
      refine yT_drop (L1 := [some ((2, 17)), none, some (vi (S.f 17 8)), some (vi 0)]) rfl ?_
      have h5 := hI.f tf17_7
      have h6 : S.f 17 7 = S0.f 17 7 := hF.f rfl
      exact lp61_75   hd _ S hI hF hR e_FA (S.f 17 8) 0 ⟨by omega, by omega⟩ ⟨by omega, by omega⟩ (by exact mC3_0 q_0 (by omega) (by omega)) (by omega) (by exact mC4_0 q_0 (by omega) (by omega) rfl) (Int.lt_succ_toNat _)
    · refine r_const (i := 43) (u := 0) (z := 0) rfl rfl ?_
      refine r_store (i := 44) (u := 3) (w := 0) (L1 := [some ((2, 17)), some (vi cl), some (vi k), some (vi 0)]) rfl rfl rfl rfl ?_
      have h7 := hI.a ta19 k.toNat
      exact lp61_45   hd (cl := cl) (k := k) ⟨by omega, by omega⟩ ⟨by omega, by omega⟩ n ih (by omega) _ S hI hF hR e_FA 0 ⟨by omega, by omega⟩ (by exact mC2_0 q_0) (by omega) (by omega) (by exact (hI.a ta7 _).1) (Int.lt_succ_toNat _)
theorem lp61_9 {G : xk} {d : Nat} {S0 : yS}  (hd : 23 ≤ d + 1) : ∀ (n : Nat), ∀ (S : yS) (hI : yI S) (hF : yFr [(17, 8), (17, 9), (17, 10)] [19] S0 S) (hR : yRm [] S0 S) (e_FA : FA S) (t : Int) (h_t : -1 ≤ t ∧ t ≤ 19) (q_0 : mC0 S0 S t) (hn : 20 - S.f 17 10 < (n : Nat)), yT xPr G LY xC61 9 [some ((2, 17)), some (vi t), none, none] [] S (d + 1) (fun r S' => r = (0, (0, 0)) ∧ maQ S0 S' ∧ mbQ S0 S' ∧ FA S' ∧ yI S' ∧ yFr [(17, 8), (17, 9), (17, 10)] [19] S0 S' ∧ yRm [] S0 S') := by
  intro n
  induction n with
  | zero => intro S hI hF hR e_FA t h_t q_0 hn; have hz0 := hI.f tf17_10; exact absurd hn (by omega)
  | succ n ih =>
    intro S hI hF hR e_FA t h_t q_0 hn
    have h1 := hI.f tf17_10
    refine r_load (i := 9) (u := 1) (w := 0) rfl rfl rfl ?_
    refine r_const (i := 10) (u := 4294967295) (z := -1) rfl rfl ?_
    refine c_eq (i := 11) (v := 35) rfl ⟨by omega, by omega⟩ ⟨by omega, by omega⟩ (fun h2 => ?_) (fun h3 => ?_)
    · refine r_load (i := 35) (u := 0) (w := 2) rfl rfl rfl ?_
      refine r_getf (i := 36) (v := 10) (w := 3) (x := vi (S.f 17 10)) rfl ly17 rfl rfl fun h4 => ?_
      have h4 : Rg (S.f 17 10) := h4
      refine r_store (i := 37) (u := 1) (w := 0) (L1 := [some ((2, 17)), some (vi (S.f 17 10)), none, none]) rfl rfl rfl rfl ?_
      refine r_const (i := 38) (u := 0) (z := 0) rfl rfl ?_
      refine r_store (i := 39) (u := 2) (w := 0) (L1 := [some ((2, 17)), some (vi (S.f 17 10)), some (vi 0), none]) rfl rfl rfl rfl ?_
      exact lp61_40   hd _ S hI hF hR e_FA (S.f 17 10) 0 ⟨by omega, by omega⟩ ⟨by omega, by omega⟩ (by exact mC1_0 q_0 (by omega) (by omega)) (by omega) (by omega) (Int.lt_succ_toNat _)
    · refine r_load (i := 12) (u := 0) (w := 2) rfl rfl rfl ?_
      refine r_getf (i := 13) (v := 10) (w := 3) (x := vi (S.f 17 10)) rfl ly17 rfl rfl fun h5 => ?_
      have h5 : Rg (S.f 17 10) := h5
      refine r_const (i := 14) (u := 20) (z := 20) rfl rfl ?_
      refine c_ge (i := 15) (v := 35) rfl ⟨by omega, by omega⟩ ⟨by omega, by omega⟩ (fun h6 => ?_) (fun h7 => ?_)
      · refine r_load (i := 35) (u := 0) (w := 2) rfl rfl rfl ?_
        refine r_getf (i := 36) (v := 10) (w := 3) (x := vi (S.f 17 10)) rfl ly17 rfl rfl fun h8 => ?_
        have h8 : Rg (S.f 17 10) := h8
        refine r_store (i := 37) (u := 1) (w := 0) (L1 := [some ((2, 17)), some (vi (S.f 17 10)), none, none]) rfl rfl rfl rfl ?_
        refine r_const (i := 38) (u := 0) (z := 0) rfl rfl ?_
        refine r_store (i := 39) (u := 2) (w := 0) (L1 := [some ((2, 17)), some (vi (S.f 17 10)), some (vi 0), none]) rfl rfl rfl rfl ?_
        exact lp61_40   hd _ S hI hF hR e_FA (S.f 17 10) 0 ⟨by omega, by omega⟩ ⟨by omega, by omega⟩ (by exact mC1_0 q_0 (by omega) (by omega)) (by omega) (by omega) (Int.lt_succ_toNat _)
      · refine r_load (i := 16) (u := 0) (w := 2) rfl rfl rfl ?_
        refine r_getf (i := 17) (v := 3) (w := 3) (x := (2, 19)) rfl ly17 rfl rfl fun _ => ?_
        refine r_load (i := 18) (u := 0) (w := 2) rfl rfl rfl ?_
        refine r_getf (i := 19) (v := 10) (w := 3) (x := vi (S.f 17 10)) rfl ly17 rfl rfl fun h10 => ?_
        have h10 : Rg (S.f 17 10) := h10
        refine r_load (i := 20) (u := 1) (w := 0) rfl rfl rfl ?_
        refine s_int (i := 21) rfl ly19 rfl (by omega) (by omega) ⟨by omega, by omega⟩ ?_
        have hI12 := hI.seta (b := 19) (j := (S.f 17 10).toNat) (z := t) ta19 rfl (by omega) (by omega)
        have hF14 := hF.seta (b := 19) (j := (S.f 17 10).toNat) (z := t) rfl
        have hR15 := hR.seta (b := 19) (j := (S.f 17 10).toNat) (z := t)
        have e16 := FAx.seta e_FA (b := 19) (j := (S.f 17 10).toNat) (z := t) rfl
        refine yT_gen (fun S11 hS13 => ?_)
        rw [hS13] at hI12 hF14 hR15 e16
        refine r_load (i := 22) (u := 0) (w := 2) rfl rfl rfl ?_
        refine r_dup (i := 23) rfl rfl ?_
        have h17 := hI12.f tf17_10
        have h18 : S11.f 17 10 = S.f 17 10 := by rw [← hS13]; rfl
        refine r_getf (i := 24) (v := 10) (w := 3) (x := vi (S11.f 17 10)) rfl ly17 rfl rfl fun h19 => ?_
        have h19 : Rg (S11.f 17 10) := h19
        refine r_const (i := 25) (u := 1) (z := 1) rfl rfl ?_
        refine r_iadd (i := 26) rfl ?_
        refine r_putI (i := 27) (v := 10) (w := 3) rfl ly17 rfl ⟨by omega, by omega⟩ ?_
        have hI21 := hI12.setf (b := 17) (w := 10) (z := (S11.f 17 10) + 1) tf17_10 rfl (by omega) (by omega)
        have hF23 := hF14.setf (b := 17) (w := 10) (z := (S11.f 17 10) + 1) rfl
        have hR24 := hR15.setf (b := 17) (w := 10) (z := (S11.f 17 10) + 1)
        have e25 := FAx.setf e16 (b := 17) (w := 10) (z := (S11.f 17 10) + 1) rfl
        refine yT_gen (fun S20 hS22 => ?_)
        rw [hS22] at hI21 hF23 hR24 e25
        refine r_load (i := 28) (u := 0) (w := 2) rfl rfl rfl ?_
        refine r_getf (i := 29) (v := 0) (w := 3) (x := (2, 1)) rfl ly17 rfl rfl fun _ => ?_
        refine r_getf (i := 30) (v := 3) (w := 1) (x := (2, 5)) rfl ly1 rfl rfl fun _ => ?_
        refine r_load (i := 31) (u := 1) (w := 0) rfl rfl rfl ?_
        refine a_int (i := 32) rfl ly5 rfl (by omega) (by omega) fun h28 => ?_
        have h29 := hI21.a ta5 t.toNat
        have h30 : S20.a 5 t.toNat = S11.a 5 t.toNat := by rw [← hS22]; rfl
        have h31 : S11.a 5 t.toNat = S.a 5 t.toNat := by rw [← hS13]; rfl
        have h32 : S.a 5 t.toNat = S0.a 5 t.toNat := hF.a rfl _
        refine r_store (i := 33) (u := 1) (w := 0) (L1 := [some ((2, 17)), some (vi (S20.a 5 t.toNat)), none, none]) rfl rfl rfl rfl ?_
        refine r_goto (i := 34) (v := 9) rfl ?_
        have h33 := hI21.f tf17_10
        have h34 : S20.f 17 10 = (S11.f 17 10) + 1 := by rw [← hS22]; exact ysf_eq
        exact ih S20 hI21 hF23 hR24 e25 (S20.a 5 t.toNat) ⟨by omega, by omega⟩ (by exact mC0_s q_0 (hF.a rfl) (hF.f rfl) (by omega) (by omega) (by omega) (by omega) (by subst hS13 hS22; rfl) (by subst hS13 hS22; rfl) (fun j => by subst hS13 hS22; rfl) (fun j => by subst hS13 hS22; rfl) (by subst hS13 hS22; rfl)) (by omega)
/-- ProxyForge$Collector.meetAll -/
theorem sp61 {G : xk} {S : yS} {d : Nat} (hI : yI S) (e_FA : FA S) (hd : 23 ≤ d) : yT xPr G LY xC61 0 [some ((2, 17))] [] S d (fun r S' => r = (0, (0, 0)) ∧ maQ S S' ∧ mbQ S S' ∧ FA S' ∧ yI S' ∧ yFr [(17, 8), (17, 9), (17, 10)] [19] S S' ∧ yRm [] S S') := by
  refine yT_pad 3 ?_
  show yT xPr G LY xC61 0 [some ((2, 17)), none, none, none] [] S d _
  obtain ⟨d, rfl⟩ : ∃ q, d = q + 1 := ⟨d - 1, by omega⟩
  have hF : yFr [(17, 8), (17, 9), (17, 10)] [19] S S := yFr.refl S
  have hR : yRm [] S S := yRm.refl S
  refine r_load (i := 0) (u := 0) (w := 2) rfl rfl rfl ?_
  refine r_const (i := 1) (u := 0) (z := 0) rfl rfl ?_
  refine r_putI (i := 2) (v := 8) (w := 3) rfl ly17 rfl ⟨by omega, by omega⟩ ?_
  have hI2 := hI.setf0 (b := 17) (w := 8) (z := 0) rfl rfl
  have hF4 := hF.setf (b := 17) (w := 8) (z := 0) rfl
  have hR5 := hR.setf (b := 17) (w := 8) (z := 0)
  have e6 := FAx.setf e_FA (b := 17) (w := 8) (z := 0) rfl
  refine yT_gen (fun S1 hS3 => ?_)
  rw [hS3] at hI2 hF4 hR5 e6
  refine r_load (i := 3) (u := 0) (w := 2) rfl rfl rfl ?_
  refine r_const (i := 4) (u := 0) (z := 0) rfl rfl ?_
  refine r_putI (i := 5) (v := 10) (w := 3) rfl ly17 rfl ⟨by omega, by omega⟩ ?_
  have hI8 := hI2.setf (b := 17) (w := 10) (z := 0) tf17_10 rfl (by omega) (by omega)
  have hF10 := hF4.setf (b := 17) (w := 10) (z := 0) rfl
  have hR11 := hR5.setf (b := 17) (w := 10) (z := 0)
  have e12 := FAx.setf e6 (b := 17) (w := 10) (z := 0) rfl
  refine yT_gen (fun S7 hS9 => ?_)
  rw [hS9] at hI8 hF10 hR11 e12
  refine r_load (i := 6) (u := 0) (w := 2) rfl rfl rfl ?_
  have h13 := hI8.f tf17_6
  have h14 : S7.f 17 6 = S1.f 17 6 := by rw [← hS9]; exact ysf_ne (by decide)
  have h15 : S1.f 17 6 = S.f 17 6 := by rw [← hS3]; exact ysf_ne (by decide)
  refine r_getf (i := 7) (v := 6) (w := 3) (x := vi (S7.f 17 6)) rfl ly17 rfl rfl fun h16 => ?_
  have h16 : Rg (S7.f 17 6) := h16
  refine r_store (i := 8) (u := 1) (w := 0) (L1 := [some ((2, 17)), some (vi (S7.f 17 6)), none, none]) rfl rfl rfl rfl ?_
  have h17 := hI8.f tf17_10
  have h18 : S7.f 17 10 = 0 := by rw [← hS9]; exact ysf_eq
  exact lp61_9   hd _ S7 hI8 hF10 hR11 e12 (S7.f 17 6) ⟨by omega, by omega⟩ (by exact mC0_0 (by omega) (by subst hS3 hS9; rfl) (by subst hS3 hS9; rfl)) (Int.lt_succ_toNat _)
/-- ProxyForge$Collector.refusal -/
theorem sp62 {G : xk} {S : yS} {d : Nat} (hI : yI S) (e_FA : FA S) (hd : 24 ≤ d) : yT xPr G LY xC62 0 [some ((2, 17))] [] S d (fun r S' => ∃ z : Int, r = (1, vi z) ∧ 0 ≤ z ∧ z ≤ 6 ∧ (z = 0 → S'.f 17 12 ≤ 24) ∧ (z = 0 → FN S') ∧ rfQ S S' z ∧ 0 ≤ S'.f 17 12 ∧ (z = 0 → mbQ S S') ∧ FA S' ∧ yI S' ∧ yFr [(17, 8), (17, 9), (17, 10), (17, 11), (17, 12)] [19, 20, 21] S S' ∧ yRm [] S S') := by
  refine yT_pad 0 ?_
  show yT xPr G LY xC62 0 [some ((2, 17))] [] S d _
  obtain ⟨d, rfl⟩ : ∃ q, d = q + 1 := ⟨d - 1, by omega⟩
  have hF : yFr [(17, 8), (17, 9), (17, 10), (17, 11), (17, 12)] [19, 20, 21] S S := yFr.refl S
  have hR : yRm [] S S := yRm.refl S
  refine r_load (i := 0) (u := 0) (w := 2) rfl rfl rfl ?_
  refine r_getf (i := 1) (v := 0) (w := 3) (x := (2, 1)) rfl ly17 rfl rfl fun _ => ?_
  refine r_getf (i := 2) (v := 0) (w := 1) (x := (2, 2)) rfl ly1 rfl rfl fun _ => ?_
  refine r_load (i := 3) (u := 0) (w := 2) rfl rfl rfl ?_
  have h3 := hI.f tf17_6
  refine r_getf (i := 4) (v := 6) (w := 3) (x := vi (S.f 17 6)) rfl ly17 rfl rfl fun h4 => ?_
  have h4 : Rg (S.f 17 6) := h4
  refine a_bool (i := 5) rfl ly2 rfl (by omega) (by omega) fun h5 => ?_
  refine z_ne (i := 6) (v := 13) rfl ⟨by omega, by omega⟩ (fun h6 => ?_) (fun h7 => ?_)
  · refine r_const (i := 13) (u := 1) (z := 1) rfl rfl ?_
    have h8 := hI.f tf17_12
    exact r_retI (i := 14) rfl ⟨1, rfl, by omega, by omega, (by omega), (by intro hz; first | exact absurd hz (by omega) | assumption), (by exact Or.inl ⟨rfl, by unfold r1C; omega⟩), (by omega), (by intro hz; exact absurd hz (by omega)), e_FA, hI, hF, hR⟩
  · refine r_load (i := 7) (u := 0) (w := 2) rfl rfl rfl ?_
    refine r_getf (i := 8) (v := 0) (w := 3) (x := (2, 1)) rfl ly17 rfl rfl fun _ => ?_
    refine r_load (i := 9) (u := 0) (w := 2) rfl rfl rfl ?_
    refine r_getf (i := 10) (v := 6) (w := 3) (x := vi (S.f 17 6)) rfl ly17 rfl rfl fun h10 => ?_
    have h10 : Rg (S.f 17 6) := h10
    refine r_call (i := 11) (u := 1) (v := 134) (w := 0) (b := 0) (na := 514) (C2 := xC134) (as := [(2, 1), vi (S.f 17 6)]) (s := []) rfl rfl rfl rfl rfl rfl rfl (sp134 (t := S.f 17 6) hI ⟨by omega, by omega⟩   (by omega)) (fun r11 S12 hq13 => ?_)
    obtain ⟨z14, rfl, h15, h16, h17, h18, rfl⟩ := hq13
    refine Or.inr (Or.inl ⟨rfl, ?_⟩)
    refine z_eq (i := 12) (v := 15) rfl ⟨by omega, by omega⟩ (fun h19 => ?_) (fun h20 => ?_)
    · refine r_load (i := 15) (u := 0) (w := 2) rfl rfl rfl ?_
      refine r_getf (i := 16) (v := 1) (w := 3) (x := (2, 9)) rfl ly17 rfl rfl fun _ => ?_
      refine r_load (i := 17) (u := 0) (w := 2) rfl rfl rfl ?_
      refine r_getf (i := 18) (v := 6) (w := 3) (x := vi (S.f 17 6)) rfl ly17 rfl rfl fun h22 => ?_
      have h22 : Rg (S.f 17 6) := h22
      have h23 := hI.f tf9_8
      refine r_call (i := 19) (u := 2) (v := 77) (w := 0) (b := 0) (na := 770) (C2 := xC77) (as := [(2, 9), vi (S.f 17 6)]) (s := []) rfl rfl rfl rfl rfl rfl rfl (sp77 (t := S.f 17 6) hI ⟨by omega, by omega⟩   (by omega)) (fun r24 S25 hq26 => ?_)
      obtain ⟨z27, rfl, h28, h29, yoc30, noc31, rfl⟩ := hq26
      refine Or.inr (Or.inl ⟨rfl, ?_⟩)
      refine z_ne (i := 20) (v := 23) rfl ⟨by omega, by omega⟩ (fun h32 => ?_) (fun h33 => ?_)
      · refine r_load (i := 23) (u := 0) (w := 2) rfl rfl rfl ?_
        have h34 := hI.f tf17_7
        refine r_call (i := 24) (u := 3) (v := 50) (w := 0) (b := 0) (na := 769) (C2 := xC50) (as := [(2, 17)]) (s := []) rfl rfl rfl rfl rfl rfl rfl (sp50  hI   e_FA (by omega)) (fun r35 S36 hq37 => ?_)
        obtain ⟨z38, rfl, h39, h40, yd41, nd42, rfl⟩ := hq37
        refine Or.inr (Or.inl ⟨rfl, ?_⟩)
        refine z_ne (i := 25) (v := 28) rfl ⟨by omega, by omega⟩ (fun h43 => ?_) (fun h44 => ?_)
        · refine r_load (i := 28) (u := 0) (w := 2) rfl rfl rfl ?_
          refine r_call (i := 29) (u := 3) (v := 51) (w := 0) (b := 0) (na := 513) (C2 := xC51) (as := [(2, 17)]) (s := []) rfl rfl rfl rfl rfl rfl rfl (sp51  hI   e_FA (by omega)) (fun r45 S46 hq47 => ?_)
          obtain ⟨z48, rfl, h49, h50, yv51, nv52, rfl⟩ := hq47
          refine Or.inr (Or.inl ⟨rfl, ?_⟩)
          refine z_ne (i := 30) (v := 33) rfl ⟨by omega, by omega⟩ (fun h53 => ?_) (fun h54 => ?_)
          · refine r_load (i := 33) (u := 0) (w := 2) rfl rfl rfl ?_
            refine r_call (i := 34) (u := 3) (v := 61) (w := 0) (b := 0) (na := 1025) (C2 := xC61) (as := [(2, 17)]) (s := []) rfl rfl rfl rfl rfl rfl rfl (sp61  hI   e_FA (by omega)) (fun r55 S56 hq57 => ?_)
            obtain ⟨rfl, ma58, mb59, e60, hI61, hF62, hR63⟩ := hq57
            have hF64 := hF.trans hF62 rfl rfl
            have hR65 := hR.trans hR63 rfl
            refine Or.inl ⟨rfl, ?_⟩
            refine r_load (i := 35) (u := 0) (w := 2) rfl rfl rfl ?_
            refine r_call (i := 36) (u := 3) (v := 54) (w := 0) (b := 0) (na := 769) (C2 := xC54) (as := [(2, 17)]) (s := []) rfl rfl rfl rfl rfl rfl rfl (sp54  hI61    (by omega)) (fun r66 S67 hq68 => ?_)
            obtain ⟨rfl, h69, ca70, e71, e72, hI73, hF74, hR75⟩ := hq68
            have hF76 := hF64.trans hF74 rfl rfl
            have hR77 := hR65.trans hR75 rfl
            have e78 := FAx.fr e60 hF74 rfl rfl
            refine Or.inl ⟨rfl, ?_⟩
            refine r_load (i := 37) (u := 0) (w := 2) rfl rfl rfl ?_
            have h79 := hI73.f tf17_12
            refine r_call (i := 38) (u := 3) (v := 57) (w := 0) (b := 0) (na := 769) (C2 := xC57) (as := [(2, 17)]) (s := []) rfl rfl rfl rfl rfl rfl rfl (sp57  hI73    (by omega)) (fun r80 S81 hq82 => ?_)
            obtain ⟨z83, rfl, h84, h85, yhc86, nhc87, rfl⟩ := hq82
            refine Or.inr (Or.inl ⟨rfl, ?_⟩)
            refine z_eq (i := 39) (v := 42) rfl ⟨by omega, by omega⟩ (fun h88 => ?_) (fun h89 => ?_)
            · refine r_load (i := 42) (u := 0) (w := 2) rfl rfl rfl ?_
              refine r_getf (i := 43) (v := 12) (w := 3) (x := vi (S67.f 17 12)) rfl ly17 rfl rfl fun h90 => ?_
              have h90 : Rg (S67.f 17 12) := h90
              refine r_const (i := 44) (u := 24) (z := 24) rfl rfl ?_
              refine c_le (i := 45) (v := 48) rfl ⟨by omega, by omega⟩ ⟨by omega, by omega⟩ (fun h91 => ?_) (fun h92 => ?_)
              · refine r_const (i := 48) (u := 0) (z := 0) rfl rfl ?_
                exact r_retI (i := 49) rfl ⟨0, rfl, by omega, by omega, (by omega), (by intro hz; first | exact absurd hz (by omega) | assumption), (by first | exact Or.inr (Or.inr (Or.inr (Or.inr ⟨⟨(by unfold r1C; omega), (yoc30 (by omega)), (yd41 (by omega)), (yv51 (by omega))⟩, S56, ma58, sMn_fr hF62 rfl rfl, ca70, sMn_fr hF76 rfl rfl, Or.inl ⟨rfl, (yhc86 (by omega))⟩⟩))) | exact Or.inr (Or.inr (Or.inr (Or.inr ⟨⟨(by unfold r1C; omega), (yoc30 (by omega)), (yd41 (by omega)), (yv51 (by omega))⟩, S56, ma58, sMn_fr hF62 rfl rfl, ca70, sMn_fr hF76 rfl rfl, Or.inr (Or.inl ⟨rfl, (nhc87 (by omega)), by omega⟩)⟩))) | exact Or.inr (Or.inr (Or.inr (Or.inr ⟨⟨(by unfold r1C; omega), (yoc30 (by omega)), (yd41 (by omega)), (yv51 (by omega))⟩, S56, ma58, sMn_fr hF62 rfl rfl, ca70, sMn_fr hF76 rfl rfl, Or.inr (Or.inr ⟨rfl, (nhc87 (by omega)), by omega⟩)⟩)))), (by omega), (by intro hz; exact mbQ_f mb59 (hF74.f rfl)), e78, hI73, hF76, hR77⟩
              · refine r_const (i := 46) (u := 6) (z := 6) rfl rfl ?_
                refine r_goto (i := 47) (v := 49) rfl ?_
                exact r_retI (i := 49) rfl ⟨6, rfl, by omega, by omega, (by omega), (by intro hz; first | exact absurd hz (by omega) | assumption), (by first | exact Or.inr (Or.inr (Or.inr (Or.inr ⟨⟨(by unfold r1C; omega), (yoc30 (by omega)), (yd41 (by omega)), (yv51 (by omega))⟩, S56, ma58, sMn_fr hF62 rfl rfl, ca70, sMn_fr hF76 rfl rfl, Or.inl ⟨rfl, (yhc86 (by omega))⟩⟩))) | exact Or.inr (Or.inr (Or.inr (Or.inr ⟨⟨(by unfold r1C; omega), (yoc30 (by omega)), (yd41 (by omega)), (yv51 (by omega))⟩, S56, ma58, sMn_fr hF62 rfl rfl, ca70, sMn_fr hF76 rfl rfl, Or.inr (Or.inl ⟨rfl, (nhc87 (by omega)), by omega⟩)⟩))) | exact Or.inr (Or.inr (Or.inr (Or.inr ⟨⟨(by unfold r1C; omega), (yoc30 (by omega)), (yd41 (by omega)), (yv51 (by omega))⟩, S56, ma58, sMn_fr hF62 rfl rfl, ca70, sMn_fr hF76 rfl rfl, Or.inr (Or.inr ⟨rfl, (nhc87 (by omega)), by omega⟩)⟩)))), (by omega), (by intro hz; exact mbQ_f mb59 (hF74.f rfl)), e78, hI73, hF76, hR77⟩
            · refine r_const (i := 40) (u := 5) (z := 5) rfl rfl ?_
              exact r_retI (i := 41) rfl ⟨5, rfl, by omega, by omega, (by omega), (by intro hz; first | exact absurd hz (by omega) | assumption), (by first | exact Or.inr (Or.inr (Or.inr (Or.inr ⟨⟨(by unfold r1C; omega), (yoc30 (by omega)), (yd41 (by omega)), (yv51 (by omega))⟩, S56, ma58, sMn_fr hF62 rfl rfl, ca70, sMn_fr hF76 rfl rfl, Or.inl ⟨rfl, (yhc86 (by omega))⟩⟩))) | exact Or.inr (Or.inr (Or.inr (Or.inr ⟨⟨(by unfold r1C; omega), (yoc30 (by omega)), (yd41 (by omega)), (yv51 (by omega))⟩, S56, ma58, sMn_fr hF62 rfl rfl, ca70, sMn_fr hF76 rfl rfl, Or.inr (Or.inl ⟨rfl, (nhc87 (by omega)), by omega⟩)⟩))) | exact Or.inr (Or.inr (Or.inr (Or.inr ⟨⟨(by unfold r1C; omega), (yoc30 (by omega)), (yd41 (by omega)), (yv51 (by omega))⟩, S56, ma58, sMn_fr hF62 rfl rfl, ca70, sMn_fr hF76 rfl rfl, Or.inr (Or.inr ⟨rfl, (nhc87 (by omega)), by omega⟩)⟩)))), (by omega), (by intro hz; exact mbQ_f mb59 (hF74.f rfl)), e78, hI73, hF76, hR77⟩
          · refine r_const (i := 31) (u := 4) (z := 4) rfl rfl ?_
            have h93 := hI.f tf17_12
            exact r_retI (i := 32) rfl ⟨4, rfl, by omega, by omega, (by omega), (by intro hz; first | exact absurd hz (by omega) | assumption), (by exact Or.inr (Or.inr (Or.inr (Or.inl ⟨rfl, (by unfold r1C; omega), (yoc30 (by omega)), (yd41 (by omega)), (nv52 (by omega))⟩)))), (by omega), (by intro hz; exact absurd hz (by omega)), e_FA, hI, hF, hR⟩
        · refine r_const (i := 26) (u := 3) (z := 3) rfl rfl ?_
          have h94 := hI.f tf17_12
          exact r_retI (i := 27) rfl ⟨3, rfl, by omega, by omega, (by omega), (by intro hz; first | exact absurd hz (by omega) | assumption), (by exact Or.inr (Or.inr (Or.inl ⟨rfl, (by unfold r1C; omega), (yoc30 (by omega)), (nd42 (by omega))⟩))), (by omega), (by intro hz; exact absurd hz (by omega)), e_FA, hI, hF, hR⟩
      · refine r_const (i := 21) (u := 2) (z := 2) rfl rfl ?_
        have h95 := hI.f tf17_12
        exact r_retI (i := 22) rfl ⟨2, rfl, by omega, by omega, (by omega), (by intro hz; first | exact absurd hz (by omega) | assumption), (by exact Or.inr (Or.inl ⟨rfl, (by unfold r1C; omega), (noc31 (by omega))⟩)), (by omega), (by intro hz; exact absurd hz (by omega)), e_FA, hI, hF, hR⟩
    · refine r_const (i := 13) (u := 1) (z := 1) rfl rfl ?_
      have h96 := hI.f tf17_12
      exact r_retI (i := 14) rfl ⟨1, rfl, by omega, by omega, (by omega), (by intro hz; first | exact absurd hz (by omega) | assumption), (by exact Or.inl ⟨rfl, by unfold r1C; omega⟩), (by omega), (by intro hz; exact absurd hz (by omega)), e_FA, hI, hF, hR⟩
end XNC
