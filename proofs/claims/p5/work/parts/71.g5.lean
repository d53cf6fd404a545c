set_option linter.unusedVariables false
set_option maxRecDepth 4000
noncomputable section XNC
theorem lp52_21 {G : xk} {d : Nat} {S0 : yS} {t : Int} (h_t : 0 ≤ t ∧ t ≤ 19) {a : Int} (h_a : -1 ≤ a ∧ a ≤ 19) {b : Int} (h_b : -1 ≤ b ∧ b ≤ 19) {c : Int} (h_c : -1 ≤ c ∧ c ≤ 19) (hd : 0 ≤ d) : ∀ (n : Nat), ∀ (S : yS) (hI : yI S) (hF : yFr [(17, 6), (17, 7)] [18] S0 S) (hR : yRm [] S0 S) (e_FA : FA S)  (hn : 3 - S.f 17 7 < (n : Nat)), yT xPr G LY xC52 21 [some ((2, 17)), some (vi t), some (vi a), some (vi b), some (vi c)] [] S d (fun r S' => r = (0, (0, 0)) ∧ FA S' ∧ yI S' ∧ yFr [(17, 6), (17, 7)] [18] S0 S' ∧ yRm [] S0 S') := by
  intro n
  induction n with
  | zero => intro S hI hF hR e_FA   hn; have hz0 := hI.f tf17_7; exact absurd hn (by omega)
  | succ n ih =>
    intro S hI hF hR e_FA   hn
    have h1 := hI.f tf17_7
    refine r_load (i := 21) (u := 0) (w := 2) rfl rfl rfl ?_
    refine r_getf (i := 22) (v := 7) (w := 3) (x := vi (S.f 17 7)) rfl ly17 rfl rfl fun h2 => ?_
    have h2 : Rg (S.f 17 7) := h2
    refine r_const (i := 23) (u := 3) (z := 3) rfl rfl ?_
    refine c_ge (i := 24) (v := 39) rfl ⟨by omega, by omega⟩ ⟨by omega, by omega⟩ (fun h3 => ?_) (fun h4 => ?_)
    · exact r_ret0 (i := 39) rfl ⟨rfl,  e_FA, hI, hF, hR⟩
    · refine r_load (i := 25) (u := 0) (w := 2) rfl rfl rfl ?_
      refine r_getf (i := 26) (v := 2) (w := 3) (x := (2, 18)) rfl ly17 rfl rfl fun _ => ?_
      refine r_load (i := 27) (u := 0) (w := 2) rfl rfl rfl ?_
      refine r_getf (i := 28) (v := 7) (w := 3) (x := vi (S.f 17 7)) rfl ly17 rfl rfl fun h6 => ?_
      have h6 : Rg (S.f 17 7) := h6
      refine a_int (i := 29) rfl ly18 rfl (by omega) (by omega) fun h7 => ?_
      have h8 := hI.a ta18 (S.f 17 7).toNat
      refine r_const (i := 30) (u := 4294967295) (z := -1) rfl rfl ?_
      refine c_eq (i := 31) (v := 39) rfl ⟨by omega, by omega⟩ ⟨by omega, by omega⟩ (fun h9 => ?_) (fun h10 => ?_)
      · exact r_ret0 (i := 39) rfl ⟨rfl,  e_FA, hI, hF, hR⟩
      · refine r_load (i := 32) (u := 0) (w := 2) rfl rfl rfl ?_
        refine r_dup (i := 33) rfl rfl ?_
        refine r_getf (i := 34) (v := 7) (w := 3) (x := vi (S.f 17 7)) rfl ly17 rfl rfl fun h11 => ?_
        have h11 : Rg (S.f 17 7) := h11
        refine r_const (i := 35) (u := 1) (z := 1) rfl rfl ?_
        refine r_iadd (i := 36) rfl ?_
        refine r_putI (i := 37) (v := 7) (w := 3) rfl ly17 rfl ⟨by omega, by omega⟩ ?_
        have hI13 := hI.setf (b := 17) (w := 7) (z := (S.f 17 7) + 1) tf17_7 rfl (by omega) (by omega)
        have hF15 := hF.setf (b := 17) (w := 7) (z := (S.f 17 7) + 1) rfl
        have hR16 := hR.setf (b := 17) (w := 7) (z := (S.f 17 7) + 1)
        refine yT_gen (fun S12 hS14 => ?_)
        rw [hS14] at hI13 hF15 hR16 
        refine r_goto (i := 38) (v := 21) rfl ?_
        have h17 := hI13.f tf17_7
        have h18 : S12.f 17 7 = (S.f 17 7) + 1 := by rw [← hS14]; exact ysf_eq
        exact ih S12 hI13 hF15 hR16 (by first | exact FA_0 (by omega) | exact FA_push e_FA (by omega) (by omega) (fun j => by subst_vars; rfl) (by omega))    (by omega)
/-- ProxyForge$Collector.ask -/
theorem sp52 {G : xk} {S : yS} {d : Nat} (hI : yI S) {t : Int} (h_t : 0 ≤ t ∧ t ≤ 19) {a : Int} (h_a : -1 ≤ a ∧ a ≤ 19) {b : Int} (h_b : -1 ≤ b ∧ b ≤ 19) {c : Int} (h_c : -1 ≤ c ∧ c ≤ 19) (hd : 0 ≤ d) : yT xPr G LY xC52 0 [some ((2, 17)), some (vi t), some (vi a), some (vi b), some (vi c)] [] S d (fun r S' => r = (0, (0, 0)) ∧ FA S' ∧ yI S' ∧ yFr [(17, 6), (17, 7)] [18] S S' ∧ yRm [] S S') := by
  refine yT_pad 0 ?_
  show yT xPr G LY xC52 0 [some ((2, 17)), some (vi t), some (vi a), some (vi b), some (vi c)] [] S d _
  have hF : yFr [(17, 6), (17, 7)] [18] S S := yFr.refl S
  have hR : yRm [] S S := yRm.refl S
  refine r_load (i := 0) (u := 0) (w := 2) rfl rfl rfl ?_
  refine r_load (i := 1) (u := 1) (w := 0) rfl rfl rfl ?_
  refine r_putI (i := 2) (v := 6) (w := 3) rfl ly17 rfl ⟨by omega, by omega⟩ ?_
  have hI2 := hI.setf (b := 17) (w := 6) (z := t) tf17_6 rfl (by omega) (by omega)
  have hF4 := hF.setf (b := 17) (w := 6) (z := t) rfl
  have hR5 := hR.setf (b := 17) (w := 6) (z := t)
  refine yT_gen (fun S1 hS3 => ?_)
  rw [hS3] at hI2 hF4 hR5 
  refine r_load (i := 3) (u := 0) (w := 2) rfl rfl rfl ?_
  refine r_getf (i := 4) (v := 2) (w := 3) (x := (2, 18)) rfl ly17 rfl rfl fun _ => ?_
  refine r_const (i := 5) (u := 0) (z := 0) rfl rfl ?_
  refine r_load (i := 6) (u := 2) (w := 0) rfl rfl rfl ?_
  refine s_int (i := 7) rfl ly18 rfl (by omega) (by omega) ⟨by omega, by omega⟩ ?_
  have hI8 := hI2.seta (b := 18) (j := (0 : Int).toNat) (z := a) ta18 rfl (by omega) (by omega)
  have hF10 := hF4.seta (b := 18) (j := (0 : Int).toNat) (z := a) rfl
  have hR11 := hR5.seta (b := 18) (j := (0 : Int).toNat) (z := a)
  refine yT_gen (fun S7 hS9 => ?_)
  rw [hS9] at hI8 hF10 hR11 
  refine r_load (i := 8) (u := 0) (w := 2) rfl rfl rfl ?_
  refine r_getf (i := 9) (v := 2) (w := 3) (x := (2, 18)) rfl ly17 rfl rfl fun _ => ?_
  refine r_const (i := 10) (u := 1) (z := 1) rfl rfl ?_
  refine r_load (i := 11) (u := 3) (w := 0) rfl rfl rfl ?_
  refine s_int (i := 12) rfl ly18 rfl (by omega) (by omega) ⟨by omega, by omega⟩ ?_
  have hI14 := hI8.seta (b := 18) (j := (1 : Int).toNat) (z := b) ta18 rfl (by omega) (by omega)
  have hF16 := hF10.seta (b := 18) (j := (1 : Int).toNat) (z := b) rfl
  have hR17 := hR11.seta (b := 18) (j := (1 : Int).toNat) (z := b)
  refine yT_gen (fun S13 hS15 => ?_)
  rw [hS15] at hI14 hF16 hR17 
  refine r_load (i := 13) (u := 0) (w := 2) rfl rfl rfl ?_
  refine r_getf (i := 14) (v := 2) (w := 3) (x := (2, 18)) rfl ly17 rfl rfl fun _ => ?_
  refine r_const (i := 15) (u := 2) (z := 2) rfl rfl ?_
  refine r_load (i := 16) (u := 4) (w := 0) rfl rfl rfl ?_
  refine s_int (i := 17) rfl ly18 rfl (by omega) (by omega) ⟨by omega, by omega⟩ ?_
  have hI20 := hI14.seta (b := 18) (j := (2 : Int).toNat) (z := c) ta18 rfl (by omega) (by omega)
  have hF22 := hF16.seta (b := 18) (j := (2 : Int).toNat) (z := c) rfl
  have hR23 := hR17.seta (b := 18) (j := (2 : Int).toNat) (z := c)
  refine yT_gen (fun S19 hS21 => ?_)
  rw [hS21] at hI20 hF22 hR23 
  refine r_load (i := 18) (u := 0) (w := 2) rfl rfl rfl ?_
  refine r_const (i := 19) (u := 0) (z := 0) rfl rfl ?_
  refine r_putI (i := 20) (v := 7) (w := 3) rfl ly17 rfl ⟨by omega, by omega⟩ ?_
  have hI25 := hI20.setf (b := 17) (w := 7) (z := 0) tf17_7 rfl (by omega) (by omega)
  have hF27 := hF22.setf (b := 17) (w := 7) (z := 0) rfl
  have hR28 := hR23.setf (b := 17) (w := 7) (z := 0)
  refine yT_gen (fun S24 hS26 => ?_)
  rw [hS26] at hI25 hF27 hR28 
  have h29 := hI25.f tf17_7
  have h30 : S24.f 17 7 = 0 := by rw [← hS26]; exact ysf_eq
  exact lp52_21 h_t h_a h_b h_c  hd _ S24 hI25 hF27 hR28 (by first | exact FA_0 (by omega) | exact FA_push e_FA (by omega) (by omega) (fun j => by subst_vars; rfl) (by omega))    (Int.lt_succ_toNat _)
theorem lp50_19 {G : xk} {d : Nat} {S : yS} (hI : yI S) (e_FA : FA S) (hd : 0 ≤ d) {k : Int} (h_k : 0 ≤ k ∧ k ≤ 2) (no : Nat) (K : ∀ (k : Int) (h_k : 0 ≤ k ∧ k ≤ 3) (hn : 3 - k < (no : Nat)), yT xPr G LY xC50 2 [some ((2, 17)), some (vi k), none] [] S d (fun r S' => ∃ z : Int, r = (1, vi z) ∧ 0 ≤ z ∧ z ≤ 1 ∧ S = S')) (hm : 3 - k < ((no + 1 : Nat) : Int)) : ∀ (n : Nat), ∀ (j : Int) (h_j : 0 ≤ j ∧ j ≤ 3) (q_0 : k < S.f 17 7) (hn : 3 - j < (n : Nat)), yT xPr G LY xC50 19 [some ((2, 17)), some (vi k), some (vi j)] [] S d (fun r S' => ∃ z : Int, r = (1, vi z) ∧ 0 ≤ z ∧ z ≤ 1 ∧ S = S') := by
  intro n
  induction n with
  | zero => intro j h_j q_0 hn; exact absurd hn (by omega)
  | succ n ih =>
    intro j h_j q_0 hn
    have h1 := hI.f tf17_7
    refine r_load (i := 19) (u := 2) (w := 0) rfl rfl rfl ?_
    refine r_load (i := 20) (u := 1) (w := 0) rfl rfl rfl ?_
    refine c_ge (i := 21) (v := 35) rfl ⟨by omega, by omega⟩ ⟨by omega, by omega⟩ (fun h2 => ?_) (fun h3 => ?_)
    · refine r_iinc (i := 35) (u := 1) (v := 1) (s := 1) (L1 := [some ((2, 17)), some (vi (k + 1)), some (vi j)]) rfl rfl rfl rfl rfl ?_
      refine r_goto (i := 36) (v := 2) rfl ?_
      refine yT_drop (L1 := [some ((2, 17)), some (vi (k + 1)), none]) rfl ?_
      exact K (k + 1) ⟨by omega, by omega⟩  (by omega)
    · refine r_load (i := 22) (u := 0) (w := 2) rfl rfl rfl ?_
      refine r_getf (i := 23) (v := 2) (w := 3) (x := (2, 18)) rfl ly17 rfl rfl fun _ => ?_
      refine r_load (i := 24) (u := 1) (w := 0) rfl rfl rfl ?_
      refine a_int (i := 25) rfl ly18 rfl (by omega) (by omega) fun h5 => ?_
      have h6 := hI.a ta18 k.toNat
      refine r_load (i := 26) (u := 0) (w := 2) rfl rfl rfl ?_
      refine r_getf (i := 27) (v := 2) (w := 3) (x := (2, 18)) rfl ly17 rfl rfl fun _ => ?_
      refine r_load (i := 28) (u := 2) (w := 0) rfl rfl rfl ?_
      refine a_int (i := 29) rfl ly18 rfl (by omega) (by omega) fun h8 => ?_
      have h9 := hI.a ta18 j.toNat
      refine c_ne (i := 30) (v := 33) rfl ⟨by omega, by omega⟩ ⟨by omega, by omega⟩ (fun h10 => ?_) (fun h11 => ?_)
      · refine r_iinc (i := 33) (u := 1) (v := 2) (s := 1) (L1 := [some ((2, 17)), some (vi k), some (vi (j + 1))]) rfl rfl rfl rfl rfl ?_
        refine r_goto (i := 34) (v := 19) rfl ?_
        exact ih (j + 1) ⟨by omega, by omega⟩ (by omega) (by omega)
      · refine r_const (i := 31) (u := 0) (z := 0) rfl rfl ?_
        exact r_retZ (i := 32) rfl (by omega) (by omega) ⟨0, rfl, by omega, by omega, rfl⟩
theorem lp50_2 {G : xk} {d : Nat} {S : yS} (hI : yI S) (e_FA : FA S) (hd : 0 ≤ d) : ∀ (n : Nat), ∀ (k : Int) (h_k : 0 ≤ k ∧ k ≤ 3) (hn : 3 - k < (n : Nat)), yT xPr G LY xC50 2 [some ((2, 17)), some (vi k), none] [] S d (fun r S' => ∃ z : Int, r = (1, vi z) ∧ 0 ≤ z ∧ z ≤ 1 ∧ S = S') := by
  intro n
  induction n with
  | zero => intro k h_k hn; exact absurd hn (by omega)
  | succ n ih =>
    intro k h_k hn
    refine r_load (i := 2) (u := 1) (w := 0) rfl rfl rfl ?_
    refine r_load (i := 3) (u := 0) (w := 2) rfl rfl rfl ?_
    have h1 := hI.f tf17_7
    refine r_getf (i := 4) (v := 7) (w := 3) (x := vi (S.f 17 7)) rfl ly17 rfl rfl fun h2 => ?_
    have h2 : Rg (S.f 17 7) := h2
    refine c_ge (i := 5) (v := 37) rfl ⟨by omega, by omega⟩ ⟨by omega, by omega⟩ (fun h3 => ?_) (fun h4 => ?_)
    · refine r_const (i := 37) (u := 1) (z := 1) rfl rfl ?_
      exact r_retZ (i := 38) rfl (by omega) (by omega) ⟨1, rfl, by omega, by omega, rfl⟩
    · refine r_load (i := 6) (u := 0) (w := 2) rfl rfl rfl ?_
      refine r_getf (i := 7) (v := 0) (w := 3) (x := (2, 1)) rfl ly17 rfl rfl fun _ => ?_
      refine r_getf (i := 8) (v := 0) (w := 1) (x := (2, 2)) rfl ly1 rfl rfl fun _ => ?_
      refine r_load (i := 9) (u := 0) (w := 2) rfl rfl rfl ?_
      refine r_getf (i := 10) (v := 2) (w := 3) (x := (2, 18)) rfl ly17 rfl rfl fun _ => ?_
      refine r_load (i := 11) (u := 1) (w := 0) rfl rfl rfl ?_
      refine a_int (i := 12) rfl ly18 rfl (by omega) (by omega) fun h8 => ?_
      have h9 := hI.a ta18 k.toNat
      have fa9 := e_FA k.toNat (by omega)
      refine a_bool (i := 13) rfl ly2 rfl (by omega) (by omega) fun h10 => ?_
      refine z_ne (i := 14) (v := 17) rfl ⟨by omega, by omega⟩ (fun h11 => ?_) (fun h12 => ?_)
      · refine r_const (i := 17) (u := 0) (z := 0) rfl rfl ?_
        refine r_store (i := 18) (u := 2) (w := 0) (L1 := [some ((2, 17)), some (vi k), some (vi 0)]) rfl rfl rfl rfl ?_
        exact lp50_19 hI   e_FA hd (k := k) ⟨by omega, by omega⟩ n ih (by omega) _ 0 ⟨by omega, by omega⟩ (by omega) (Int.lt_succ_toNat _)
      · refine r_const (i := 15) (u := 0) (z := 0) rfl rfl ?_
        exact r_retZ (i := 16) rfl (by omega) (by omega) ⟨0, rfl, by omega, by omega, rfl⟩
/-- ProxyForge$Collector.areDifferentInterfaces -/
theorem sp50 {G : xk} {S : yS} {d : Nat} (hI : yI S) (e_FA : FA S) (hd : 0 ≤ d) : yT xPr G LY xC50 0 [some ((2, 17))] [] S d (fun r S' => ∃ z : Int, r = (1, vi z) ∧ 0 ≤ z ∧ z ≤ 1 ∧ S = S') := by
  refine yT_pad 2 ?_
  show yT xPr G LY xC50 0 [some ((2, 17)), none, none] [] S d _
  refine r_const (i := 0) (u := 0) (z := 0) rfl rfl ?_
  refine r_store (i := 1) (u := 1) (w := 0) (L1 := [some ((2, 17)), some (vi 0), none]) rfl rfl rfl rfl ?_
  exact lp50_2 hI   e_FA hd _ 0 ⟨by omega, by omega⟩  (Int.lt_succ_toNat _)
theorem lp51_2 {G : xk} {d : Nat} {S : yS} (hI : yI S) (e_FA : FA S) (hd : 1 ≤ d + 1) : ∀ (n : Nat), ∀ (k : Int) (h_k : 0 ≤ k ∧ k ≤ 3) (hn : 3 - k < (n : Nat)), yT xPr G LY xC51 2 [some ((2, 17)), some (vi k)] [] S (d + 1) (fun r S' => ∃ z : Int, r = (1, vi z) ∧ 0 ≤ z ∧ z ≤ 1 ∧ S = S') := by
  intro n
  induction n with
  | zero => intro k h_k hn; exact absurd hn (by omega)
  | succ n ih =>
    intro k h_k hn
    refine r_load (i := 2) (u := 1) (w := 0) rfl rfl rfl ?_
    refine r_load (i := 3) (u := 0) (w := 2) rfl rfl rfl ?_
    have h1 := hI.f tf17_7
    refine r_getf (i := 4) (v := 7) (w := 3) (x := vi (S.f 17 7)) rfl ly17 rfl rfl fun h2 => ?_
    have h2 : Rg (S.f 17 7) := h2
    refine c_ge (i := 5) (v := 33) rfl ⟨by omega, by omega⟩ ⟨by omega, by omega⟩ (fun h3 => ?_) (fun h4 => ?_)
    · refine r_const (i := 33) (u := 1) (z := 1) rfl rfl ?_
      exact r_retZ (i := 34) rfl (by omega) (by omega) ⟨1, rfl, by omega, by omega, rfl⟩
    · refine r_load (i := 6) (u := 0) (w := 2) rfl rfl rfl ?_
      refine r_getf (i := 7) (v := 0) (w := 3) (x := (2, 1)) rfl ly17 rfl rfl fun _ => ?_
      refine r_load (i := 8) (u := 0) (w := 2) rfl rfl rfl ?_
      refine r_getf (i := 9) (v := 2) (w := 3) (x := (2, 18)) rfl ly17 rfl rfl fun _ => ?_
      refine r_load (i := 10) (u := 1) (w := 0) rfl rfl rfl ?_
      refine a_int (i := 11) rfl ly18 rfl (by omega) (by omega) fun h7 => ?_
      have h8 := hI.a ta18 k.toNat
      have fa9 := e_FA k.toNat (by omega)
      refine r_call (i := 12) (u := 1) (v := 136) (w := 0) (b := 0) (na := 514) (C2 := xC136) (as := [(2, 1), vi (S.a 18 k.toNat)]) (s := []) rfl rfl rfl rfl rfl rfl rfl (sp136 (t := S.a 18 k.toNat) hI ⟨by omega, by omega⟩   (by omega)) (fun r9 S10 hq11 => ?_)
      obtain ⟨z12, rfl, h13, h14, h15, h16, rfl⟩ := hq11
      refine Or.inr (Or.inl ⟨rfl, ?_⟩)
      refine z_ne (i := 13) (v := 31) rfl ⟨by omega, by omega⟩ (fun h17 => ?_) (fun h18 => ?_)
      · refine r_iinc (i := 31) (u := 1) (v := 1) (s := 1) (L1 := [some ((2, 17)), some (vi (k + 1))]) rfl rfl rfl rfl rfl ?_
        refine r_goto (i := 32) (v := 2) rfl ?_
        exact ih (k + 1) ⟨by omega, by omega⟩  (by omega)
      · refine r_load (i := 14) (u := 0) (w := 2) rfl rfl rfl ?_
        refine r_getf (i := 15) (v := 0) (w := 3) (x := (2, 1)) rfl ly17 rfl rfl fun _ => ?_
        refine r_getf (i := 16) (v := 2) (w := 1) (x := (2, 4)) rfl ly1 rfl rfl fun _ => ?_
        refine r_load (i := 17) (u := 0) (w := 2) rfl rfl rfl ?_
        refine r_getf (i := 18) (v := 2) (w := 3) (x := (2, 18)) rfl ly17 rfl rfl fun _ => ?_
        refine r_load (i := 19) (u := 1) (w := 0) rfl rfl rfl ?_
        refine a_int (i := 20) rfl ly18 rfl (by omega) (by omega) fun h22 => ?_
        have h23 := hI.a ta18 k.toNat
        have fa8 := e_FA k.toNat (by omega)
        refine a_int (i := 21) rfl ly4 rfl (by omega) (by omega) fun h24 => ?_
        have h25 := hI.a ta4 (S.a 18 k.toNat).toNat
        refine r_load (i := 22) (u := 0) (w := 2) rfl rfl rfl ?_
        refine r_getf (i := 23) (v := 0) (w := 3) (x := (2, 1)) rfl ly17 rfl rfl fun _ => ?_
        refine r_getf (i := 24) (v := 2) (w := 1) (x := (2, 4)) rfl ly1 rfl rfl fun _ => ?_
        refine r_load (i := 25) (u := 0) (w := 2) rfl rfl rfl ?_
        have h28 := hI.f tf17_6
        refine r_getf (i := 26) (v := 6) (w := 3) (x := vi (S.f 17 6)) rfl ly17 rfl rfl fun h29 => ?_
        have h29 : Rg (S.f 17 6) := h29
        refine a_int (i := 27) rfl ly4 rfl (by omega) (by omega) fun h30 => ?_
        have h31 := hI.a ta4 (S.f 17 6).toNat
        refine c_eq (i := 28) (v := 31) rfl ⟨by omega, by omega⟩ ⟨by omega, by omega⟩ (fun h32 => ?_) (fun h33 => ?_)
        · refine r_iinc (i := 31) (u := 1) (v := 1) (s := 1) (L1 := [some ((2, 17)), some (vi (k + 1))]) rfl rfl rfl rfl rfl ?_
          refine r_goto (i := 32) (v := 2) rfl ?_
          exact ih (k + 1) ⟨by omega, by omega⟩  (by omega)
        · refine r_const (i := 29) (u := 0) (z := 0) rfl rfl ?_
          exact r_retZ (i := 30) rfl (by omega) (by omega) ⟨0, rfl, by omega, by omega, rfl⟩
/-- ProxyForge$Collector.areFacesVisible -/
theorem sp51 {G : xk} {S : yS} {d : Nat} (hI : yI S) (e_FA : FA S) (hd : 1 ≤ d) : yT xPr G LY xC51 0 [some ((2, 17))] [] S d (fun r S' => ∃ z : Int, r = (1, vi z) ∧ 0 ≤ z ∧ z ≤ 1 ∧ S = S') := by
  refine yT_pad 1 ?_
  show yT xPr G LY xC51 0 [some ((2, 17)), none] [] S d _
  obtain ⟨d, rfl⟩ : ∃ q, d = q + 1 := ⟨d - 1, by omega⟩
  refine r_const (i := 0) (u := 0) (z := 0) rfl rfl ?_
  refine r_store (i := 1) (u := 1) (w := 0) (L1 := [some ((2, 17)), some (vi 0)]) rfl rfl rfl rfl ?_
  exact lp51_2 hI   e_FA hd _ 0 ⟨by omega, by omega⟩  (Int.lt_succ_toNat _)
/-- ProxyForge$Collector.isInherited -/
theorem sp59 {G : xk} {S : yS} {d : Nat} (hI : yI S) {m : Int} (h_m : 0 ≤ m ∧ m ≤ 59) (hd : 1 ≤ d) : yT xPr G LY xC59 0 [some ((2, 17)), some (vi m)] [] S d (fun r S' => ∃ z : Int, r = (1, vi z) ∧ 0 ≤ z ∧ z ≤ 1 ∧ (z = 1 → S.a 11 m.toNat ≠ 10) ∧ S = S') := by
  refine yT_pad 0 ?_
  show yT xPr G LY xC59 0 [some ((2, 17)), some (vi m)] [] S d _
  obtain ⟨d, rfl⟩ : ∃ q, d = q + 1 := ⟨d - 1, by omega⟩
  refine r_load (i := 0) (u := 0) (w := 2) rfl rfl rfl ?_
  refine r_getf (i := 1) (v := 1) (w := 3) (x := (2, 9)) rfl ly17 rfl rfl fun _ => ?_
  refine r_getf (i := 2) (v := 2) (w := 2) (x := (2, 11)) rfl ly9 rfl rfl fun _ => ?_
  refine r_load (i := 3) (u := 1) (w := 0) rfl rfl rfl ?_
  refine a_int (i := 4) rfl ly11 rfl (by omega) (by omega) fun h3 => ?_
  have h4 := hI.a ta11 m.toNat
  refine r_const (i := 5) (u := 10) (z := 10) rfl rfl ?_
  refine c_eq (i := 6) (v := 13) rfl ⟨by omega, by omega⟩ ⟨by omega, by omega⟩ (fun h5 => ?_) (fun h6 => ?_)
  · refine r_const (i := 13) (u := 0) (z := 0) rfl rfl ?_
    have h7 := hI.a ta11 m.toNat
    exact r_retZ (i := 14) rfl (by omega) (by omega) ⟨0, rfl, by omega, by omega, (by omega), rfl⟩
  · refine r_load (i := 7) (u := 0) (w := 2) rfl rfl rfl ?_
    refine r_getf (i := 8) (v := 1) (w := 3) (x := (2, 9)) rfl ly17 rfl rfl fun _ => ?_
    refine r_load (i := 9) (u := 1) (w := 0) rfl rfl rfl ?_
    refine r_const (i := 10) (u := 12) (z := 12) rfl rfl ?_
    refine r_call (i := 11) (u := 2) (v := 76) (w := 0) (b := 0) (na := 771) (C2 := xC76) (as := [(2, 9), vi m, vi 12]) (s := []) rfl rfl rfl rfl rfl rfl rfl (sp76 (m := m) (fl := 12) hI ⟨by omega, by omega⟩ ⟨by omega, by omega⟩   (by omega)) (fun r9 S10 hq11 => ?_)
    obtain ⟨z12, rfl, h13, h14, rfl⟩ := hq11
    refine Or.inr (Or.inl ⟨rfl, ?_⟩)
    refine z_eq (i := 12) (v := 15) rfl ⟨by omega, by omega⟩ (fun h15 => ?_) (fun h16 => ?_)
    · refine r_load (i := 15) (u := 0) (w := 2) rfl rfl rfl ?_
      refine r_getf (i := 16) (v := 1) (w := 3) (x := (2, 9)) rfl ly17 rfl rfl fun _ => ?_
      refine r_load (i := 17) (u := 1) (w := 0) rfl rfl rfl ?_
      refine r_call (i := 18) (u := 2) (v := 80) (w := 0) (b := 0) (na := 514) (C2 := xC80) (as := [(2, 9), vi m]) (s := []) rfl rfl rfl rfl rfl rfl rfl (sp80 (m := m) hI ⟨by omega, by omega⟩   (by omega)) (fun r18 S19 hq20 => ?_)
      obtain ⟨z21, rfl, h22, h23, rfl⟩ := hq20
      refine Or.inr (Or.inl ⟨rfl, ?_⟩)
      refine z_eq (i := 19) (v := 36) rfl ⟨by omega, by omega⟩ (fun h24 => ?_) (fun h25 => ?_)
      · refine r_const (i := 36) (u := 1) (z := 1) rfl rfl ?_
        refine r_goto (i := 37) (v := 39) rfl ?_
        have h26 := hI.a ta11 m.toNat
        exact r_retZ (i := 39) rfl (by omega) (by omega) ⟨1, rfl, by omega, by omega, (by omega), rfl⟩
      · refine r_load (i := 20) (u := 0) (w := 2) rfl rfl rfl ?_
        refine r_getf (i := 21) (v := 0) (w := 3) (x := (2, 1)) rfl ly17 rfl rfl fun _ => ?_
        refine r_getf (i := 22) (v := 2) (w := 1) (x := (2, 4)) rfl ly1 rfl rfl fun _ => ?_
        refine r_load (i := 23) (u := 0) (w := 2) rfl rfl rfl ?_
        refine r_getf (i := 24) (v := 1) (w := 3) (x := (2, 9)) rfl ly17 rfl rfl fun _ => ?_
        refine r_getf (i := 25) (v := 1) (w := 2) (x := (2, 10)) rfl ly9 rfl rfl fun _ => ?_
        refine r_load (i := 26) (u := 1) (w := 0) rfl rfl rfl ?_
        refine a_int (i := 27) rfl ly10 rfl (by omega) (by omega) fun h31 => ?_
        have h32 := hI.a ta10 m.toNat
        refine a_int (i := 28) rfl ly4 rfl (by omega) (by omega) fun h33 => ?_
        have h34 := hI.a ta4 (S.a 10 m.toNat).toNat
        refine r_load (i := 29) (u := 0) (w := 2) rfl rfl rfl ?_
        refine r_getf (i := 30) (v := 0) (w := 3) (x := (2, 1)) rfl ly17 rfl rfl fun _ => ?_
        refine r_getf (i := 31) (v := 2) (w := 1) (x := (2, 4)) rfl ly1 rfl rfl fun _ => ?_
        refine r_load (i := 32) (u := 0) (w := 2) rfl rfl rfl ?_
        have h37 := hI.f tf17_6
        refine r_getf (i := 33) (v := 6) (w := 3) (x := vi (S.f 17 6)) rfl ly17 rfl rfl fun h38 => ?_
        have h38 : Rg (S.f 17 6) := h38
        refine a_int (i := 34) rfl ly4 rfl (by omega) (by omega) fun h39 => ?_
        have h40 := hI.a ta4 (S.f 17 6).toNat
        refine c_ne (i := 35) (v := 38) rfl ⟨by omega, by omega⟩ ⟨by omega, by omega⟩ (fun h41 => ?_) (fun h42 => ?_)
        · refine r_const (i := 38) (u := 0) (z := 0) rfl rfl ?_
          have h43 := hI.a ta11 m.toNat
          exact r_retZ (i := 39) rfl (by omega) (by omega) ⟨0, rfl, by omega, by omega, (by omega), rfl⟩
        · refine r_const (i := 36) (u := 1) (z := 1) rfl rfl ?_
          refine r_goto (i := 37) (v := 39) rfl ?_
          have h44 := hI.a ta11 m.toNat
          exact r_retZ (i := 39) rfl (by omega) (by omega) ⟨1, rfl, by omega, by omega, (by omega), rfl⟩
    · refine r_const (i := 13) (u := 0) (z := 0) rfl rfl ?_
      have h45 := hI.a ta11 m.toNat
      exact r_retZ (i := 14) rfl (by omega) (by omega) ⟨0, rfl, by omega, by omega, (by omega), rfl⟩
theorem lp58_2 {G : xk} {d : Nat} {S : yS} (hI : yI S) {m : Int} (h_m : 0 ≤ m ∧ m ≤ 59) (hd : 1 ≤ d + 1) : ∀ (n : Nat), ∀ (k : Int) (h_k : 0 ≤ k ∧ k ≤ 60) (q_0 : NC S k m) (hn : 60 - k < (n : Nat)), yT xPr G LY xC58 2 [some ((2, 17)), some (vi m), some (vi k)] [] S (d + 1) (fun r S' => ∃ z : Int, r = (1, vi z) ∧ 0 ≤ z ∧ z ≤ 1 ∧ (z = 0 → NC S (S.f 17 11) m) ∧ S = S') := by
  intro n
  induction n with
  | zero => intro k h_k q_0 hn; exact absurd hn (by omega)
  | succ n ih =>
    intro k h_k q_0 hn
    refine r_load (i := 2) (u := 2) (w := 0) rfl rfl rfl ?_
    refine r_load (i := 3) (u := 0) (w := 2) rfl rfl rfl ?_
    have h1 := hI.f tf17_11
    refine r_getf (i := 4) (v := 11) (w := 3) (x := vi (S.f 17 11)) rfl ly17 rfl rfl fun h2 => ?_
    have h2 : Rg (S.f 17 11) := h2
    refine c_ge (i := 5) (v := 33) rfl ⟨by omega, by omega⟩ ⟨by omega, by omega⟩ (fun h3 => ?_) (fun h4 => ?_)
    · refine r_const (i := 33) (u := 0) (z := 0) rfl rfl ?_
      exact r_retZ (i := 34) rfl (by omega) (by omega) ⟨0, rfl, by omega, by omega, (by intro hz; first | exact absurd hz (by omega) | exact fun j hj => q_0 j (by omega)), rfl⟩
    · refine r_load (i := 6) (u := 0) (w := 2) rfl rfl rfl ?_
      refine r_getf (i := 7) (v := 1) (w := 3) (x := (2, 9)) rfl ly17 rfl rfl fun _ => ?_
      refine r_load (i := 8) (u := 0) (w := 2) rfl rfl rfl ?_
      refine r_getf (i := 9) (v := 4) (w := 3) (x := (2, 20)) rfl ly17 rfl rfl fun _ => ?_
      refine r_load (i := 10) (u := 2) (w := 0) rfl rfl rfl ?_
      refine a_int (i := 11) rfl ly20 rfl (by omega) (by omega) fun h7 => ?_
      have h8 := hI.a ta20 k.toNat
      refine r_load (i := 12) (u := 0) (w := 2) rfl rfl rfl ?_
      refine r_getf (i := 13) (v := 1) (w := 3) (x := (2, 9)) rfl ly17 rfl rfl fun _ => ?_
      refine r_getf (i := 14) (v := 2) (w := 2) (x := (2, 11)) rfl ly9 rfl rfl fun _ => ?_
      refine r_load (i := 15) (u := 1) (w := 0) rfl rfl rfl ?_
      refine a_int (i := 16) rfl ly11 rfl (by omega) (by omega) fun h11 => ?_
      have h12 := hI.a ta11 m.toNat
      refine r_load (i := 17) (u := 0) (w := 2) rfl rfl rfl ?_
      refine r_getf (i := 18) (v := 1) (w := 3) (x := (2, 9)) rfl ly17 rfl rfl fun _ => ?_
      refine r_getf (i := 19) (v := 4) (w := 2) (x := (2, 13)) rfl ly9 rfl rfl fun _ => ?_
      refine r_load (i := 20) (u := 1) (w := 0) rfl rfl rfl ?_
      refine a_int (i := 21) rfl ly13 rfl (by omega) (by omega) fun h15 => ?_
      have kp16 := hI.k13 m.toNat
      refine r_load (i := 22) (u := 0) (w := 2) rfl rfl rfl ?_
      refine r_getf (i := 23) (v := 1) (w := 3) (x := (2, 9)) rfl ly17 rfl rfl fun _ => ?_
      refine r_getf (i := 24) (v := 5) (w := 2) (x := (2, 14)) rfl ly9 rfl rfl fun _ => ?_
      refine r_load (i := 25) (u := 1) (w := 0) rfl rfl rfl ?_
      refine a_int (i := 26) rfl ly14 rfl (by omega) (by omega) fun h19 => ?_
      have h20 := hI.a ta14 m.toNat
      refine r_call (i := 27) (u := 2) (v := 81) (w := 0) (b := 0) (na := 1285) (C2 := xC81) (as := [(2, 9), vi (S.a 20 k.toNat), vi (S.a 11 m.toNat), vi (S.a 13 m.toNat), vi (S.a 14 m.toNat)]) (s := []) rfl rfl rfl rfl rfl rfl rfl (sp81 (m := S.a 20 k.toNat) (w0 := S.a 11 m.toNat) (p := S.a 13 m.toNat) (b := S.a 14 m.toNat) hI ⟨by omega, by omega⟩ ⟨by omega, by omega⟩ ⟨by omega, by omega⟩ ⟨by omega, by omega⟩   (by omega)) (fun r21 S22 hq23 => ?_)
      obtain ⟨z24, rfl, h25, h26, h27, h28, rfl⟩ := hq23
      refine Or.inr (Or.inl ⟨rfl, ?_⟩)
      refine z_eq (i := 28) (v := 31) rfl ⟨by omega, by omega⟩ (fun h29 => ?_) (fun h30 => ?_)
      · refine r_iinc (i := 31) (u := 1) (v := 2) (s := 1) (L1 := [some ((2, 17)), some (vi m), some (vi (k + 1))]) rfl rfl rfl rfl rfl ?_
        refine r_goto (i := 32) (v := 2) rfl ?_
        exact ih (k + 1) ⟨by omega, by omega⟩ (by first | exact NC_0 | exact NC_push q_0 (by omega) (fun he => by rw [he] at *; omega) | exact NC_push q_0 (by omega) (fun he => by simp_all)) (by omega)
      · refine r_const (i := 29) (u := 1) (z := 1) rfl rfl ?_
        exact r_retZ (i := 30) rfl (by omega) (by omega) ⟨1, rfl, by omega, by omega, (by intro hz; first | exact absurd hz (by omega) | exact fun j hj => q_0 j (by omega)), rfl⟩
/-- ProxyForge$Collector.isCounted -/
theorem sp58 {G : xk} {S : yS} {d : Nat} (hI : yI S) {m : Int} (h_m : 0 ≤ m ∧ m ≤ 59) (hd : 1 ≤ d) : yT xPr G LY xC58 0 [some ((2, 17)), some (vi m)] [] S d (fun r S' => ∃ z : Int, r = (1, vi z) ∧ 0 ≤ z ∧ z ≤ 1 ∧ (z = 0 → NC S (S.f 17 11) m) ∧ S = S') := by
  refine yT_pad 1 ?_
  show yT xPr G LY xC58 0 [some ((2, 17)), some (vi m), none] [] S d _
  obtain ⟨d, rfl⟩ : ∃ q, d = q + 1 := ⟨d - 1, by omega⟩
  refine r_const (i := 0) (u := 0) (z := 0) rfl rfl ?_
  refine r_store (i := 1) (u := 2) (w := 0) (L1 := [some ((2, 17)), some (vi m), some (vi 0)]) rfl rfl rfl rfl ?_
  exact lp58_2 hI h_m   hd _ 0 ⟨by omega, by omega⟩ (by first | exact NC_0 | exact NC_push q_0 (by omega) (fun he => by rw [he] at *; omega) | exact NC_push q_0 (by omega) (fun he => by simp_all)) (Int.lt_succ_toNat _)
/-- ProxyForge$Collector.count -/
theorem sp55 {G : xk} {S : yS} {d : Nat} (hI : yI S) {m : Int} (h_m : 0 ≤ m ∧ m ≤ 59) (p_0 : NC S (S.f 17 11) m) (p_1 : m < S.f 9 8) (p_2 : S.a 11 m.toNat ≤ 9) (p_3 : S.f 17 12 ≤ S.f 17 11) (e_DC : DC S) (e_FN : FN S) (hd : 1 ≤ d) : yT xPr G LY xC55 0 [some ((2, 17)), some (vi m)] [] S d (fun r S' => r = (0, (0, 0)) ∧ S'.f 17 12 ≤ S'.f 17 11 ∧ DC S' ∧ FN S' ∧ yI S' ∧ yFr [(17, 11), (17, 12)] [20, 21] S S' ∧ yRm [] S S') := by
  refine yT_pad 0 ?_
  show yT xPr G LY xC55 0 [some ((2, 17)), some (vi m)] [] S d _
  obtain ⟨d, rfl⟩ : ∃ q, d = q + 1 := ⟨d - 1, by omega⟩
  have hF : yFr [(17, 11), (17, 12)] [20, 21] S S := yFr.refl S
  have hR : yRm [] S S := yRm.refl S
  have h1 := hI.f tf17_11
  have h2 := hI.f tf9_8
  have h3 := hI.a ta11 m.toNat
  have h4 := hI.f tf17_12
  have hcc := DC_room e_DC (hI.f tf17_11).1 p_0 h_m.1 p_1
  have hc9 := hI.f tf9_8
  refine r_load (i := 0) (u := 0) (w := 2) rfl rfl rfl ?_
  refine r_getf (i := 1) (v := 4) (w := 3) (x := (2, 20)) rfl ly17 rfl rfl fun _ => ?_
  refine r_load (i := 2) (u := 0) (w := 2) rfl rfl rfl ?_
  refine r_getf (i := 3) (v := 11) (w := 3) (x := vi (S.f 17 11)) rfl ly17 rfl rfl fun h6 => ?_
  have h6 : Rg (S.f 17 11) := h6
  refine r_load (i := 4) (u := 1) (w := 0) rfl rfl rfl ?_
  refine s_int (i := 5) rfl ly20 rfl (by omega) (by omega) ⟨by omega, by omega⟩ ?_
  have hI8 := hI.seta (b := 20) (j := (S.f 17 11).toNat) (z := m) ta20 rfl (by omega) (by omega)
  have hF10 := hF.seta (b := 20) (j := (S.f 17 11).toNat) (z := m) rfl
  have hR11 := hR.seta (b := 20) (j := (S.f 17 11).toNat) (z := m)
  have e12 := FNx.seta e_FN (b := 20) (j := (S.f 17 11).toNat) (z := m) rfl
  refine yT_gen (fun S7 hS9 => ?_)
  rw [hS9] at hI8 hF10 hR11 e12
  refine r_load (i := 6) (u := 0) (w := 2) rfl rfl rfl ?_
  refine r_dup (i := 7) rfl rfl ?_
  have h13 := hI8.f tf17_11
  have h14 : S7.f 17 11 = S.f 17 11 := by rw [← hS9]; rfl
  refine r_getf (i := 8) (v := 11) (w := 3) (x := vi (S7.f 17 11)) rfl ly17 rfl rfl fun h15 => ?_
  have h15 : Rg (S7.f 17 11) := h15
  refine r_const (i := 9) (u := 1) (z := 1) rfl rfl ?_
  refine r_iadd (i := 10) rfl ?_
  refine r_putI (i := 11) (v := 11) (w := 3) rfl ly17 rfl ⟨by omega, by omega⟩ ?_
  have hI17 := hI8.setf (b := 17) (w := 11) (z := (S7.f 17 11) + 1) tf17_11 rfl (by omega) (by omega)
  have hF19 := hF10.setf (b := 17) (w := 11) (z := (S7.f 17 11) + 1) rfl
  have hR20 := hR11.setf (b := 17) (w := 11) (z := (S7.f 17 11) + 1)
  have e21 := FNx.setf e12 (b := 17) (w := 11) (z := (S7.f 17 11) + 1) rfl
  refine yT_gen (fun S16 hS18 => ?_)
  rw [hS18] at hI17 hF19 hR20 e21
  refine r_load (i := 12) (u := 0) (w := 2) rfl rfl rfl ?_
  refine r_getf (i := 13) (v := 1) (w := 3) (x := (2, 9)) rfl ly17 rfl rfl fun _ => ?_
  refine r_load (i := 14) (u := 1) (w := 0) rfl rfl rfl ?_
  refine r_const (i := 15) (u := 16) (z := 16) rfl rfl ?_
  refine r_call (i := 16) (u := 2) (v := 76) (w := 0) (b := 0) (na := 771) (C2 := xC76) (as := [(2, 9), vi m, vi 16]) (s := []) rfl rfl rfl rfl rfl rfl rfl (sp76 (m := m) (fl := 16) hI17 ⟨by omega, by omega⟩ ⟨by omega, by omega⟩   (by omega)) (fun r23 S24 hq25 => ?_)
  obtain ⟨z26, rfl, h27, h28, rfl⟩ := hq25
  refine Or.inr (Or.inl ⟨rfl, ?_⟩)
  refine z_ne (i := 17) (v := 30) rfl ⟨by omega, by omega⟩ (fun h29 => ?_) (fun h30 => ?_)
  · have h31 := hI17.f tf17_12
    have h32 : S16.f 17 12 = S7.f 17 12 := by rw [← hS18]; exact ysf_ne (by decide)
    have h33 : S7.f 17 12 = S.f 17 12 := by rw [← hS9]; rfl
    have h34 := hI17.f tf17_11
    have h35 : S16.f 17 11 = (S7.f 17 11) + 1 := by rw [← hS18]; exact ysf_eq
    exact r_ret0 (i := 30) rfl ⟨rfl, (by omega), (by exact DC_push e_DC (hI.f tf17_11).1 p_0 h_m.1 p_1 (by subst_vars; rfl) (by subst_vars; rfl) (fun j => by subst_vars; rfl)), e21, hI17, hF19, hR20⟩
  · refine r_load (i := 18) (u := 0) (w := 2) rfl rfl rfl ?_
    refine r_getf (i := 19) (v := 5) (w := 3) (x := (2, 21)) rfl ly17 rfl rfl fun _ => ?_
    refine r_load (i := 20) (u := 0) (w := 2) rfl rfl rfl ?_
    have h37 := hI17.f tf17_12
    have h38 : S16.f 17 12 = S7.f 17 12 := by rw [← hS18]; exact ysf_ne (by decide)
    have h39 : S7.f 17 12 = S.f 17 12 := by rw [← hS9]; rfl
    refine r_getf (i := 21) (v := 12) (w := 3) (x := vi (S16.f 17 12)) rfl ly17 rfl rfl fun h40 => ?_
    have h40 : Rg (S16.f 17 12) := h40
    refine r_load (i := 22) (u := 1) (w := 0) rfl rfl rfl ?_
    refine s_int (i := 23) rfl ly21 rfl (by omega) (by omega) ⟨by omega, by omega⟩ ?_
    have hI42 := hI17.seta (b := 21) (j := (S16.f 17 12).toNat) (z := m) ta21 rfl (by omega) (by omega)
    have hF44 := hF19.seta (b := 21) (j := (S16.f 17 12).toNat) (z := m) rfl
    have hR45 := hR20.seta (b := 21) (j := (S16.f 17 12).toNat) (z := m)
    refine yT_gen (fun S41 hS43 => ?_)
    rw [hS43] at hI42 hF44 hR45 
    refine r_load (i := 24) (u := 0) (w := 2) rfl rfl rfl ?_
    refine r_dup (i := 25) rfl rfl ?_
    have h46 := hI42.f tf17_12
    have h47 : S41.f 17 12 = S16.f 17 12 := by rw [← hS43]; rfl
    have h48 : S16.f 17 12 = S7.f 17 12 := by rw [← hS18]; exact ysf_ne (by decide)
    have h49 : S7.f 17 12 = S.f 17 12 := by rw [← hS9]; rfl
    refine r_getf (i := 26) (v := 12) (w := 3) (x := vi (S41.f 17 12)) rfl ly17 rfl rfl fun h50 => ?_
    have h50 : Rg (S41.f 17 12) := h50
    refine r_const (i := 27) (u := 1) (z := 1) rfl rfl ?_
    refine r_iadd (i := 28) rfl ?_
    refine r_putI (i := 29) (v := 12) (w := 3) rfl ly17 rfl ⟨by omega, by omega⟩ ?_
    have hI52 := hI42.setf (b := 17) (w := 12) (z := (S41.f 17 12) + 1) tf17_12 rfl (by omega) (by omega)
    have hF54 := hF44.setf (b := 17) (w := 12) (z := (S41.f 17 12) + 1) rfl
    have hR55 := hR45.setf (b := 17) (w := 12) (z := (S41.f 17 12) + 1)
    refine yT_gen (fun S51 hS53 => ?_)
    rw [hS53] at hI52 hF54 hR55 
    have h56 := hI52.f tf17_12
    have h57 : S51.f 17 12 = (S41.f 17 12) + 1 := by rw [← hS53]; exact ysf_eq
    have h58 := hI52.f tf17_11
    have h59 : S51.f 17 11 = S41.f 17 11 := by rw [← hS53]; exact ysf_ne (by decide)
    have h60 : S41.f 17 11 = S16.f 17 11 := by rw [← hS43]; rfl
    have h61 : S16.f 17 11 = (S7.f 17 11) + 1 := by rw [← hS18]; exact ysf_eq
    exact r_ret0 (i := 30) rfl ⟨rfl, (by omega), (by exact DC_push e_DC (hI.f tf17_11).1 p_0 h_m.1 p_1 (by subst_vars; rfl) (by subst_vars; rfl) (fun j => by subst_vars; rfl)), (by exact FN_push e_FN (hI.f tf17_12).1 p_2 (by subst_vars; rfl) (fun j => by subst_vars; rfl) (fun j => by subst_vars; rfl)), hI52, hF54, hR55⟩
theorem lp54_14 {G : xk} {d : Nat} {S0 : yS}  (hd : 2 ≤ d + 1) {k : Int} (h_k : 0 ≤ k ∧ k ≤ 19) (no : Nat) (K : ∀ (S : yS) (hI : yI S) (hF : yFr [(17, 11), (17, 12)] [20, 21] S0 S) (hR : yRm [] S0 S) (e_DC : DC S) (e_FN : FN S) (k : Int) (h_k : 0 ≤ k ∧ k ≤ 20) (q_0 : S.f 17 12 ≤ S.f 17 11) (hn : 20 - k < (no : Nat)), yT xPr G LY xC54 8 [some ((2, 17)), some (vi k), none] [] S (d + 1) (fun r S' => r = (0, (0, 0)) ∧ S'.f 17 12 ≤ S'.f 17 11 ∧ DC S' ∧ FN S' ∧ yI S' ∧ yFr [(17, 11), (17, 12)] [20, 21] S0 S' ∧ yRm [] S0 S')) (hm : 20 - k < ((no + 1 : Nat) : Int)) : ∀ (n : Nat), ∀ (S : yS) (hI : yI S) (hF : yFr [(17, 11), (17, 12)] [20, 21] S0 S) (hR : yRm [] S0 S) (e_DC : DC S) (e_FN : FN S) (m : Int) (h_m : 0 ≤ m ∧ m ≤ 60) (q_0 : S.f 17 12 ≤ S.f 17 11) (hn : 60 - m < (n : Nat)), yT xPr G LY xC54 14 [some ((2, 17)), some (vi k), some (vi m)] [] S (d + 1) (fun r S' => r = (0, (0, 0)) ∧ S'.f 17 12 ≤ S'.f 17 11 ∧ DC S' ∧ FN S' ∧ yI S' ∧ yFr [(17, 11), (17, 12)] [20, 21] S0 S' ∧ yRm [] S0 S') := by
  intro n
  induction n with
  | zero => intro S hI hF hR e_DC e_FN m h_m q_0 hn; exact absurd hn (by omega)
  | succ n ih =>
    intro S hI hF hR e_DC e_FN m h_m q_0 hn
    have h1 := hI.f tf17_12
    have h2 := hI.f tf17_11
    refine r_load (i := 14) (u := 2) (w := 0) rfl rfl rfl ?_
    refine r_load (i := 15) (u := 0) (w := 2) rfl rfl rfl ?_
    refine r_getf (i := 16) (v := 1) (w := 3) (x := (2, 9)) rfl ly17 rfl rfl fun _ => ?_
    have h4 := hI.f tf9_8
    have h5 : S.f 9 8 = S0.f 9 8 := hF.f rfl
    refine r_getf (i := 17) (v := 8) (w := 2) (x := vi (S.f 9 8)) rfl ly9 rfl rfl fun h6 => ?_
    have h6 : Rg (S.f 9 8) := h6
    refine c_ge (i := 18) (v := 42) rfl ⟨by omega, by omega⟩ ⟨by omega, by omega⟩ (fun h7 => ?_) (fun h8 => ?_)
    · refine r_iinc (i := 42) (u := 1) (v := 1) (s := 1) (L1 := [some ((2, 17)), some (vi (k + 1)), some (vi m)]) rfl rfl rfl rfl rfl ?_
      refine r_goto (i := 43) (v := 8) rfl ?_
      refine yT_drop (L1 := [some ((2, 17)), some (vi (k + 1)), none]) rfl ?_
      exact K S hI hF hR e_DC e_FN (k + 1) ⟨by omega, by omega⟩ (by omega) (by omega)
    · refine r_load (i := 19) (u := 0) (w := 2) rfl rfl rfl ?_
      refine r_getf (i := 20) (v := 1) (w := 3) (x := (2, 9)) rfl ly17 rfl rfl fun _ => ?_
      refine r_getf (i := 21) (v := 1) (w := 2) (x := (2, 10)) rfl ly9 rfl rfl fun _ => ?_
      refine r_load (i := 22) (u := 2) (w := 0) rfl rfl rfl ?_
      refine a_int (i := 23) rfl ly10 rfl (by omega) (by omega) fun h11 => ?_
      have h12 := hI.a ta10 m.toNat
      have h13 : S.a 10 m.toNat = S0.a 10 m.toNat := hF.a rfl _
      refine r_load (i := 24) (u := 0) (w := 2) rfl rfl rfl ?_
      refine r_getf (i := 25) (v := 3) (w := 3) (x := (2, 19)) rfl ly17 rfl rfl fun _ => ?_
      refine r_load (i := 26) (u := 1) (w := 0) rfl rfl rfl ?_
      refine a_int (i := 27) rfl ly19 rfl (by omega) (by omega) fun h15 => ?_
      have h16 := hI.a ta19 k.toNat
      have h17 : S.a 19 k.toNat = S0.a 19 k.toNat := hF.a rfl _
      refine c_ne (i := 28) (v := 40) rfl ⟨by omega, by omega⟩ ⟨by omega, by omega⟩ (fun h18 => ?_) (fun h19 => ?_)
      · refine r_iinc (i := 40) (u := 1) (v := 2) (s := 1) (L1 := [some ((2, 17)), some (vi k), some (vi (m + 1))]) rfl rfl rfl rfl rfl ?_
        refine r_goto (i := 41) (v := 14) rfl ?_
        exact ih S hI hF hR e_DC e_FN (m + 1) ⟨by omega, by omega⟩ (by omega) (by omega)
      · refine r_load (i := 29) (u := 0) (w := 2) rfl rfl rfl ?_
        refine r_load (i := 30) (u := 2) (w := 0) rfl rfl rfl ?_
        have h20 := hI.a ta11 m.toNat
        have h21 : S.a 11 m.toNat = S0.a 11 m.toNat := hF.a rfl _
        refine r_call (i := 31) (u := 3) (v := 59) (w := 0) (b := 0) (na := 514) (C2 := xC59) (as := [(2, 17), vi m]) (s := []) rfl rfl rfl rfl rfl rfl rfl (sp59 (m := m) hI ⟨by omega, by omega⟩   (by omega)) (fun r22 S23 hq24 => ?_)
        obtain ⟨z25, rfl, h26, h27, h28, rfl⟩ := hq24
        refine Or.inr (Or.inl ⟨rfl, ?_⟩)
        refine z_eq (i := 32) (v := 40) rfl ⟨by omega, by omega⟩ (fun h29 => ?_) (fun h30 => ?_)
        · refine r_iinc (i := 40) (u := 1) (v := 2) (s := 1) (L1 := [some ((2, 17)), some (vi k), some (vi (m + 1))]) rfl rfl rfl rfl rfl ?_
          refine r_goto (i := 41) (v := 14) rfl ?_
          exact ih S hI hF hR e_DC e_FN (m + 1) ⟨by omega, by omega⟩ (by omega) (by omega)
        · refine r_load (i := 33) (u := 0) (w := 2) rfl rfl rfl ?_
          refine r_load (i := 34) (u := 2) (w := 0) rfl rfl rfl ?_
          refine r_call (i := 35) (u := 3) (v := 58) (w := 0) (b := 0) (na := 770) (C2 := xC58) (as := [(2, 17), vi m]) (s := []) rfl rfl rfl rfl rfl rfl rfl (sp58 (m := m) hI ⟨by omega, by omega⟩   (by omega)) (fun r31 S32 hq33 => ?_)
          obtain ⟨z34, rfl, h35, h36, h37, rfl⟩ := hq33
          refine Or.inr (Or.inl ⟨rfl, ?_⟩)
          refine z_ne (i := 36) (v := 40) rfl ⟨by omega, by omega⟩ (fun h38 => ?_) (fun h39 => ?_)
          · refine r_iinc (i := 40) (u := 1) (v := 2) (s := 1) (L1 := [some ((2, 17)), some (vi k), some (vi (m + 1))]) rfl rfl rfl rfl rfl ?_
            refine r_goto (i := 41) (v := 14) rfl ?_
            exact ih S hI hF hR e_DC e_FN (m + 1) ⟨by omega, by omega⟩ (by omega) (by omega)
          · refine r_load (i := 37) (u := 0) (w := 2) rfl rfl rfl ?_
            refine r_load (i := 38) (u := 2) (w := 0) rfl rfl rfl ?_
            have h40 := hI.a ta11 m.toNat
            refine r_call (i := 39) (u := 3) (v := 55) (w := 0) (b := 0) (na := 514) (C2 := xC55) (as := [(2, 17), vi m]) (s := []) rfl rfl rfl rfl rfl rfl rfl (sp55 (m := m) hI ⟨by omega, by omega⟩ (by first | assumption | grind) (by omega) (by omega) (by omega) e_DC e_FN (by omega)) (fun r41 S42 hq43 => ?_)
            obtain ⟨rfl, h44, e45, e46, hI47, hF48, hR49⟩ := hq43
            have hF50 := hF.trans hF48 rfl rfl
            have hR51 := hR.trans hR49 rfl
            refine Or.inl ⟨rfl, ?_⟩
            refine r_iinc (i := 40) (u := 1) (v := 2) (s := 1) (L1 := [some ((2, 17)), some (vi k), some (vi (m + 1))]) rfl rfl rfl rfl rfl ?_
            refine r_goto (i := 41) (v := 14) rfl ?_
            have h52 := hI47.f tf17_12
            have h53 := hI47.f tf17_11
            exact ih S42 hI47 hF50 hR51 e45 e46 (m + 1) ⟨by omega, by omega⟩ (by omega) (by omega)
theorem lp54_8 {G : xk} {d : Nat} {S0 : yS}  (hd : 2 ≤ d + 1) : ∀ (n : Nat), ∀ (S : yS) (hI : yI S) (hF : yFr [(17, 11), (17, 12)] [20, 21] S0 S) (hR : yRm [] S0 S) (e_DC : DC S) (e_FN : FN S) (k : Int) (h_k : 0 ≤ k ∧ k ≤ 20) (q_0 : S.f 17 12 ≤ S.f 17 11) (hn : 20 - k < (n : Nat)), yT xPr G LY xC54 8 [some ((2, 17)), some (vi k), none] [] S (d + 1) (fun r S' => r = (0, (0, 0)) ∧ S'.f 17 12 ≤ S'.f 17 11 ∧ DC S' ∧ FN S' ∧ yI S' ∧ yFr [(17, 11), (17, 12)] [20, 21] S0 S' ∧ yRm [] S0 S') := by
  intro n
  induction n with
  | zero => intro S hI hF hR e_DC e_FN k h_k q_0 hn; exact absurd hn (by omega)
  | succ n ih =>
    intro S hI hF hR e_DC e_FN k h_k q_0 hn
    have h1 := hI.f tf17_12
    have h2 := hI.f tf17_11
    refine r_load (i := 8) (u := 1) (w := 0) rfl rfl rfl ?_
    refine r_load (i := 9) (u := 0) (w := 2) rfl rfl rfl ?_
    have h3 := hI.f tf17_10
    have h4 : S.f 17 10 = S0.f 17 10 := hF.f rfl
    refine r_getf (i := 10) (v := 10) (w := 3) (x := vi (S.f 17 10)) rfl ly17 rfl rfl fun h5 => ?_
    have h5 : Rg (S.f 17 10) := h5
    refine c_ge (i := 11) (v := 44) rfl ⟨by omega, by omega⟩ ⟨by omega, by omega⟩ (fun h6 => ?_) (fun h7 => ?_)
    · exact r_ret0 (i := 44) rfl ⟨rfl, (by omega), e_DC, e_FN, hI, hF, hR⟩
    · refine r_const (i := 12) (u := 0) (z := 0) rfl rfl ?_
      refine r_store (i := 13) (u := 2) (w := 0) (L1 := [some ((2, 17)), some (vi k), some (vi 0)]) rfl rfl rfl rfl ?_
      exact lp54_14   hd (k := k) ⟨by omega, by omega⟩ n ih (by omega) _ S hI hF hR e_DC e_FN 0 ⟨by omega, by omega⟩ (by omega) (Int.lt_succ_toNat _)
/-- ProxyForge$Collector.collectAll -/
theorem sp54 {G : xk} {S : yS} {d : Nat} (hI : yI S)  (hd : 2 ≤ d) : yT xPr G LY xC54 0 [some ((2, 17))] [] S d (fun r S' => r = (0, (0, 0)) ∧ S'.f 17 12 ≤ S'.f 17 11 ∧ DC S' ∧ FN S' ∧ yI S' ∧ yFr [(17, 11), (17, 12)] [20, 21] S S' ∧ yRm [] S S') := by
  refine yT_pad 2 ?_
  show yT xPr G LY xC54 0 [some ((2, 17)), none, none] [] S d _
  obtain ⟨d, rfl⟩ : ∃ q, d = q + 1 := ⟨d - 1, by omega⟩
  have hF : yFr [(17, 11), (17, 12)] [20, 21] S S := yFr.refl S
  have hR : yRm [] S S := yRm.refl S
  refine r_load (i := 0) (u := 0) (w := 2) rfl rfl rfl ?_
  refine r_const (i := 1) (u := 0) (z := 0) rfl rfl ?_
  refine r_putI (i := 2) (v := 11) (w := 3) rfl ly17 rfl ⟨by omega, by omega⟩ ?_
  have hI2 := hI.setf (b := 17) (w := 11) (z := 0) tf17_11 rfl (by omega) (by omega)
  have hF4 := hF.setf (b := 17) (w := 11) (z := 0) rfl
  have hR5 := hR.setf (b := 17) (w := 11) (z := 0)
  refine yT_gen (fun S1 hS3 => ?_)
  rw [hS3] at hI2 hF4 hR5 
  refine r_load (i := 3) (u := 0) (w := 2) rfl rfl rfl ?_
  refine r_const (i := 4) (u := 0) (z := 0) rfl rfl ?_
  refine r_putI (i := 5) (v := 12) (w := 3) rfl ly17 rfl ⟨by omega, by omega⟩ ?_
  have hI7 := hI2.setf (b := 17) (w := 12) (z := 0) tf17_12 rfl (by omega) (by omega)
  have hF9 := hF4.setf (b := 17) (w := 12) (z := 0) rfl
  have hR10 := hR5.setf (b := 17) (w := 12) (z := 0)
  refine yT_gen (fun S6 hS8 => ?_)
  rw [hS8] at hI7 hF9 hR10 
  refine r_const (i := 6) (u := 0) (z := 0) rfl rfl ?_
  refine r_store (i := 7) (u := 1) (w := 0) (L1 := [some ((2, 17)), some (vi 0), none]) rfl rfl rfl rfl ?_
  have h11 := hI7.f tf17_12
  have h12 : S6.f 17 12 = 0 := by rw [← hS8]; exact ysf_eq
  have h13 := hI7.f tf17_11
  have h14 : S6.f 17 11 = S1.f 17 11 := by rw [← hS8]; exact ysf_ne (by decide)
  have h15 : S1.f 17 11 = 0 := by rw [← hS3]; exact ysf_eq
  exact lp54_8   hd _ S6 hI7 hF9 hR10 (by exact DC_0 (by omega)) (by exact FN_0 (by omega)) 0 ⟨by omega, by omega⟩ (by omega) (Int.lt_succ_toNat _)
/-- ProxyForge$Collector.clash -/
theorem sp53 {G : xk} {S : yS} {d : Nat} (hI : yI S) {m : Int} (h_m : 0 ≤ m ∧ m ≤ 59) {o : Int} (h_o : 0 ≤ o ∧ o ≤ 59) (hd : 1 ≤ d) : yT xPr G LY xC53 0 [some ((2, 17)), some (vi m), some (vi o)] [] S d (fun r S' => ∃ z : Int, r = (1, vi z) ∧ 0 ≤ z ∧ z ≤ 1 ∧ S = S') := by
  refine yT_pad 2 ?_
  show yT xPr G LY xC53 0 [some ((2, 17)), some (vi m), some (vi o), none, none] [] S d _
  obtain ⟨d, rfl⟩ : ∃ q, d = q + 1 := ⟨d - 1, by omega⟩
  refine r_load (i := 0) (u := 0) (w := 2) rfl rfl rfl ?_
  refine r_getf (i := 1) (v := 1) (w := 3) (x := (2, 9)) rfl ly17 rfl rfl fun _ => ?_
  refine r_getf (i := 2) (v := 2) (w := 2) (x := (2, 11)) rfl ly9 rfl rfl fun _ => ?_
  refine r_load (i := 3) (u := 1) (w := 0) rfl rfl rfl ?_
  refine a_int (i := 4) rfl ly11 rfl (by omega) (by omega) fun h3 => ?_
  have h4 := hI.a ta11 m.toNat
  refine r_load (i := 5) (u := 0) (w := 2) rfl rfl rfl ?_
  refine r_getf (i := 6) (v := 1) (w := 3) (x := (2, 9)) rfl ly17 rfl rfl fun _ => ?_
  refine r_getf (i := 7) (v := 2) (w := 2) (x := (2, 11)) rfl ly9 rfl rfl fun _ => ?_
  refine r_load (i := 8) (u := 2) (w := 0) rfl rfl rfl ?_
  refine a_int (i := 9) rfl ly11 rfl (by omega) (by omega) fun h7 => ?_
  have h8 := hI.a ta11 o.toNat
  refine c_ne (i := 10) (v := 22) rfl ⟨by omega, by omega⟩ ⟨by omega, by omega⟩ (fun h9 => ?_) (fun h10 => ?_)
  · refine r_const (i := 22) (u := 0) (z := 0) rfl rfl ?_
    exact r_retZ (i := 23) rfl (by omega) (by omega) ⟨0, rfl, by omega, by omega, rfl⟩
  · refine r_load (i := 11) (u := 0) (w := 2) rfl rfl rfl ?_
    refine r_getf (i := 12) (v := 1) (w := 3) (x := (2, 9)) rfl ly17 rfl rfl fun _ => ?_
    refine r_getf (i := 13) (v := 4) (w := 2) (x := (2, 13)) rfl ly9 rfl rfl fun _ => ?_
    refine r_load (i := 14) (u := 1) (w := 0) rfl rfl rfl ?_
    refine a_int (i := 15) rfl ly13 rfl (by omega) (by omega) fun h13 => ?_
    have kp14 := hI.k13 m.toNat
    refine r_load (i := 16) (u := 0) (w := 2) rfl rfl rfl ?_
    refine r_getf (i := 17) (v := 1) (w := 3) (x := (2, 9)) rfl ly17 rfl rfl fun _ => ?_
    refine r_getf (i := 18) (v := 4) (w := 2) (x := (2, 13)) rfl ly9 rfl rfl fun _ => ?_
    refine r_load (i := 19) (u := 2) (w := 0) rfl rfl rfl ?_
    refine a_int (i := 20) rfl ly13 rfl (by omega) (by omega) fun h17 => ?_
    have kp18 := hI.k13 o.toNat
    refine c_eq (i := 21) (v := 24) rfl ⟨by omega, by omega⟩ ⟨by omega, by omega⟩ (fun h19 => ?_) (fun h20 => ?_)
    · refine r_load (i := 24) (u := 0) (w := 2) rfl rfl rfl ?_
      refine r_getf (i := 25) (v := 1) (w := 3) (x := (2, 9)) rfl ly17 rfl rfl fun _ => ?_
      refine r_getf (i := 26) (v := 5) (w := 2) (x := (2, 14)) rfl ly9 rfl rfl fun _ => ?_
      refine r_load (i := 27) (u := 1) (w := 0) rfl rfl rfl ?_
      refine a_int (i := 28) rfl ly14 rfl (by omega) (by omega) fun h23 => ?_
      have h24 := hI.a ta14 m.toNat
      refine r_const (i := 29) (u := 4) (z := 4) rfl rfl ?_
      refine r_isub (i := 30) rfl ?_
      refine r_store (i := 31) (u := 3) (w := 0) (L1 := [some ((2, 17)), some (vi m), some (vi o), some (vi ((S.a 14 m.toNat) - 4)), none]) rfl rfl rfl rfl ?_
      refine r_load (i := 32) (u := 0) (w := 2) rfl rfl rfl ?_
      refine r_getf (i := 33) (v := 1) (w := 3) (x := (2, 9)) rfl ly17 rfl rfl fun _ => ?_
      refine r_getf (i := 34) (v := 5) (w := 2) (x := (2, 14)) rfl ly9 rfl rfl fun _ => ?_
      refine r_load (i := 35) (u := 2) (w := 0) rfl rfl rfl ?_
      refine a_int (i := 36) rfl ly14 rfl (by omega) (by omega) fun h27 => ?_
      have h28 := hI.a ta14 o.toNat
      refine r_const (i := 37) (u := 4) (z := 4) rfl rfl ?_
      refine r_isub (i := 38) rfl ?_
      refine r_store (i := 39) (u := 4) (w := 0) (L1 := [some ((2, 17)), some (vi m), some (vi o), some (vi ((S.a 14 m.toNat) - 4)), some (vi ((S.a 14 o.toNat) - 4))]) rfl rfl rfl rfl ?_
      refine r_load (i := 40) (u := 3) (w := 0) rfl rfl rfl ?_
      refine z_lt (i := 41) (v := 44) rfl ⟨by omega, by omega⟩ (fun h29 => ?_) (fun h30 => ?_)
      · refine r_load (i := 44) (u := 3) (w := 0) rfl rfl rfl ?_
        refine r_load (i := 45) (u := 4) (w := 0) rfl rfl rfl ?_
        refine c_eq (i := 46) (v := 49) rfl ⟨by omega, by omega⟩ ⟨by omega, by omega⟩ (fun h31 => ?_) (fun h32 => ?_)
        · refine r_const (i := 49) (u := 0) (z := 0) rfl rfl ?_
          exact r_retZ (i := 50) rfl (by omega) (by omega) ⟨0, rfl, by omega, by omega, rfl⟩
        · refine r_const (i := 47) (u := 1) (z := 1) rfl rfl ?_
          refine r_goto (i := 48) (v := 50) rfl ?_
          exact r_retZ (i := 50) rfl (by omega) (by omega) ⟨1, rfl, by omega, by omega, rfl⟩
      · refine r_load (i := 42) (u := 4) (w := 0) rfl rfl rfl ?_
        refine z_ge (i := 43) (v := 51) rfl ⟨by omega, by omega⟩ (fun h33 => ?_) (fun h34 => ?_)
        · refine r_load (i := 51) (u := 0) (w := 2) rfl rfl rfl ?_
          refine r_getf (i := 52) (v := 0) (w := 3) (x := (2, 1)) rfl ly17 rfl rfl fun _ => ?_
          refine r_load (i := 53) (u := 3) (w := 0) rfl rfl rfl ?_
          refine r_load (i := 54) (u := 4) (w := 0) rfl rfl rfl ?_
          refine r_call (i := 55) (u := 1) (v := 133) (w := 0) (b := 0) (na := 771) (C2 := xC133) (as := [(2, 1), vi ((S.a 14 m.toNat) - 4), vi ((S.a 14 o.toNat) - 4)]) (s := []) rfl rfl rfl rfl rfl rfl rfl (sp133 (t := (S.a 14 m.toNat) - 4) (o := (S.a 14 o.toNat) - 4) hI ⟨by omega, by omega⟩ ⟨by omega, by omega⟩   (by omega)) (fun r36 S37 hq38 => ?_)
          obtain ⟨z39, rfl, h40, h41, yb42, nb43, rfl⟩ := hq38
          refine Or.inr (Or.inl ⟨rfl, ?_⟩)
          refine z_ne (i := 56) (v := 65) rfl ⟨by omega, by omega⟩ (fun h44 => ?_) (fun h45 => ?_)
          · refine r_const (i := 65) (u := 0) (z := 0) rfl rfl ?_
            exact r_retZ (i := 66) rfl (by omega) (by omega) ⟨0, rfl, by omega, by omega, rfl⟩
          · refine r_load (i := 57) (u := 0) (w := 2) rfl rfl rfl ?_
            refine r_getf (i := 58) (v := 0) (w := 3) (x := (2, 1)) rfl ly17 rfl rfl fun _ => ?_
            refine r_load (i := 59) (u := 4) (w := 0) rfl rfl rfl ?_
            refine r_load (i := 60) (u := 3) (w := 0) rfl rfl rfl ?_
            refine r_call (i := 61) (u := 1) (v := 133) (w := 0) (b := 0) (na := 771) (C2 := xC133) (as := [(2, 1), vi ((S.a 14 o.toNat) - 4), vi ((S.a 14 m.toNat) - 4)]) (s := []) rfl rfl rfl rfl rfl rfl rfl (sp133 (t := (S.a 14 o.toNat) - 4) (o := (S.a 14 m.toNat) - 4) hI ⟨by omega, by omega⟩ ⟨by omega, by omega⟩   (by omega)) (fun r47 S48 hq49 => ?_)
            obtain ⟨z50, rfl, h51, h52, yb53, nb54, rfl⟩ := hq49
            refine Or.inr (Or.inl ⟨rfl, ?_⟩)
            refine z_ne (i := 62) (v := 65) rfl ⟨by omega, by omega⟩ (fun h55 => ?_) (fun h56 => ?_)
            · refine r_const (i := 65) (u := 0) (z := 0) rfl rfl ?_
              exact r_retZ (i := 66) rfl (by omega) (by omega) ⟨0, rfl, by omega, by omega, rfl⟩
            · refine r_const (i := 63) (u := 1) (z := 1) rfl rfl ?_
              refine r_goto (i := 64) (v := 66) rfl ?_
              exact r_retZ (i := 66) rfl (by omega) (by omega) ⟨1, rfl, by omega, by omega, rfl⟩
        · refine r_load (i := 44) (u := 3) (w := 0) rfl rfl rfl ?_
          refine r_load (i := 45) (u := 4) (w := 0) rfl rfl rfl ?_
          refine c_eq (i := 46) (v := 49) rfl ⟨by omega, by omega⟩ ⟨by omega, by omega⟩ (fun h57 => ?_) (fun h58 => ?_)
          · refine r_const (i := 49) (u := 0) (z := 0) rfl rfl ?_
            exact r_retZ (i := 50) rfl (by omega) (by omega) ⟨0, rfl, by omega, by omega, rfl⟩
          · refine r_const (i := 47) (u := 1) (z := 1) rfl rfl ?_
            refine r_goto (i := 48) (v := 50) rfl ?_
            exact r_retZ (i := 50) rfl (by omega) (by omega) ⟨1, rfl, by omega, by omega, rfl⟩
    · refine r_const (i := 22) (u := 0) (z := 0) rfl rfl ?_
      exact r_retZ (i := 23) rfl (by omega) (by omega) ⟨0, rfl, by omega, by omega, rfl⟩
theorem lp57_8 {G : xk} {d : Nat} {S : yS} (hI : yI S)  (hd : 2 ≤ d + 1) {k : Int} (h_k : 0 ≤ k ∧ k ≤ 59) (no : Nat) (K : ∀ (k : Int) (h_k : 0 ≤ k ∧ k ≤ 60) (hn : 60 - k < (no : Nat)), yT xPr G LY xC57 2 [some ((2, 17)), some (vi k), none] [] S (d + 1) (fun r S' => ∃ z : Int, r = (1, vi z) ∧ 0 ≤ z ∧ z ≤ 1 ∧ S = S')) (hm : 60 - k < ((no + 1 : Nat) : Int)) : ∀ (n : Nat), ∀ (j : Int) (h_j : 0 ≤ j ∧ j ≤ 60) (hn : 60 - j < (n : Nat)), yT xPr G LY xC57 8 [some ((2, 17)), some (vi k), some (vi j)] [] S (d + 1) (fun r S' => ∃ z : Int, r = (1, vi z) ∧ 0 ≤ z ∧ z ≤ 1 ∧ S = S') := by
  intro n
  induction n with
  | zero => intro j h_j hn; exact absurd hn (by omega)
  | succ n ih =>
    intro j h_j hn
    refine r_load (i := 8) (u := 2) (w := 0) rfl rfl rfl ?_
    refine r_load (i := 9) (u := 1) (w := 0) rfl rfl rfl ?_
    refine c_ge (i := 10) (v := 26) rfl ⟨by omega, by omega⟩ ⟨by omega, by omega⟩ (fun h1 => ?_) (fun h2 => ?_)
    · refine r_iinc (i := 26) (u := 1) (v := 1) (s := 1) (L1 := [some ((2, 17)), some (vi (k + 1)), some (vi j)]) rfl rfl rfl rfl rfl ?_
      refine r_goto (i := 27) (v := 2) rfl ?_
      refine yT_drop (L1 := [some ((2, 17)), some (vi (k + 1)), none]) rfl ?_
      exact K (k + 1) ⟨by omega, by omega⟩  (by omega)
    · refine r_load (i := 11) (u := 0) (w := 2) rfl rfl rfl ?_
      refine r_load (i := 12) (u := 0) (w := 2) rfl rfl rfl ?_
      refine r_getf (i := 13) (v := 5) (w := 3) (x := (2, 21)) rfl ly17 rfl rfl fun _ => ?_
      refine r_load (i := 14) (u := 1) (w := 0) rfl rfl rfl ?_
      refine a_int (i := 15) rfl ly21 rfl (by omega) (by omega) fun h4 => ?_
      have h5 := hI.a ta21 k.toNat
      refine r_load (i := 16) (u := 0) (w := 2) rfl rfl rfl ?_
      refine r_getf (i := 17) (v := 5) (w := 3) (x := (2, 21)) rfl ly17 rfl rfl fun _ => ?_
      refine r_load (i := 18) (u := 2) (w := 0) rfl rfl rfl ?_
      refine a_int (i := 19) rfl ly21 rfl (by omega) (by omega) fun h7 => ?_
      have h8 := hI.a ta21 j.toNat
      refine r_call (i := 20) (u := 3) (v := 53) (w := 0) (b := 0) (na := 1283) (C2 := xC53) (as := [(2, 17), vi (S.a 21 k.toNat), vi (S.a 21 j.toNat)]) (s := []) rfl rfl rfl rfl rfl rfl rfl (sp53 (m := S.a 21 k.toNat) (o := S.a 21 j.toNat) hI ⟨by omega, by omega⟩ ⟨by omega, by omega⟩   (by omega)) (fun r9 S10 hq11 => ?_)
      obtain ⟨z12, rfl, h13, h14, rfl⟩ := hq11
      refine Or.inr (Or.inl ⟨rfl, ?_⟩)
      refine z_eq (i := 21) (v := 24) rfl ⟨by omega, by omega⟩ (fun h15 => ?_) (fun h16 => ?_)
      · refine r_iinc (i := 24) (u := 1) (v := 2) (s := 1) (L1 := [some ((2, 17)), some (vi k), some (vi (j + 1))]) rfl rfl rfl rfl rfl ?_
        refine r_goto (i := 25) (v := 8) rfl ?_
        exact ih (j + 1) ⟨by omega, by omega⟩  (by omega)
      · refine r_const (i := 22) (u := 1) (z := 1) rfl rfl ?_
        exact r_retZ (i := 23) rfl (by omega) (by omega) ⟨1, rfl, by omega, by omega, rfl⟩
theorem lp57_2 {G : xk} {d : Nat} {S : yS} (hI : yI S)  (hd : 2 ≤ d + 1) : ∀ (n : Nat), ∀ (k : Int) (h_k : 0 ≤ k ∧ k ≤ 60) (hn : 60 - k < (n : Nat)), yT xPr G LY xC57 2 [some ((2, 17)), some (vi k), none] [] S (d + 1) (fun r S' => ∃ z : Int, r = (1, vi z) ∧ 0 ≤ z ∧ z ≤ 1 ∧ S = S') := by
  intro n
  induction n with
  | zero => intro k h_k hn; exact absurd hn (by omega)
  | succ n ih =>
    intro k h_k hn
    refine r_load (i := 2) (u := 1) (w := 0) rfl rfl rfl ?_
    refine r_load (i := 3) (u := 0) (w := 2) rfl rfl rfl ?_
    have h1 := hI.f tf17_12
    refine r_getf (i := 4) (v := 12) (w := 3) (x := vi (S.f 17 12)) rfl ly17 rfl rfl fun h2 => ?_
    have h2 : Rg (S.f 17 12) := h2
    refine c_ge (i := 5) (v := 28) rfl ⟨by omega, by omega⟩ ⟨by omega, by omega⟩ (fun h3 => ?_) (fun h4 => ?_)
    · refine r_const (i := 28) (u := 0) (z := 0) rfl rfl ?_
      exact r_retZ (i := 29) rfl (by omega) (by omega) ⟨0, rfl, by omega, by omega, rfl⟩
    · refine r_const (i := 6) (u := 0) (z := 0) rfl rfl ?_
      refine r_store (i := 7) (u := 2) (w := 0) (L1 := [some ((2, 17)), some (vi k), some (vi 0)]) rfl rfl rfl rfl ?_
      exact lp57_8 hI    hd (k := k) ⟨by omega, by omega⟩ n ih (by omega) _ 0 ⟨by omega, by omega⟩  (Int.lt_succ_toNat _)
/-- ProxyForge$Collector.hasClash -/
theorem sp57 {G : xk} {S : yS} {d : Nat} (hI : yI S)  (hd : 2 ≤ d) : yT xPr G LY xC57 0 [some ((2, 17))] [] S d (fun r S' => ∃ z : Int, r = (1, vi z) ∧ 0 ≤ z ∧ z ≤ 1 ∧ S = S') := by
  refine yT_pad 2 ?_
  show yT xPr G LY xC57 0 [some ((2, 17)), none, none] [] S d _
  obtain ⟨d, rfl⟩ : ∃ q, d = q + 1 := ⟨d - 1, by omega⟩
  refine r_const (i := 0) (u := 0) (z := 0) rfl rfl ?_
  refine r_store (i := 1) (u := 1) (w := 0) (L1 := [some ((2, 17)), some (vi 0), none]) rfl rfl rfl rfl ?_
  exact lp57_2 hI    hd _ 0 ⟨by omega, by omega⟩  (Int.lt_succ_toNat _)
theorem lp56_11 {G : xk} {d : Nat} {S : yS} (hI : yI S) {t : Int} (h_t : 0 ≤ t ∧ t ≤ 19) (e_FA : FA S) (hd : 1 ≤ d + 1) : ∀ (n : Nat), ∀ (k : Int) (h_k : 0 ≤ k ∧ k ≤ 3) (hn : 3 - k < (n : Nat)), yT xPr G LY xC56 11 [some ((2, 17)), some (vi t), some (vi k)] [] S (d + 1) (fun r S' => ∃ z : Int, r = (1, vi z) ∧ -1 ≤ z ∧ z ≤ 19 ∧ S = S') := by
  intro n
  induction n with
  | zero => intro k h_k hn; exact absurd hn (by omega)
  | succ n ih =>
    intro k h_k hn
    refine r_load (i := 11) (u := 2) (w := 0) rfl rfl rfl ?_
    refine r_load (i := 12) (u := 0) (w := 2) rfl rfl rfl ?_
    have h1 := hI.f tf17_7
    refine r_getf (i := 13) (v := 7) (w := 3) (x := vi (S.f 17 7)) rfl ly17 rfl rfl fun h2 => ?_
    have h2 : Rg (S.f 17 7) := h2
    refine c_ge (i := 14) (v := 31) rfl ⟨by omega, by omega⟩ ⟨by omega, by omega⟩ (fun h3 => ?_) (fun h4 => ?_)
    · refine r_const (i := 31) (u := 4294967295) (z := -1) rfl rfl ?_
      exact r_retI (i := 32) rfl ⟨-1, rfl, by omega, by omega, rfl⟩
    · refine r_load (i := 15) (u := 0) (w := 2) rfl rfl rfl ?_
      refine r_getf (i := 16) (v := 0) (w := 3) (x := (2, 1)) rfl ly17 rfl rfl fun _ => ?_
      refine r_load (i := 17) (u := 0) (w := 2) rfl rfl rfl ?_
      refine r_getf (i := 18) (v := 2) (w := 3) (x := (2, 18)) rfl ly17 rfl rfl fun _ => ?_
      refine r_load (i := 19) (u := 2) (w := 0) rfl rfl rfl ?_
      refine a_int (i := 20) rfl ly18 rfl (by omega) (by omega) fun h7 => ?_
      have h8 := hI.a ta18 k.toNat
      refine r_load (i := 21) (u := 1) (w := 0) rfl rfl rfl ?_
      have fa9 := e_FA k.toNat (by omega)
      refine r_call (i := 22) (u := 1) (v := 133) (w := 0) (b := 0) (na := 771) (C2 := xC133) (as := [(2, 1), vi (S.a 18 k.toNat), vi t]) (s := []) rfl rfl rfl rfl rfl rfl rfl (sp133 (t := S.a 18 k.toNat) (o := t) hI ⟨by omega, by omega⟩ ⟨by omega, by omega⟩   (by omega)) (fun r9 S10 hq11 => ?_)
      obtain ⟨z12, rfl, h13, h14, yb15, nb16, rfl⟩ := hq11
      refine Or.inr (Or.inl ⟨rfl, ?_⟩)
      refine z_eq (i := 23) (v := 29) rfl ⟨by omega, by omega⟩ (fun h17 => ?_) (fun h18 => ?_)
      · refine r_iinc (i := 29) (u := 1) (v := 2) (s := 1) (L1 := [some ((2, 17)), some (vi t), some (vi (k + 1))]) rfl rfl rfl rfl rfl ?_
        refine r_goto (i := 30) (v := 11) rfl ?_
        exact ih (k + 1) ⟨by omega, by omega⟩  (by omega)
      · refine r_load (i := 24) (u := 0) (w := 2) rfl rfl rfl ?_
        refine r_getf (i := 25) (v := 2) (w := 3) (x := (2, 18)) rfl ly17 rfl rfl fun _ => ?_
        refine r_load (i := 26) (u := 2) (w := 0) rfl rfl rfl ?_
        refine a_int (i := 27) rfl ly18 rfl (by omega) (by omega) fun h20 => ?_
        have h21 := hI.a ta18 k.toNat
        exact r_retI (i := 28) rfl ⟨S.a 18 k.toNat, rfl, by omega, by omega, rfl⟩
/-- ProxyForge$Collector.faceThatMet -/
theorem sp56 {G : xk} {S : yS} {d : Nat} (hI : yI S) {t : Int} (h_t : 0 ≤ t ∧ t ≤ 19) (e_FA : FA S) (hd : 1 ≤ d) : yT xPr G LY xC56 0 [some ((2, 17)), some (vi t)] [] S d (fun r S' => ∃ z : Int, r = (1, vi z) ∧ -1 ≤ z ∧ z ≤ 19 ∧ S = S') := by
  refine yT_pad 1 ?_
  show yT xPr G LY xC56 0 [some ((2, 17)), some (vi t), none] [] S d _
  obtain ⟨d, rfl⟩ : ∃ q, d = q + 1 := ⟨d - 1, by omega⟩
  refine r_load (i := 0) (u := 0) (w := 2) rfl rfl rfl ?_
  refine r_getf (i := 1) (v := 9) (w := 3) (x := vi (S.f 17 9)) rfl ly17 rfl rfl fun h1 => ?_
  have h1 : Rg (S.f 17 9) := h1
  refine r_load (i := 2) (u := 1) (w := 0) rfl rfl rfl ?_
  refine r_iushr (i := 3) rfl (by omega) (by omega) ?_
  have h2 := yshr_rg (S.f 17 9) t
  refine r_const (i := 4) (u := 1) (z := 1) rfl rfl ?_
  refine r_iand (i := 5) rfl ?_
  have h3 := @yand_c (yshr (S.f 17 9) t) 1 (by decide) (by decide)
  refine z_ne (i := 6) (v := 9) rfl ⟨by omega, by omega⟩ (fun h4 => ?_) (fun h5 => ?_)
  · refine r_const (i := 9) (u := 0) (z := 0) rfl rfl ?_
    refine r_store (i := 10) (u := 2) (w := 0) (L1 := [some ((2, 17)), some (vi t), some (vi 0)]) rfl rfl rfl rfl ?_
    exact lp56_11 hI h_t  e_FA hd _ 0 ⟨by omega, by omega⟩  (Int.lt_succ_toNat _)
  · refine r_const (i := 7) (u := 4294967295) (z := -1) rfl rfl ?_
    exact r_retI (i := 8) rfl ⟨-1, rfl, by omega, by omega, rfl⟩
theorem lp102_8 {G : xk} {d : Nat} {S0 : yS}  (hd : 1 ≤ d + 1) : ∀ (n : Nat), ∀ (S : yS) (hI : yI S) (hF : yFr [(22, 3)] [23, 24, 25] S0 S) (hR : yRm [] S0 S) (e_FN : FN S) (k : Int) (h_k : 0 ≤ k ∧ k ≤ 24) (q_0 : S.f 22 3 ≤ S.f 17 12) (hn : 24 - k < (n : Nat)), yT xPr G LY xC102 8 [some ((2, 22)), some ((2, 17)), some ((2, 9)), some ((2, 42)), some (vi k), none] [] S (d + 1) (fun r S' => r = (0, (0, 0)) ∧ yI S' ∧ yFr [(22, 3)] [23, 24, 25] S0 S' ∧ yRm [] S0 S') := by
  intro n
  induction n with
  | zero => intro S hI hF hR e_FN k h_k q_0 hn; exact absurd hn (by omega)
  | succ n ih =>
    intro S hI hF hR e_FN k h_k q_0 hn
    have h1 := hI.f tf22_3
    have h2 := hI.f tf17_12
    have h3 : S.f 17 12 = S0.f 17 12 := hF.f rfl
    refine r_load (i := 8) (u := 4) (w := 0) rfl rfl rfl ?_
    refine r_load (i := 9) (u := 0) (w := 2) rfl rfl rfl ?_
    refine r_getf (i := 10) (v := 3) (w := 4) (x := vi (S.f 22 3)) rfl ly22 rfl rfl fun h4 => ?_
    have h4 : Rg (S.f 22 3) := h4
    refine c_ge (i := 11) (v := 42) rfl ⟨by omega, by omega⟩ ⟨by omega, by omega⟩ (fun h5 => ?_) (fun h6 => ?_)
    · exact r_ret0 (i := 42) rfl ⟨rfl,  hI, hF, hR⟩
    · refine r_load (i := 12) (u := 1) (w := 2) rfl rfl rfl ?_
      refine r_getf (i := 13) (v := 5) (w := 3) (x := (2, 21)) rfl ly17 rfl rfl fun _ => ?_
      refine r_load (i := 14) (u := 4) (w := 0) rfl rfl rfl ?_
      refine a_int (i := 15) rfl ly21 rfl (by omega) (by omega) fun h8 => ?_
      have h9 := hI.a ta21 k.toNat
      have h10 : S.a 21 k.toNat = S0.a 21 k.toNat := hF.a rfl _
      have fn9 := e_FN k.toNat (by omega)
      refine r_store (i := 16) (u := 5) (w := 0) (L1 := [some ((2, 22)), some ((2, 17)), some ((2, 9)), some ((2, 42)), some (vi k), some (vi (S.a 21 k.toNat))]) rfl rfl rfl rfl ?_
      refine r_load (i := 17) (u := 0) (w := 2) rfl rfl rfl ?_
      refine r_getf (i := 18) (v := 0) (w := 4) (x := (2, 23)) rfl ly22 rfl rfl fun _ => ?_
      refine r_load (i := 19) (u := 4) (w := 0) rfl rfl rfl ?_
      refine r_load (i := 20) (u := 5) (w := 0) rfl rfl rfl ?_
      refine s_int (i := 21) rfl ly23 rfl (by omega) (by omega) ⟨by omega, by omega⟩ ?_
      have hI13 := hI.seta (b := 23) (j := k.toNat) (z := S.a 21 k.toNat) ta23 rfl (by omega) (by omega)
      have hF15 := hF.seta (b := 23) (j := k.toNat) (z := S.a 21 k.toNat) rfl
      have hR16 := hR.seta (b := 23) (j := k.toNat) (z := S.a 21 k.toNat)
      have e17 := FNx.seta e_FN (b := 23) (j := k.toNat) (z := S.a 21 k.toNat) rfl
      refine yT_gen (fun S12 hS14 => ?_)
      rw [hS14] at hI13 hF15 hR16 e17
      refine r_load (i := 22) (u := 0) (w := 2) rfl rfl rfl ?_
      refine r_getf (i := 23) (v := 1) (w := 4) (x := (2, 24)) rfl ly22 rfl rfl fun _ => ?_
      refine r_load (i := 24) (u := 4) (w := 0) rfl rfl rfl ?_
      refine r_load (i := 25) (u := 3) (w := 2) rfl rfl rfl ?_
      refine r_load (i := 26) (u := 2) (w := 2) rfl rfl rfl ?_
      refine r_getf (i := 27) (v := 2) (w := 2) (x := (2, 11)) rfl ly9 rfl rfl fun _ => ?_
      refine r_load (i := 28) (u := 5) (w := 0) rfl rfl rfl ?_
      refine a_int (i := 29) rfl ly11 rfl (by omega) (by omega) fun h20 => ?_
      have h21 := hI13.a ta11 (S.a 21 k.toNat).toNat
      have h22 : S12.a 11 (S.a 21 k.toNat).toNat = S.a 11 (S.a 21 k.toNat).toNat := by rw [← hS14]; rfl
      have h23 : S.a 11 (S.a 21 k.toNat).toNat = S0.a 11 (S.a 21 k.toNat).toNat := hF.a rfl _
      refine a_int (i := 30) rfl ly42 rfl (by omega) (by omega) fun h24 => ?_
      have h25 := hI13.a ta42 (S12.a 11 (S.a 21 k.toNat).toNat).toNat
      have h26 : S12.a 42 (S12.a 11 (S.a 21 k.toNat).toNat).toNat = S.a 42 (S12.a 11 (S.a 21 k.toNat).toNat).toNat := by rw [← hS14]; rfl
      have h27 : S.a 42 (S12.a 11 (S.a 21 k.toNat).toNat).toNat = S0.a 42 (S12.a 11 (S.a 21 k.toNat).toNat).toNat := hF.a rfl _
      refine s_int (i := 31) rfl ly24 rfl (by omega) (by omega) ⟨by omega, by omega⟩ ?_
      have hI29 := hI13.seta (b := 24) (j := k.toNat) (z := S12.a 42 (S12.a 11 (S.a 21 k.toNat).toNat).toNat) ta24 rfl (by omega) (by omega)
      have hF31 := hF15.seta (b := 24) (j := k.toNat) (z := S12.a 42 (S12.a 11 (S.a 21 k.toNat).toNat).toNat) rfl
      have hR32 := hR16.seta (b := 24) (j := k.toNat) (z := S12.a 42 (S12.a 11 (S.a 21 k.toNat).toNat).toNat)
      have e33 := FNx.seta e17 (b := 24) (j := k.toNat) (z := S12.a 42 (S12.a 11 (S.a 21 k.toNat).toNat).toNat) rfl
      refine yT_gen (fun S28 hS30 => ?_)
      rw [hS30] at hI29 hF31 hR32 e33
      refine r_load (i := 32) (u := 0) (w := 2) rfl rfl rfl ?_
      refine r_getf (i := 33) (v := 2) (w := 4) (x := (2, 25)) rfl ly22 rfl rfl fun _ => ?_
      refine r_load (i := 34) (u := 4) (w := 0) rfl rfl rfl ?_
      refine r_load (i := 35) (u := 2) (w := 2) rfl rfl rfl ?_
      refine r_getf (i := 36) (v := 6) (w := 2) (x := (2, 15)) rfl ly9 rfl rfl fun _ => ?_
      refine r_load (i := 37) (u := 5) (w := 0) rfl rfl rfl ?_
      refine a_int (i := 38) rfl ly15 rfl (by omega) (by omega) fun h36 => ?_
      have h37 := hI29.a ta15 (S.a 21 k.toNat).toNat
      have h38 : S28.a 15 (S.a 21 k.toNat).toNat = S12.a 15 (S.a 21 k.toNat).toNat := by rw [← hS30]; rfl
      have h39 : S12.a 15 (S.a 21 k.toNat).toNat = S.a 15 (S.a 21 k.toNat).toNat := by rw [← hS14]; rfl
      have h40 : S.a 15 (S.a 21 k.toNat).toNat = S0.a 15 (S.a 21 k.toNat).toNat := hF.a rfl _
      refine s_int (i := 39) rfl ly25 rfl (by omega) (by omega) ⟨by omega, by omega⟩ ?_
      have hI42 := hI29.seta (b := 25) (j := k.toNat) (z := S28.a 15 (S.a 21 k.toNat).toNat) ta25 rfl (by omega) (by omega)
      have hF44 := hF31.seta (b := 25) (j := k.toNat) (z := S28.a 15 (S.a 21 k.toNat).toNat) rfl
      have hR45 := hR32.seta (b := 25) (j := k.toNat) (z := S28.a 15 (S.a 21 k.toNat).toNat)
      have e46 := FNx.seta e33 (b := 25) (j := k.toNat) (z := S28.a 15 (S.a 21 k.toNat).toNat) rfl
      refine yT_gen (fun S41 hS43 => ?_)
      rw [hS43] at hI42 hF44 hR45 e46
      refine r_iinc (i := 40) (u := 1) (v := 4) (s := 1) (L1 := [some ((2, 22)), some ((2, 17)), some ((2, 9)), some ((2, 42)), some (vi (k + 1)), some (vi (S.a 21 k.toNat))]) rfl rfl rfl rfl rfl ?_
      refine r_goto (i := 41) (v := 8) rfl ?_
      refine yT_drop (L1 := [some ((2, 22)), some ((2, 17)), some ((2, 9)), some ((2, 42)), some (vi (k + 1)), none]) rfl ?_
      have h47 := hI42.f tf22_3
      have h48 : S41.f 22 3 = S28.f 22 3 := by rw [← hS43]; rfl
      have h49 : S28.f 22 3 = S12.f 22 3 := by rw [← hS30]; rfl
      have h50 : S12.f 22 3 = S.f 22 3 := by rw [← hS14]; rfl
      have h51 := hI42.f tf17_12
      have h52 : S41.f 17 12 = S28.f 17 12 := by rw [← hS43]; rfl
      have h53 : S28.f 17 12 = S12.f 17 12 := by rw [← hS30]; rfl
      have h54 : S12.f 17 12 = S.f 17 12 := by rw [← hS14]; rfl
      have h55 : S.f 17 12 = S0.f 17 12 := hF.f rfl
      exact ih S41 hI42 hF44 hR45 e46 (k + 1) ⟨by omega, by omega⟩ (by omega) (by omega)
/-- ProxyForge$Proxy.take -/
theorem sp102 {G : xk} {S : yS} {d : Nat} (hI : yI S) (e_FN : FN S) (hd : 1 ≤ d) : yT xPr G LY xC102 0 [some ((2, 22)), some ((2, 17)), some ((2, 9)), some ((2, 42))] [] S d (fun r S' => r = (0, (0, 0)) ∧ yI S' ∧ yFr [(22, 3)] [23, 24, 25] S S' ∧ yRm [] S S') := by
  refine yT_pad 2 ?_
  show yT xPr G LY xC102 0 [some ((2, 22)), some ((2, 17)), some ((2, 9)), some ((2, 42)), none, none] [] S d _
  obtain ⟨d, rfl⟩ : ∃ q, d = q + 1 := ⟨d - 1, by omega⟩
  have hF : yFr [(22, 3)] [23, 24, 25] S S := yFr.refl S
  have hR : yRm [] S S := yRm.refl S
  refine r_load (i := 0) (u := 0) (w := 2) rfl rfl rfl ?_
  refine r_load (i := 1) (u := 1) (w := 2) rfl rfl rfl ?_
  have h1 := hI.f tf17_12
  refine r_getf (i := 2) (v := 12) (w := 3) (x := vi (S.f 17 12)) rfl ly17 rfl rfl fun h2 => ?_
  have h2 : Rg (S.f 17 12) := h2
  refine r_const (i := 3) (u := 24) (z := 24) rfl rfl ?_
  refine r_call (i := 4) (u := 65535) (v := 270) (w := 0) (b := 2) (na := 514) (C2 := xC270) (as := [vi (S.f 17 12), vi 24]) (s := [(2, 22)]) rfl rfl rfl rfl rfl rfl rfl (sp270 (x := S.f 17 12) (y := 24)  ⟨by omega, by omega⟩ ⟨by omega, by omega⟩   (by omega)) (fun r3 S4 hq5 => ?_)
  obtain ⟨z6, rfl, h7, h8, h9, h10, rfl⟩ := hq5
  refine Or.inr (Or.inl ⟨rfl, ?_⟩)
  refine r_putI (i := 5) (v := 3) (w := 4) rfl ly22 rfl ⟨by omega, by omega⟩ ?_
  have hI12 := hI.setf (b := 22) (w := 3) (z := z6) tf22_3 rfl (by omega) (by omega)
  have hF14 := hF.setf (b := 22) (w := 3) (z := z6) rfl
  have hR15 := hR.setf (b := 22) (w := 3) (z := z6)
  have e16 := FNx.setf e_FN (b := 22) (w := 3) (z := z6) rfl
  refine yT_gen (fun S11 hS13 => ?_)
  rw [hS13] at hI12 hF14 hR15 e16
  refine r_const (i := 6) (u := 0) (z := 0) rfl rfl ?_
  refine r_store (i := 7) (u := 4) (w := 0) (L1 := [some ((2, 22)), some ((2, 17)), some ((2, 9)), some ((2, 42)), some (vi 0), none]) rfl rfl rfl rfl ?_
  have h17 := hI12.f tf22_3
  have h18 : S11.f 22 3 = z6 := by rw [← hS13]; exact ysf_eq
  have h19 := hI12.f tf17_12
  have h20 : S11.f 17 12 = S.f 17 12 := by rw [← hS13]; exact ysf_ne (by decide)
  exact lp102_8   hd _ S11 hI12 hF14 hR15 e16 0 ⟨by omega, by omega⟩ (by omega) (Int.lt_succ_toNat _)
theorem lp60_37 {G : xk} {d : Nat} {S0 : yS} {f : Int} (h_f : 0 ≤ f ∧ f ≤ 19) {dp : Int} (h_dp : 0 ≤ dp ∧ dp ≤ 20) (hd : 22 - dp ≤ ((d + 1 : Nat) : Int)) (nR : Nat) (R : ∀ {S : yS} {d : Nat} (hI : yI S) {f : Int} (h_f : 0 ≤ f ∧ f ≤ 19) {dp : Int} (h_dp : 0 ≤ dp ∧ dp ≤ 20) (hd : 22 - dp ≤ (d : Int)) (hr : 20 - dp < (nR : Int)), yT xPr G LY xC60 0 [some ((2, 17)), some (vi f), some (vi dp)] [] S d  (fun r S' => r = (0, (0, 0)) ∧ yI S' ∧ yFr [(17, 8), (17, 10)] [19] S S' ∧ yRm [] S S')) (hr : 20 - dp < ((nR + 1 : Nat) : Int)) : ∀ (n : Nat), ∀ (S : yS) (hI : yI S) (hF : yFr [(17, 8), (17, 10)] [19] S0 S) (hR : yRm [] S0 S) (j : Int) (h_j : 0 ≤ j ∧ j ≤ 4) (q_0 : dp ≤ 19) (hn : 4 - j < (n : Nat)), yT xPr G LY xC60 37 [some ((2, 17)), some (vi f), some (vi dp), some (vi j)] [] S (d + 1) (fun r S' => r = (0, (0, 0)) ∧ yI S' ∧ yFr [(17, 8), (17, 10)] [19] S0 S' ∧ yRm [] S0 S') := by
  intro n
  induction n with
  | zero => intro S hI hF hR j h_j q_0 hn; exact absurd hn (by omega)
  | succ n ih =>
    intro S hI hF hR j h_j q_0 hn
    refine r_load (i := 37) (u := 3) (w := 0) rfl rfl rfl ?_
    refine r_load (i := 38) (u := 0) (w := 2) rfl rfl rfl ?_
    refine r_getf (i := 39) (v := 0) (w := 3) (x := (2, 1)) rfl ly17 rfl rfl fun _ => ?_
    refine r_getf (i := 40) (v := 5) (w := 1) (x := (2, 7)) rfl ly1 rfl rfl fun _ => ?_
    refine r_load (i := 41) (u := 1) (w := 0) rfl rfl rfl ?_
    refine a_int (i := 42) rfl ly7 rfl (by omega) (by omega) fun h3 => ?_
    have h4 := hI.a ta7 f.toNat
    have h5 : S.a 7 f.toNat = S0.a 7 f.toNat := hF.a rfl _
    refine c_ge (i := 43) (v := 56) rfl ⟨by omega, by omega⟩ ⟨by omega, by omega⟩ (fun h6 => ?_) (fun h7 => ?_)
    · exact r_ret0 (i := 56) rfl ⟨rfl,  hI, hF, hR⟩
    · refine r_load (i := 44) (u := 0) (w := 2) rfl rfl rfl ?_
      refine r_load (i := 45) (u := 0) (w := 2) rfl rfl rfl ?_
      refine r_getf (i := 46) (v := 0) (w := 3) (x := (2, 1)) rfl ly17 rfl rfl fun _ => ?_
      refine r_load (i := 47) (u := 1) (w := 0) rfl rfl rfl ?_
      refine r_load (i := 48) (u := 3) (w := 0) rfl rfl rfl ?_
      refine r_call (i := 49) (u := 1) (v := 130) (w := 0) (b := 0) (na := 771) (C2 := xC130) (as := [(2, 1), vi f, vi j]) (s := [(2, 17)]) rfl rfl rfl rfl rfl rfl rfl (sp130 (t := f) (k := j) hI ⟨by omega, by omega⟩ ⟨by omega, by omega⟩   (by omega)) (fun r9 S10 hq11 => ?_)
      obtain ⟨z12, rfl, h13, h14, h15, rfl⟩ := hq11
      refine Or.inr (Or.inl ⟨rfl, ?_⟩)
      refine r_load (i := 50) (u := 2) (w := 0) rfl rfl rfl ?_
      refine r_const (i := 51) (u := 1) (z := 1) rfl rfl ?_
      refine r_iadd (i := 52) rfl ?_
      refine r_call (i := 53) (u := 3) (v := 60) (w := 0) (b := 0) (na := 1027) (C2 := xC60) (as := [(2, 17), vi z12, vi (dp + 1)]) (s := []) rfl rfl rfl rfl rfl rfl rfl (R (f := z12) (dp := dp + 1) hI ⟨by omega, by omega⟩ ⟨by omega, by omega⟩   (by omega) (by omega)) (fun r16 S17 hq18 => ?_)
      obtain ⟨rfl, hI19, hF20, hR21⟩ := hq18
      have hF22 := hF.trans hF20 rfl rfl
      have hR23 := hR.trans hR21 rfl
      refine Or.inl ⟨rfl, ?_⟩
      refine r_iinc (i := 54) (u := 1) (v := 3) (s := 1) (L1 := [some ((2, 17)), some (vi f), some (vi dp), some (vi (j + 1))]) rfl rfl rfl rfl rfl ?_
      refine r_goto (i := 55) (v := 37) rfl ?_
      exact ih S17 hI19 hF22 hR23 (j + 1) ⟨by omega, by omega⟩ (by omega) (by omega)
/-- ProxyForge$Collector.meet -/
theorem sp60_r {G : xk} : ∀ (nR : Nat) {S : yS} {d : Nat} (hI : yI S) {f : Int} (h_f : 0 ≤ f ∧ f ≤ 19) {dp : Int} (h_dp : 0 ≤ dp ∧ dp ≤ 20) (hd : 22 - dp ≤ (d : Int)) (hr : 20 - dp < (nR : Int)), yT xPr G LY xC60 0 [some ((2, 17)), some (vi f), some (vi dp)] [] S d (fun r S' => r = (0, (0, 0)) ∧ yI S' ∧ yFr [(17, 8), (17, 10)] [19] S S' ∧ yRm [] S S') := by
  intro nR
  induction nR with
  | zero => intro S d hI f h_f dp h_dp  hd hr; exact absurd hr (by omega)
  | succ nR R =>
  intro S d hI f h_f dp h_dp  hd hr
  refine yT_pad 1 ?_
  show yT xPr G LY xC60 0 [some ((2, 17)), some (vi f), some (vi dp), none] [] S d _
  obtain ⟨d, rfl⟩ : ∃ q, d = q + 1 := ⟨d - 1, by omega⟩
  have hF : yFr [(17, 8), (17, 10)] [19] S S := yFr.refl S
  have hR : yRm [] S S := yRm.refl S
  refine r_load (i := 0) (u := 0) (w := 2) rfl rfl rfl ?_
  refine r_getf (i := 1) (v := 8) (w := 3) (x := vi (S.f 17 8)) rfl ly17 rfl rfl fun h1 => ?_
  have h1 : Rg (S.f 17 8) := h1
  refine r_load (i := 2) (u := 1) (w := 0) rfl rfl rfl ?_
  refine r_iushr (i := 3) rfl (by omega) (by omega) ?_
  have h2 := yshr_rg (S.f 17 8) f
  refine r_const (i := 4) (u := 1) (z := 1) rfl rfl ?_
  refine r_iand (i := 5) rfl ?_
  have h3 := @yand_c (yshr (S.f 17 8) f) 1 (by decide) (by decide)
  refine z_ne (i := 6) (v := 14) rfl ⟨by omega, by omega⟩ (fun h4 => ?_) (fun h5 => ?_)
  · exact r_ret0 (i := 14) rfl ⟨rfl,  hI, hF, hR⟩
  · refine r_load (i := 7) (u := 2) (w := 0) rfl rfl rfl ?_
    refine r_const (i := 8) (u := 20) (z := 20) rfl rfl ?_
    refine c_ge (i := 9) (v := 14) rfl ⟨by omega, by omega⟩ ⟨by omega, by omega⟩ (fun h6 => ?_) (fun h7 => ?_)
    · exact r_ret0 (i := 14) rfl ⟨rfl,  hI, hF, hR⟩
    · refine r_load (i := 10) (u := 0) (w := 2) rfl rfl rfl ?_
      have h8 := hI.f tf17_10
      refine r_getf (i := 11) (v := 10) (w := 3) (x := vi (S.f 17 10)) rfl ly17 rfl rfl fun h9 => ?_
      have h9 : Rg (S.f 17 10) := h9
      refine r_const (i := 12) (u := 20) (z := 20) rfl rfl ?_
      refine c_lt (i := 13) (v := 15) rfl ⟨by omega, by omega⟩ ⟨by omega, by omega⟩ (fun h10 => ?_) (fun h11 => ?_)
      · refine r_load (i := 15) (u := 0) (w := 2) rfl rfl rfl ?_
        refine r_dup (i := 16) rfl rfl ?_
        refine r_getf (i := 17) (v := 8) (w := 3) (x := vi (S.f 17 8)) rfl ly17 rfl rfl fun h12 => ?_
        have h12 : Rg (S.f 17 8) := h12
        refine r_const (i := 18) (u := 1) (z := 1) rfl rfl ?_
        refine r_load (i := 19) (u := 1) (w := 0) rfl rfl rfl ?_
        refine r_shl1 (i := 20) rfl (by omega) (by omega) fun h13 => ?_
        refine r_ior (i := 21) rfl ?_
        have h14 := yor_rg (S.f 17 8) (yshl 1 f)
        refine r_putI (i := 22) (v := 8) (w := 3) rfl ly17 rfl ⟨by omega, by omega⟩ ?_
        have hI16 := hI.setf0 (b := 17) (w := 8) (z := yor (S.f 17 8) (yshl 1 f)) rfl rfl
        have hF18 := hF.setf (b := 17) (w := 8) (z := yor (S.f 17 8) (yshl 1 f)) rfl
        have hR19 := hR.setf (b := 17) (w := 8) (z := yor (S.f 17 8) (yshl 1 f))
        refine yT_gen (fun S15 hS17 => ?_)
        rw [hS17] at hI16 hF18 hR19 
        refine r_load (i := 23) (u := 0) (w := 2) rfl rfl rfl ?_
        refine r_getf (i := 24) (v := 3) (w := 3) (x := (2, 19)) rfl ly17 rfl rfl fun _ => ?_
        refine r_load (i := 25) (u := 0) (w := 2) rfl rfl rfl ?_
        have h21 := hI16.f tf17_10
        have h22 : S15.f 17 10 = S.f 17 10 := by rw [← hS17]; exact ysf_ne (by decide)
        refine r_getf (i := 26) (v := 10) (w := 3) (x := vi (S15.f 17 10)) rfl ly17 rfl rfl fun h23 => ?_
        have h23 : Rg (S15.f 17 10) := h23
        refine r_load (i := 27) (u := 1) (w := 0) rfl rfl rfl ?_
        refine s_int (i := 28) rfl ly19 rfl (by omega) (by omega) ⟨by omega, by omega⟩ ?_
        have hI25 := hI16.seta (b := 19) (j := (S15.f 17 10).toNat) (z := f) ta19 rfl (by omega) (by omega)
        have hF27 := hF18.seta (b := 19) (j := (S15.f 17 10).toNat) (z := f) rfl
        have hR28 := hR19.seta (b := 19) (j := (S15.f 17 10).toNat) (z := f)
        refine yT_gen (fun S24 hS26 => ?_)
        rw [hS26] at hI25 hF27 hR28 
        refine r_load (i := 29) (u := 0) (w := 2) rfl rfl rfl ?_
        refine r_dup (i := 30) rfl rfl ?_
        have h29 := hI25.f tf17_10
        have h30 : S24.f 17 10 = S15.f 17 10 := by rw [← hS26]; rfl
        have h31 : S15.f 17 10 = S.f 17 10 := by rw [← hS17]; exact ysf_ne (by decide)
        refine r_getf (i := 31) (v := 10) (w := 3) (x := vi (S24.f 17 10)) rfl ly17 rfl rfl fun h32 => ?_
        have h32 : Rg (S24.f 17 10) := h32
        refine r_const (i := 32) (u := 1) (z := 1) rfl rfl ?_
        refine r_iadd (i := 33) rfl ?_
        refine r_putI (i := 34) (v := 10) (w := 3) rfl ly17 rfl ⟨by omega, by omega⟩ ?_
        have hI34 := hI25.setf (b := 17) (w := 10) (z := (S24.f 17 10) + 1) tf17_10 rfl (by omega) (by omega)
        have hF36 := hF27.setf (b := 17) (w := 10) (z := (S24.f 17 10) + 1) rfl
        have hR37 := hR28.setf (b := 17) (w := 10) (z := (S24.f 17 10) + 1)
        refine yT_gen (fun S33 hS35 => ?_)
        rw [hS35] at hI34 hF36 hR37 
        refine r_const (i := 35) (u := 0) (z := 0) rfl rfl ?_
        refine r_store (i := 36) (u := 3) (w := 0) (L1 := [some ((2, 17)), some (vi f), some (vi dp), some (vi 0)]) rfl rfl rfl rfl ?_
        exact lp60_37 h_f h_dp  hd nR R hr _ S33 hI34 hF36 hR37 0 ⟨by omega, by omega⟩ (by omega) (Int.lt_succ_toNat _)
      · exact r_ret0 (i := 14) rfl ⟨rfl,  hI, hF, hR⟩
theorem sp60 {G : xk} {S : yS} {d : Nat} (hI : yI S) {f : Int} (h_f : 0 ≤ f ∧ f ≤ 19) {dp : Int} (h_dp : 0 ≤ dp ∧ dp ≤ 20) (hd : 22 ≤ d) : yT xPr G LY xC60 0 [some ((2, 17)), some (vi f), some (vi dp)] [] S d (fun r S' => r = (0, (0, 0)) ∧ yI S' ∧ yFr [(17, 8), (17, 10)] [19] S S' ∧ yRm [] S S') := sp60_r _ hI h_f h_dp  (by omega) (Int.lt_succ_toNat _)
theorem lp61_45 {G : xk} {d : Nat} {S0 : yS}  (hd : 23 ≤ d + 1) {cl : Int} (h_cl : 0 ≤ cl ∧ cl ≤ 20) {k : Int} (h_k : 0 ≤ k ∧ k ≤ 19) (no : Nat) (K : ∀ (S : yS) (hI : yI S) (hF : yFr [(17, 8), (17, 9), (17, 10)] [19] S0 S) (hR : yRm [] S0 S) (e_FA : FA S) (cl k : Int) (h_cl : 0 ≤ cl ∧ cl ≤ 20) (h_k : 0 ≤ k ∧ k ≤ 20) (hn : 20 - k < (no : Nat)), yT xPr G LY xC61 40 [some ((2, 17)), some (vi cl), some (vi k), none] [] S (d + 1) (fun r S' => r = (0, (0, 0)) ∧ FA S' ∧ yI S' ∧ yFr [(17, 8), (17, 9), (17, 10)] [19] S0 S' ∧ yRm [] S0 S')) (hm : 20 - k < ((no + 1 : Nat) : Int)) : ∀ (n : Nat), ∀ (S : yS) (hI : yI S) (hF : yFr [(17, 8), (17, 9), (17, 10)] [19] S0 S) (hR : yRm [] S0 S) (e_FA : FA S) (j : Int) (h_j : 0 ≤ j ∧ j ≤ 4) (hn : 4 - j < (n : Nat)), yT xPr G LY xC61 45 [some ((2, 17)), some (vi cl), some (vi k), some (vi j)] [] S (d + 1) (fun r S' => r = (0, (0, 0)) ∧ FA S' ∧ yI S' ∧ yFr [(17, 8), (17, 9), (17, 10)] [19] S0 S' ∧ yRm [] S0 S') := by
  intro n
  induction n with
  | zero => intro S hI hF hR e_FA j h_j hn; exact absurd hn (by omega)
  | succ n ih =>
    intro S hI hF hR e_FA j h_j hn
    refine r_load (i := 45) (u := 3) (w := 0) rfl rfl rfl ?_
    refine r_load (i := 46) (u := 0) (w := 2) rfl rfl rfl ?_
    refine r_getf (i := 47) (v := 0) (w := 3) (x := (2, 1)) rfl ly17 rfl rfl fun _ => ?_
    refine r_getf (i := 48) (v := 5) (w := 1) (x := (2, 7)) rfl ly1 rfl rfl fun _ => ?_
    refine r_load (i := 49) (u := 0) (w := 2) rfl rfl rfl ?_
    refine r_getf (i := 50) (v := 3) (w := 3) (x := (2, 19)) rfl ly17 rfl rfl fun _ => ?_
    refine r_load (i := 51) (u := 2) (w := 0) rfl rfl rfl ?_
    refine a_int (i := 52) rfl ly19 rfl (by omega) (by omega) fun h4 => ?_
    have h5 := hI.a ta19 k.toNat
    refine a_int (i := 53) rfl ly7 rfl (by omega) (by omega) fun h6 => ?_
    have h7 := hI.a ta7 (S.a 19 k.toNat).toNat
    have h8 : S.a 7 (S.a 19 k.toNat).toNat = S0.a 7 (S.a 19 k.toNat).toNat := hF.a rfl _
    refine c_ge (i := 54) (v := 68) rfl ⟨by omega, by omega⟩ ⟨by omega, by omega⟩ (fun h9 => ?_) (fun h10 => ?_)
    · refine r_iinc (i := 68) (u := 1) (v := 2) (s := 1) (L1 := [some ((2, 17)), some (vi cl), some (vi (k + 1)), some (vi j)]) rfl rfl rfl rfl rfl ?_
      refine r_goto (i := 69) (v := 40) rfl ?_
      refine yT_drop (L1 := [some ((2, 17)), some (vi cl), some (vi (k + 1)), none]) rfl ?_
      exact K S hI hF hR e_FA cl (k + 1) ⟨by omega, by omega⟩ ⟨by omega, by omega⟩  (by omega)
    · refine r_load (i := 55) (u := 0) (w := 2) rfl rfl rfl ?_
      refine r_load (i := 56) (u := 0) (w := 2) rfl rfl rfl ?_
      refine r_getf (i := 57) (v := 0) (w := 3) (x := (2, 1)) rfl ly17 rfl rfl fun _ => ?_
      refine r_load (i := 58) (u := 0) (w := 2) rfl rfl rfl ?_
      refine r_getf (i := 59) (v := 3) (w := 3) (x := (2, 19)) rfl ly17 rfl rfl fun _ => ?_
      refine r_load (i := 60) (u := 2) (w := 0) rfl rfl rfl ?_
      refine a_int (i := 61) rfl ly19 rfl (by omega) (by omega) fun h13 => ?_
      have h14 := hI.a ta19 k.toNat
      refine r_load (i := 62) (u := 3) (w := 0) rfl rfl rfl ?_
      refine r_call (i := 63) (u := 1) (v := 130) (w := 0) (b := 0) (na := 771) (C2 := xC130) (as := [(2, 1), vi (S.a 19 k.toNat), vi j]) (s := [(2, 17)]) rfl rfl rfl rfl rfl rfl rfl (sp130 (t := S.a 19 k.toNat) (k := j) hI ⟨by omega, by omega⟩ ⟨by omega, by omega⟩   (by omega)) (fun r15 S16 hq17 => ?_)
      obtain ⟨z18, rfl, h19, h20, h21, rfl⟩ := hq17
      refine Or.inr (Or.inl ⟨rfl, ?_⟩)
      refine r_const (i := 64) (u := 0) (z := 0) rfl rfl ?_
      refine r_call (i := 65) (u := 3) (v := 60) (w := 0) (b := 0) (na := 1027) (C2 := xC60) (as := [(2, 17), vi z18, vi 0]) (s := []) rfl rfl rfl rfl rfl rfl rfl (sp60 (f := z18) (dp := 0) hI ⟨by omega, by omega⟩ ⟨by omega, by omega⟩   (by omega)) (fun r22 S23 hq24 => ?_)
      obtain ⟨rfl, hI25, hF26, hR27⟩ := hq24
      have hF28 := hF.trans hF26 rfl rfl
      have hR29 := hR.trans hR27 rfl
      have e30 := FAx.fr e_FA hF26 rfl rfl
      refine Or.inl ⟨rfl, ?_⟩
      refine r_iinc (i := 66) (u := 1) (v := 3) (s := 1) (L1 := [some ((2, 17)), some (vi cl), some (vi k), some (vi (j + 1))]) rfl rfl rfl rfl rfl ?_
      refine r_goto (i := 67) (v := 45) rfl ?_
      exact ih S23 hI25 hF28 hR29 e30 (j + 1) ⟨by omega, by omega⟩  (by omega)
theorem lp61_75 {G : xk} {d : Nat} {S0 : yS}  (hd : 23 ≤ d + 1) : ∀ (n : Nat), ∀ (S : yS) (hI : yI S) (hF : yFr [(17, 8), (17, 9), (17, 10)] [19] S0 S) (hR : yRm [] S0 S) (e_FA : FA S) (mt j : Int) (h_mt : -2147483648 ≤ mt ∧ mt ≤ 2147483647) (h_j : 0 ≤ j ∧ j ≤ 3) (hn : 3 - j < (n : Nat)), yT xPr G LY xC61 75 [some ((2, 17)), none, some (vi mt), some (vi j)] [] S (d + 1) (fun r S' => r = (0, (0, 0)) ∧ FA S' ∧ yI S' ∧ yFr [(17, 8), (17, 9), (17, 10)] [19] S0 S' ∧ yRm [] S0 S') := by
  intro n
  induction n with
  | zero => intro S hI hF hR e_FA mt j h_mt h_j hn; exact absurd hn (by omega)
  | succ n ih =>
    intro S hI hF hR e_FA mt j h_mt h_j hn
    refine r_load (i := 75) (u := 3) (w := 0) rfl rfl rfl ?_
    refine r_load (i := 76) (u := 0) (w := 2) rfl rfl rfl ?_
    have h1 := hI.f tf17_7
    have h2 : S.f 17 7 = S0.f 17 7 := hF.f rfl
    refine r_getf (i := 77) (v := 7) (w := 3) (x := vi (S.f 17 7)) rfl ly17 rfl rfl fun h3 => ?_
    have h3 : Rg (S.f 17 7) := h3
    refine c_ge (i := 78) (v := 88) rfl ⟨by omega, by omega⟩ ⟨by omega, by omega⟩ (fun h4 => ?_) (fun h5 => ?_)
    · refine r_load (i := 88) (u := 0) (w := 2) rfl rfl rfl ?_
      refine r_load (i := 89) (u := 0) (w := 2) rfl rfl rfl ?_
      refine r_getf (i := 90) (v := 8) (w := 3) (x := vi (S.f 17 8)) rfl ly17 rfl rfl fun h6 => ?_
      have h6 : Rg (S.f 17 8) := h6
      refine r_load (i := 91) (u := 2) (w := 0) rfl rfl rfl ?_
      refine r_const (i := 92) (u := 4294967295) (z := -1) rfl rfl ?_
      refine r_ixor (i := 93) rfl ?_
      have h7 := yxor_rg mt (-1)
      refine r_iand (i := 94) rfl ?_
      have h8 := yand_rg (S.f 17 8) (yxor mt (-1))
      refine r_putI (i := 95) (v := 9) (w := 3) rfl ly17 rfl ⟨by omega, by omega⟩ ?_
      have hI10 := hI.setf0 (b := 17) (w := 9) (z := yand (S.f 17 8) (yxor mt (-1))) rfl rfl
      have hF12 := hF.setf (b := 17) (w := 9) (z := yand (S.f 17 8) (yxor mt (-1))) rfl
      have hR13 := hR.setf (b := 17) (w := 9) (z := yand (S.f 17 8) (yxor mt (-1)))
      have e14 := FAx.setf e_FA (b := 17) (w := 9) (z := yand (S.f 17 8) (yxor mt (-1))) rfl
      refine yT_gen (fun S9 hS11 => ?_)
      rw [hS11] at hI10 hF12 hR13 e14
      exact r_ret0 (i := 96) rfl ⟨rfl,  e14, hI10, hF12, hR13⟩
    · refine r_load (i := 79) (u := 0) (w := 2) rfl rfl rfl ?_
      refine r_load (i := 80) (u := 0) (w := 2) rfl rfl rfl ?_
      refine r_getf (i := 81) (v := 2) (w := 3) (x := (2, 18)) rfl ly17 rfl rfl fun _ => ?_
      refine r_load (i := 82) (u := 3) (w := 0) rfl rfl rfl ?_
      refine a_int (i := 83) rfl ly18 rfl (by omega) (by omega) fun h16 => ?_
      have h17 := hI.a ta18 j.toNat
      have h18 : S.a 18 j.toNat = S0.a 18 j.toNat := hF.a rfl _
      refine r_const (i := 84) (u := 0) (z := 0) rfl rfl ?_
      have fa9 := e_FA j.toNat (by omega)
      refine r_call (i := 85) (u := 3) (v := 60) (w := 0) (b := 0) (na := 1027) (C2 := xC60) (as := [(2, 17), vi (S.a 18 j.toNat), vi 0]) (s := []) rfl rfl rfl rfl rfl rfl rfl (sp60 (f := S.a 18 j.toNat) (dp := 0) hI ⟨by omega, by omega⟩ ⟨by omega, by omega⟩   (by omega)) (fun r19 S20 hq21 => ?_)
      obtain ⟨rfl, hI22, hF23, hR24⟩ := hq21
      have hF25 := hF.trans hF23 rfl rfl
      have hR26 := hR.trans hR24 rfl
      have e27 := FAx.fr e_FA hF23 rfl rfl
      refine Or.inl ⟨rfl, ?_⟩
      refine r_iinc (i := 86) (u := 1) (v := 3) (s := 1) (L1 := [some ((2, 17)), none, some (vi mt), some (vi (j + 1))]) rfl rfl rfl rfl rfl ?_
      refine r_goto (i := 87) (v := 75) rfl ?_
      exact ih S20 hI22 hF25 hR26 e27 mt (j + 1) ⟨by omega, by omega⟩ ⟨by omega, by omega⟩  (by omega)
theorem lp61_40 {G : xk} {d : Nat} {S0 : yS}  (hd : 23 ≤ d + 1) : ∀ (n : Nat), ∀ (S : yS) (hI : yI S) (hF : yFr [(17, 8), (17, 9), (17, 10)] [19] S0 S) (hR : yRm [] S0 S) (e_FA : FA S) (cl k : Int) (h_cl : 0 ≤ cl ∧ cl ≤ 20) (h_k : 0 ≤ k ∧ k ≤ 20) (hn : 20 - k < (n : Nat)), yT xPr G LY xC61 40 [some ((2, 17)), some (vi cl), some (vi k), none] [] S (d + 1) (fun r S' => r = (0, (0, 0)) ∧ FA S' ∧ yI S' ∧ yFr [(17, 8), (17, 9), (17, 10)] [19] S0 S' ∧ yRm [] S0 S') := by
  intro n
  induction n with
  | zero => intro S hI hF hR e_FA cl k h_cl h_k hn; exact absurd hn (by omega)
  | succ n ih =>
    intro S hI hF hR e_FA cl k h_cl h_k hn
    refine r_load (i := 40) (u := 2) (w := 0) rfl rfl rfl ?_
    refine r_load (i := 41) (u := 1) (w := 0) rfl rfl rfl ?_
    refine c_ge (i := 42) (v := 70) rfl ⟨by omega, by omega⟩ ⟨by omega, by omega⟩ (fun h1 => ?_) (fun h2 => ?_)
    · refine r_load (i := 70) (u := 0) (w := 2) rfl rfl rfl ?_
      refine r_getf (i := 71) (v := 8) (w := 3) (x := vi (S.f 17 8)) rfl ly17 rfl rfl fun h3 => ?_
      have h3 : Rg (S.f 17 8) := h3
      refine r_store (i := 72) (u := 2) (w := 0) (L1 := [some ((2, 17)), some (vi cl), some (vi (S.f 17 8)), none]) rfl rfl rfl rfl ?_
      refine r_const (i := 73) (u := 0) (z := 0) rfl rfl ?_
      refine r_store (i := 74) (u := 3) (w := 0) (L1 := [some ((2, 17)), some (vi cl), some (vi (S.f 17 8)), some (vi 0)]) rfl rfl rfl rfl ?_
      refine yT_drop (L1 := [some ((2, 17)), none, some (vi (S.f 17 8)), some (vi 0)]) rfl ?_
      exact lp61_75   hd _ S hI hF hR e_FA (S.f 17 8) 0 ⟨by omega, by omega⟩ ⟨by omega, by omega⟩  (Int.lt_succ_toNat _)
    · refine r_const (i := 43) (u := 0) (z := 0) rfl rfl ?_
      refine r_store (i := 44) (u := 3) (w := 0) (L1 := [some ((2, 17)), some (vi cl), some (vi k), some (vi 0)]) rfl rfl rfl rfl ?_
      exact lp61_45   hd (cl := cl) (k := k) ⟨by omega, by omega⟩ ⟨by omega, by omega⟩ n ih (by omega) _ S hI hF hR e_FA 0 ⟨by omega, by omega⟩  (Int.lt_succ_toNat _)
theorem lp61_9 {G : xk} {d : Nat} {S0 : yS}  (hd : 23 ≤ d + 1) : ∀ (n : Nat), ∀ (S : yS) (hI : yI S) (hF : yFr [(17, 8), (17, 9), (17, 10)] [19] S0 S) (hR : yRm [] S0 S) (e_FA : FA S) (t : Int) (h_t : -1 ≤ t ∧ t ≤ 19) (hn : 20 - S.f 17 10 < (n : Nat)), yT xPr G LY xC61 9 [some ((2, 17)), some (vi t), none, none] [] S (d + 1) (fun r S' => r = (0, (0, 0)) ∧ FA S' ∧ yI S' ∧ yFr [(17, 8), (17, 9), (17, 10)] [19] S0 S' ∧ yRm [] S0 S') := by
  intro n
  induction n with
  | zero => intro S hI hF hR e_FA t h_t hn; have hz0 := hI.f tf17_10; exact absurd hn (by omega)
  | succ n ih =>
    intro S hI hF hR e_FA t h_t hn
    have h1 := hI.f tf17_10
    refine r_load (i := 9) (u := 1) (w := 0) rfl rfl rfl ?_
    refine r_const (i := 10) (u := 4294967295) (z := -1) rfl rfl ?_
    refine c_eq (i := 11) (v := 35) rfl ⟨by omega, by omega⟩ ⟨by omega, by omega⟩ (fun h2 => ?_) (fun h3 => ?_)
    · refine r_load (i := 35) (u := 0) (w := 2) rfl rfl rfl ?_
      refine r_getf (i := 36) (v := 10) (w := 3) (x := vi (S.f 17 10)) rfl ly17 rfl rfl fun h4 => ?_
      have h4 : Rg (S.f 17 10) := h4
      refine r_store (i := 37) (u := 1) (w := 0) (L1 := [some ((2, 17)), some (vi (S.f 17 10)), none, none]) rfl rfl rfl rfl ?_
      refine r_const (i := 38) (u := 0) (z := 0) rfl rfl ?_
      refine r_store (i := 39) (u := 2) (w := 0) (L1 := [some ((2, 17)), some (vi (S.f 17 10)), some (vi 0), none]) rfl rfl rfl rfl ?_
      exact lp61_40   hd _ S hI hF hR e_FA (S.f 17 10) 0 ⟨by omega, by omega⟩ ⟨by omega, by omega⟩  (Int.lt_succ_toNat _)
    · refine r_load (i := 12) (u := 0) (w := 2) rfl rfl rfl ?_
      refine r_getf (i := 13) (v := 10) (w := 3) (x := vi (S.f 17 10)) rfl ly17 rfl rfl fun h5 => ?_
      have h5 : Rg (S.f 17 10) := h5
      refine r_const (i := 14) (u := 20) (z := 20) rfl rfl ?_
      refine c_ge (i := 15) (v := 35) rfl ⟨by omega, by omega⟩ ⟨by omega, by omega⟩ (fun h6 => ?_) (fun h7 => ?_)
      · refine r_load (i := 35) (u := 0) (w := 2) rfl rfl rfl ?_
        refine r_getf (i := 36) (v := 10) (w := 3) (x := vi (S.f 17 10)) rfl ly17 rfl rfl fun h8 => ?_
        have h8 : Rg (S.f 17 10) := h8
        refine r_store (i := 37) (u := 1) (w := 0) (L1 := [some ((2, 17)), some (vi (S.f 17 10)), none, none]) rfl rfl rfl rfl ?_
        refine r_const (i := 38) (u := 0) (z := 0) rfl rfl ?_
        refine r_store (i := 39) (u := 2) (w := 0) (L1 := [some ((2, 17)), some (vi (S.f 17 10)), some (vi 0), none]) rfl rfl rfl rfl ?_
        exact lp61_40   hd _ S hI hF hR e_FA (S.f 17 10) 0 ⟨by omega, by omega⟩ ⟨by omega, by omega⟩  (Int.lt_succ_toNat _)
      · refine r_load (i := 16) (u := 0) (w := 2) rfl rfl rfl ?_
        refine r_getf (i := 17) (v := 3) (w := 3) (x := (2, 19)) rfl ly17 rfl rfl fun _ => ?_
        refine r_load (i := 18) (u := 0) (w := 2) rfl rfl rfl ?_
        refine r_getf (i := 19) (v := 10) (w := 3) (x := vi (S.f 17 10)) rfl ly17 rfl rfl fun h10 => ?_
        have h10 : Rg (S.f 17 10) := h10
        refine r_load (i := 20) (u := 1) (w := 0) rfl rfl rfl ?_
        refine s_int (i := 21) rfl ly19 rfl (by omega) (by omega) ⟨by omega, by omega⟩ ?_
        have hI12 := hI.seta (b := 19) (j := (S.f 17 10).toNat) (z := t) ta19 rfl (by omega) (by omega)
        have hF14 := hF.seta (b := 19) (j := (S.f 17 10).toNat) (z := t) rfl
        have hR15 := hR.seta (b := 19) (j := (S.f 17 10).toNat) (z := t)
        have e16 := FAx.seta e_FA (b := 19) (j := (S.f 17 10).toNat) (z := t) rfl
        refine yT_gen (fun S11 hS13 => ?_)
        rw [hS13] at hI12 hF14 hR15 e16
        refine r_load (i := 22) (u := 0) (w := 2) rfl rfl rfl ?_
        refine r_dup (i := 23) rfl rfl ?_
        have h17 := hI12.f tf17_10
        have h18 : S11.f 17 10 = S.f 17 10 := by rw [← hS13]; rfl
        refine r_getf (i := 24) (v := 10) (w := 3) (x := vi (S11.f 17 10)) rfl ly17 rfl rfl fun h19 => ?_
        have h19 : Rg (S11.f 17 10) := h19
        refine r_const (i := 25) (u := 1) (z := 1) rfl rfl ?_
        refine r_iadd (i := 26) rfl ?_
        refine r_putI (i := 27) (v := 10) (w := 3) rfl ly17 rfl ⟨by omega, by omega⟩ ?_
        have hI21 := hI12.setf (b := 17) (w := 10) (z := (S11.f 17 10) + 1) tf17_10 rfl (by omega) (by omega)
        have hF23 := hF14.setf (b := 17) (w := 10) (z := (S11.f 17 10) + 1) rfl
        have hR24 := hR15.setf (b := 17) (w := 10) (z := (S11.f 17 10) + 1)
        have e25 := FAx.setf e16 (b := 17) (w := 10) (z := (S11.f 17 10) + 1) rfl
        refine yT_gen (fun S20 hS22 => ?_)
        rw [hS22] at hI21 hF23 hR24 e25
        refine r_load (i := 28) (u := 0) (w := 2) rfl rfl rfl ?_
        refine r_getf (i := 29) (v := 0) (w := 3) (x := (2, 1)) rfl ly17 rfl rfl fun _ => ?_
        refine r_getf (i := 30) (v := 3) (w := 1) (x := (2, 5)) rfl ly1 rfl rfl fun _ => ?_
        refine r_load (i := 31) (u := 1) (w := 0) rfl rfl rfl ?_
        refine a_int (i := 32) rfl ly5 rfl (by omega) (by omega) fun h28 => ?_
        have h29 := hI21.a ta5 t.toNat
        have h30 : S20.a 5 t.toNat = S11.a 5 t.toNat := by rw [← hS22]; rfl
        have h31 : S11.a 5 t.toNat = S.a 5 t.toNat := by rw [← hS13]; rfl
        have h32 : S.a 5 t.toNat = S0.a 5 t.toNat := hF.a rfl _
        refine r_store (i := 33) (u := 1) (w := 0) (L1 := [some ((2, 17)), some (vi (S20.a 5 t.toNat)), none, none]) rfl rfl rfl rfl ?_
        refine r_goto (i := 34) (v := 9) rfl ?_
        have h33 := hI21.f tf17_10
        have h34 : S20.f 17 10 = (S11.f 17 10) + 1 := by rw [← hS22]; exact ysf_eq
        exact ih S20 hI21 hF23 hR24 e25 (S20.a 5 t.toNat) ⟨by omega, by omega⟩  (by omega)
/-- ProxyForge$Collector.meetAll -/
theorem sp61 {G : xk} {S : yS} {d : Nat} (hI : yI S) (e_FA : FA S) (hd : 23 ≤ d) : yT xPr G LY xC61 0 [some ((2, 17))] [] S d (fun r S' => r = (0, (0, 0)) ∧ FA S' ∧ yI S' ∧ yFr [(17, 8), (17, 9), (17, 10)] [19] S S' ∧ yRm [] S S') := by
  refine yT_pad 3 ?_
  show yT xPr G LY xC61 0 [some ((2, 17)), none, none, none] [] S d _
  obtain ⟨d, rfl⟩ : ∃ q, d = q + 1 := ⟨d - 1, by omega⟩
  have hF : yFr [(17, 8), (17, 9), (17, 10)] [19] S S := yFr.refl S
  have hR : yRm [] S S := yRm.refl S
  refine r_load (i := 0) (u := 0) (w := 2) rfl rfl rfl ?_
  refine r_const (i := 1) (u := 0) (z := 0) rfl rfl ?_
  refine r_putI (i := 2) (v := 8) (w := 3) rfl ly17 rfl ⟨by omega, by omega⟩ ?_
  have hI2 := hI.setf0 (b := 17) (w := 8) (z := 0) rfl rfl
  have hF4 := hF.setf (b := 17) (w := 8) (z := 0) rfl
  have hR5 := hR.setf (b := 17) (w := 8) (z := 0)
  have e6 := FAx.setf e_FA (b := 17) (w := 8) (z := 0) rfl
  refine yT_gen (fun S1 hS3 => ?_)
  rw [hS3] at hI2 hF4 hR5 e6
  refine r_load (i := 3) (u := 0) (w := 2) rfl rfl rfl ?_
  refine r_const (i := 4) (u := 0) (z := 0) rfl rfl ?_
  refine r_putI (i := 5) (v := 10) (w := 3) rfl ly17 rfl ⟨by omega, by omega⟩ ?_
  have hI8 := hI2.setf (b := 17) (w := 10) (z := 0) tf17_10 rfl (by omega) (by omega)
  have hF10 := hF4.setf (b := 17) (w := 10) (z := 0) rfl
  have hR11 := hR5.setf (b := 17) (w := 10) (z := 0)
  have e12 := FAx.setf e6 (b := 17) (w := 10) (z := 0) rfl
  refine yT_gen (fun S7 hS9 => ?_)
  rw [hS9] at hI8 hF10 hR11 e12
  refine r_load (i := 6) (u := 0) (w := 2) rfl rfl rfl ?_
  have h13 := hI8.f tf17_6
  have h14 : S7.f 17 6 = S1.f 17 6 := by rw [← hS9]; exact ysf_ne (by decide)
  have h15 : S1.f 17 6 = S.f 17 6 := by rw [← hS3]; exact ysf_ne (by decide)
  refine r_getf (i := 7) (v := 6) (w := 3) (x := vi (S7.f 17 6)) rfl ly17 rfl rfl fun h16 => ?_
  have h16 : Rg (S7.f 17 6) := h16
  refine r_store (i := 8) (u := 1) (w := 0) (L1 := [some ((2, 17)), some (vi (S7.f 17 6)), none, none]) rfl rfl rfl rfl ?_
  have h17 := hI8.f tf17_10
  have h18 : S7.f 17 10 = 0 := by rw [← hS9]; exact ysf_eq
  exact lp61_9   hd _ S7 hI8 hF10 hR11 e12 (S7.f 17 6) ⟨by omega, by omega⟩  (Int.lt_succ_toNat _)
/-- ProxyForge$Collector.refusal -/
theorem sp62 {G : xk} {S : yS} {d : Nat} (hI : yI S) (e_FA : FA S) (hd : 24 ≤ d) : yT xPr G LY xC62 0 [some ((2, 17))] [] S d (fun r S' => ∃ z : Int, r = (1, vi z) ∧ 0 ≤ z ∧ z ≤ 6 ∧ (z = 0 → S'.f 17 12 ≤ 24) ∧ (z = 0 → FN S') ∧ FA S' ∧ yI S' ∧ yFr [(17, 8), (17, 9), (17, 10), (17, 11), (17, 12)] [19, 20, 21] S S' ∧ yRm [] S S') := by
  refine yT_pad 0 ?_
  show yT xPr G LY xC62 0 [some ((2, 17))] [] S d _
  obtain ⟨d, rfl⟩ : ∃ q, d = q + 1 := ⟨d - 1, by omega⟩
  have hF : yFr [(17, 8), (17, 9), (17, 10), (17, 11), (17, 12)] [19, 20, 21] S S := yFr.refl S
  have hR : yRm [] S S := yRm.refl S
  refine r_load (i := 0) (u := 0) (w := 2) rfl rfl rfl ?_
  refine r_getf (i := 1) (v := 0) (w := 3) (x := (2, 1)) rfl ly17 rfl rfl fun _ => ?_
  refine r_getf (i := 2) (v := 0) (w := 1) (x := (2, 2)) rfl ly1 rfl rfl fun _ => ?_
  refine r_load (i := 3) (u := 0) (w := 2) rfl rfl rfl ?_
  have h3 := hI.f tf17_6
  refine r_getf (i := 4) (v := 6) (w := 3) (x := vi (S.f 17 6)) rfl ly17 rfl rfl fun h4 => ?_
  have h4 : Rg (S.f 17 6) := h4
  refine a_bool (i := 5) rfl ly2 rfl (by omega) (by omega) fun h5 => ?_
  refine z_ne (i := 6) (v := 13) rfl ⟨by omega, by omega⟩ (fun h6 => ?_) (fun h7 => ?_)
  · refine r_const (i := 13) (u := 1) (z := 1) rfl rfl ?_
    have h8 := hI.f tf17_12
    exact r_retI (i := 14) rfl ⟨1, rfl, by omega, by omega, (by omega), (by intro hz; first | exact absurd hz (by omega) | assumption), e_FA, hI, hF, hR⟩
  · refine r_load (i := 7) (u := 0) (w := 2) rfl rfl rfl ?_
    refine r_getf (i := 8) (v := 0) (w := 3) (x := (2, 1)) rfl ly17 rfl rfl fun _ => ?_
    refine r_load (i := 9) (u := 0) (w := 2) rfl rfl rfl ?_
    refine r_getf (i := 10) (v := 6) (w := 3) (x := vi (S.f 17 6)) rfl ly17 rfl rfl fun h10 => ?_
    have h10 : Rg (S.f 17 6) := h10
    refine r_call (i := 11) (u := 1) (v := 134) (w := 0) (b := 0) (na := 514) (C2 := xC134) (as := [(2, 1), vi (S.f 17 6)]) (s := []) rfl rfl rfl rfl rfl rfl rfl (sp134 (t := S.f 17 6) hI ⟨by omega, by omega⟩   (by omega)) (fun r11 S12 hq13 => ?_)
    obtain ⟨z14, rfl, h15, h16, h17, h18, rfl⟩ := hq13
    refine Or.inr (Or.inl ⟨rfl, ?_⟩)
    refine z_eq (i := 12) (v := 15) rfl ⟨by omega, by omega⟩ (fun h19 => ?_) (fun h20 => ?_)
    · refine r_load (i := 15) (u := 0) (w := 2) rfl rfl rfl ?_
      refine r_getf (i := 16) (v := 1) (w := 3) (x := (2, 9)) rfl ly17 rfl rfl fun _ => ?_
      refine r_load (i := 17) (u := 0) (w := 2) rfl rfl rfl ?_
      refine r_getf (i := 18) (v := 6) (w := 3) (x := vi (S.f 17 6)) rfl ly17 rfl rfl fun h22 => ?_
      have h22 : Rg (S.f 17 6) := h22
      refine r_call (i := 19) (u := 2) (v := 77) (w := 0) (b := 0) (na := 770) (C2 := xC77) (as := [(2, 9), vi (S.f 17 6)]) (s := []) rfl rfl rfl rfl rfl rfl rfl (sp77 (t := S.f 17 6) hI ⟨by omega, by omega⟩   (by omega)) (fun r23 S24 hq25 => ?_)
      obtain ⟨z26, rfl, h27, h28, rfl⟩ := hq25
      refine Or.inr (Or.inl ⟨rfl, ?_⟩)
      refine z_ne (i := 20) (v := 23) rfl ⟨by omega, by omega⟩ (fun h29 => ?_) (fun h30 => ?_)
      · refine r_load (i := 23) (u := 0) (w := 2) rfl rfl rfl ?_
        refine r_call (i := 24) (u := 3) (v := 50) (w := 0) (b := 0) (na := 769) (C2 := xC50) (as := [(2, 17)]) (s := []) rfl rfl rfl rfl rfl rfl rfl (sp50  hI   e_FA (by omega)) (fun r31 S32 hq33 => ?_)
        obtain ⟨z34, rfl, h35, h36, rfl⟩ := hq33
        refine Or.inr (Or.inl ⟨rfl, ?_⟩)
        refine z_ne (i := 25) (v := 28) rfl ⟨by omega, by omega⟩ (fun h37 => ?_) (fun h38 => ?_)
        · refine r_load (i := 28) (u := 0) (w := 2) rfl rfl rfl ?_
          refine r_call (i := 29) (u := 3) (v := 51) (w := 0) (b := 0) (na := 513) (C2 := xC51) (as := [(2, 17)]) (s := []) rfl rfl rfl rfl rfl rfl rfl (sp51  hI   e_FA (by omega)) (fun r39 S40 hq41 => ?_)
          obtain ⟨z42, rfl, h43, h44, rfl⟩ := hq41
          refine Or.inr (Or.inl ⟨rfl, ?_⟩)
          refine z_ne (i := 30) (v := 33) rfl ⟨by omega, by omega⟩ (fun h45 => ?_) (fun h46 => ?_)
          · refine r_load (i := 33) (u := 0) (w := 2) rfl rfl rfl ?_
            refine r_call (i := 34) (u := 3) (v := 61) (w := 0) (b := 0) (na := 1025) (C2 := xC61) (as := [(2, 17)]) (s := []) rfl rfl rfl rfl rfl rfl rfl (sp61  hI   e_FA (by omega)) (fun r47 S48 hq49 => ?_)
            obtain ⟨rfl, e50, hI51, hF52, hR53⟩ := hq49
            have hF54 := hF.trans hF52 rfl rfl
            have hR55 := hR.trans hR53 rfl
            refine Or.inl ⟨rfl, ?_⟩
            refine r_load (i := 35) (u := 0) (w := 2) rfl rfl rfl ?_
            refine r_call (i := 36) (u := 3) (v := 54) (w := 0) (b := 0) (na := 769) (C2 := xC54) (as := [(2, 17)]) (s := []) rfl rfl rfl rfl rfl rfl rfl (sp54  hI51    (by omega)) (fun r56 S57 hq58 => ?_)
            obtain ⟨rfl, h59, e60, e61, hI62, hF63, hR64⟩ := hq58
            have hF65 := hF54.trans hF63 rfl rfl
            have hR66 := hR55.trans hR64 rfl
            have e67 := FAx.fr e50 hF63 rfl rfl
            refine Or.inl ⟨rfl, ?_⟩
            refine r_load (i := 37) (u := 0) (w := 2) rfl rfl rfl ?_
            refine r_call (i := 38) (u := 3) (v := 57) (w := 0) (b := 0) (na := 769) (C2 := xC57) (as := [(2, 17)]) (s := []) rfl rfl rfl rfl rfl rfl rfl (sp57  hI62    (by omega)) (fun r68 S69 hq70 => ?_)
            obtain ⟨z71, rfl, h72, h73, rfl⟩ := hq70
            refine Or.inr (Or.inl ⟨rfl, ?_⟩)
            refine z_eq (i := 39) (v := 42) rfl ⟨by omega, by omega⟩ (fun h74 => ?_) (fun h75 => ?_)
            · refine r_load (i := 42) (u := 0) (w := 2) rfl rfl rfl ?_
              have h76 := hI62.f tf17_12
              refine r_getf (i := 43) (v := 12) (w := 3) (x := vi (S57.f 17 12)) rfl ly17 rfl rfl fun h77 => ?_
              have h77 : Rg (S57.f 17 12) := h77
              refine r_const (i := 44) (u := 24) (z := 24) rfl rfl ?_
              refine c_le (i := 45) (v := 48) rfl ⟨by omega, by omega⟩ ⟨by omega, by omega⟩ (fun h78 => ?_) (fun h79 => ?_)
              · refine r_const (i := 48) (u := 0) (z := 0) rfl rfl ?_
                exact r_retI (i := 49) rfl ⟨0, rfl, by omega, by omega, (by omega), (by intro hz; first | exact absurd hz (by omega) | assumption), e67, hI62, hF65, hR66⟩
              · refine r_const (i := 46) (u := 6) (z := 6) rfl rfl ?_
                refine r_goto (i := 47) (v := 49) rfl ?_
                exact r_retI (i := 49) rfl ⟨6, rfl, by omega, by omega, (by omega), (by intro hz; first | exact absurd hz (by omega) | assumption), e67, hI62, hF65, hR66⟩
            · refine r_const (i := 40) (u := 5) (z := 5) rfl rfl ?_
              have h80 := hI62.f tf17_12
              exact r_retI (i := 41) rfl ⟨5, rfl, by omega, by omega, (by omega), (by intro hz; first | exact absurd hz (by omega) | assumption), e67, hI62, hF65, hR66⟩
          · refine r_const (i := 31) (u := 4) (z := 4) rfl rfl ?_
            have h81 := hI.f tf17_12
            exact r_retI (i := 32) rfl ⟨4, rfl, by omega, by omega, (by omega), (by intro hz; first | exact absurd hz (by omega) | assumption), e_FA, hI, hF, hR⟩
        · refine r_const (i := 26) (u := 3) (z := 3) rfl rfl ?_
          have h82 := hI.f tf17_12
          exact r_retI (i := 27) rfl ⟨3, rfl, by omega, by omega, (by omega), (by intro hz; first | exact absurd hz (by omega) | assumption), e_FA, hI, hF, hR⟩
      · refine r_const (i := 21) (u := 2) (z := 2) rfl rfl ?_
        have h83 := hI.f tf17_12
        exact r_retI (i := 22) rfl ⟨2, rfl, by omega, by omega, (by omega), (by intro hz; first | exact absurd hz (by omega) | assumption), e_FA, hI, hF, hR⟩
    · refine r_const (i := 13) (u := 1) (z := 1) rfl rfl ?_
      have h84 := hI.f tf17_12
      exact r_retI (i := 14) rfl ⟨1, rfl, by omega, by omega, (by omega), (by intro hz; first | exact absurd hz (by omega) | assumption), e_FA, hI, hF, hR⟩
end XNC
