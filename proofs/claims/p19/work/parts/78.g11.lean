set_option linter.unusedVariables false
set_option maxRecDepth 4000
noncomputable section XNC
/-- ProxyForge$Reader.refuseUnless -/
theorem sp125 {G : xk} {S : yS} {d : Nat} (hI : yI S) {g0 : Int} (h_g0 : 0 ≤ g0 ∧ g0 ≤ 1) (hd : 0 ≤ d) : yT xPr G LY xC125 0 [some ((2, 40)), some (vi g0)] [] S d (fun r S' => r = (0, (0, 0)) ∧ (S'.f 40 5 = S.f 40 5 ∨ S'.f 40 5 ≠ -1) ∧ (g0 = 0 → S'.f 40 5 ≠ -1) ∧ yI S' ∧ yFr [(40, 5)] [] S S' ∧ yRm [] S S') := by
  refine yT_pad 0 ?_
  show yT xPr G LY xC125 0 [some ((2, 40)), some (vi g0)] [] S d _
  have hF : yFr [(40, 5)] [] S S := yFr.refl S
  have hR : yRm [] S S := yRm.refl S
  refine r_load (i := 0) (u := 0) (w := 2) rfl rfl rfl ?_
  have h1 := hI.f tf40_5
  refine r_getf (i := 1) (v := 5) (w := 10) (x := vi (S.f 40 5)) rfl ly40 rfl rfl fun h2 => ?_
  have h2 : Rg (S.f 40 5) := h2
  refine r_const (i := 2) (u := 4294967295) (z := -1) rfl rfl ?_
  refine c_ne (i := 3) (v := 10) rfl ⟨by omega, by omega⟩ ⟨by omega, by omega⟩ (fun h3 => ?_) (fun h4 => ?_)
  · exact r_ret0 (i := 10) rfl ⟨rfl, (by omega), (by omega), hI, hF, hR⟩
  · refine r_load (i := 4) (u := 1) (w := 0) rfl rfl rfl ?_
    refine z_ne (i := 5) (v := 10) rfl ⟨by omega, by omega⟩ (fun h5 => ?_) (fun h6 => ?_)
    · exact r_ret0 (i := 10) rfl ⟨rfl, (by omega), (by omega), hI, hF, hR⟩
    · refine r_load (i := 6) (u := 0) (w := 2) rfl rfl rfl ?_
      refine r_load (i := 7) (u := 0) (w := 2) rfl rfl rfl ?_
      have h7 := hI.f tf40_4
      refine r_getf (i := 8) (v := 4) (w := 10) (x := vi (S.f 40 4)) rfl ly40 rfl rfl fun h8 => ?_
      have h8 : Rg (S.f 40 4) := h8
      refine r_putI (i := 9) (v := 5) (w := 10) rfl ly40 rfl ⟨by omega, by omega⟩ ?_
      have hI10 := hI.setf (b := 40) (w := 5) (z := S.f 40 4) tf40_5 rfl (by omega) (by omega)
      have hF12 := hF.setf (b := 40) (w := 5) (z := S.f 40 4) rfl
      have hR13 := hR.setf (b := 40) (w := 5) (z := S.f 40 4)
      refine yT_gen (fun S9 hS11 => ?_)
      rw [hS11] at hI10 hF12 hR13 
      have h14 := hI10.f tf40_5
      have h15 : S9.f 40 5 = S.f 40 4 := by rw [← hS11]; exact ysf_eq
      exact r_ret0 (i := 10) rfl ⟨rfl, (by omega), (by omega), hI10, hF12, hR13⟩
theorem lp115_29 {G : xk} {d : Nat} {S0 : yS} {w0 : Int} (h_w0 : 1 ≤ w0 ∧ w0 ≤ 4) (hd : 1 ≤ d + 1) : ∀ (n : Nat), ∀ (S : yS) (hI : yI S) (hF : yFr [(40, 3), (40, 4), (40, 5)] [] S0 S) (hR : yRm [] S0 S) (nv k : Int) (h_nv : -2147483648 ≤ nv ∧ nv ≤ 2147483647) (h_k : 0 ≤ k ∧ k ≤ w0) (q_0 : (k = 0 → nv = 0) ∧ (k = 1 → 0 ≤ nv ∧ nv ≤ 255) ∧ (k = 2 → 0 ≤ nv ∧ nv ≤ 65535) ∧ (k = 3 → 0 ≤ nv ∧ nv ≤ 16777215)) (q_1 : S.f 40 5 = -1 ∧ S.f 40 3 = S0.f 40 3 ∧ S.f 40 4 = S0.f 40 3 ∧ w0 ≤ S.f 31 1 - S.f 40 3) (q_2 : S0.f 40 5 = -1) (q_3 : w0 = 1 → k = 1 → nv = tg S (S.f 40 4)) (hn : w0 - k < (n : Nat)), yT xPr G LY xC115 29 [some ((2, 40)), some (vi w0), some (vi nv), some (vi k)] [] S (d + 1) (fun r S' => ∃ z : Int, r = (1, vi z) ∧ -2147483648 ≤ z ∧ z ≤ 2147483647 ∧ (w0 = 1 → 0 ≤ z ∧ z ≤ 255) ∧ (w0 = 2 → 0 ≤ z ∧ z ≤ 65535) ∧ (S'.f 40 5 = -1 → S'.f 40 3 = S0.f 40 3 + w0 ∧ S'.f 40 3 ≤ S0.f 31 1 ∧ S'.f 40 4 = S0.f 40 3) ∧ (S'.f 40 5 = S0.f 40 5 ∨ S'.f 40 5 ≠ -1) ∧ (z ≠ 0 → S'.f 40 5 = -1) ∧ (w0 = 1 → S'.f 40 5 = -1 → z = tg S' (S'.f 40 4)) ∧ yI S' ∧ yFr [(40, 3), (40, 4), (40, 5)] [] S0 S' ∧ yRm [] S0 S') := by
  intro n
  induction n with
  | zero => intro S hI hF hR nv k h_nv h_k q_0 q_1 q_2 q_3 hn; exact absurd hn (by omega)
  | succ n ih =>
    intro S hI hF hR nv k h_nv h_k q_0 q_1 q_2 q_3 hn
    have h1 := hI.f tf40_5
    have h2 := hI.f tf40_3
    have h3 := hI.f tf40_4
    have h4 := hI.b0
    have h5 : S.f 31 1 = S0.f 31 1 := hF.f rfl
    refine r_load (i := 29) (u := 3) (w := 0) rfl rfl rfl ?_
    refine r_load (i := 30) (u := 1) (w := 0) rfl rfl rfl ?_
    refine c_ge (i := 31) (v := 46) rfl ⟨by omega, by omega⟩ ⟨by omega, by omega⟩ (fun h6 => ?_) (fun h7 => ?_)
    · refine r_load (i := 46) (u := 0) (w := 2) rfl rfl rfl ?_
      refine r_dup (i := 47) rfl rfl ?_
      refine r_getf (i := 48) (v := 3) (w := 10) (x := vi (S.f 40 3)) rfl ly40 rfl rfl fun h8 => ?_
      have h8 : Rg (S.f 40 3) := h8
      refine r_load (i := 49) (u := 1) (w := 0) rfl rfl rfl ?_
      refine r_iadd (i := 50) rfl ?_
      refine r_putI (i := 51) (v := 3) (w := 10) rfl ly40 rfl ⟨by omega, by omega⟩ ?_
      have hI10 := hI.setf (b := 40) (w := 3) (z := (S.f 40 3) + w0) tf40_3 rfl (by omega) (by omega)
      have hF12 := hF.setf (b := 40) (w := 3) (z := (S.f 40 3) + w0) rfl
      have hR13 := hR.setf (b := 40) (w := 3) (z := (S.f 40 3) + w0)
      refine yT_gen (fun S9 hS11 => ?_)
      rw [hS11] at hI10 hF12 hR13 
      refine r_load (i := 52) (u := 2) (w := 0) rfl rfl rfl ?_
      have h14 := hI10.f tf40_5
      have h15 : S9.f 40 5 = S.f 40 5 := by rw [← hS11]; exact ysf_ne (by decide)
      have h16 := hI10.f tf40_3
      have h17 : S9.f 40 3 = (S.f 40 3) + w0 := by rw [← hS11]; exact ysf_eq
      have h18 := hI10.b0
      have h19 : S9.f 31 1 = S.f 31 1 := by rw [← hS11]; exact ysf_ne (by decide)
      have h20 : S.f 31 1 = S0.f 31 1 := hF.f rfl
      have h21 := hI10.f tf40_4
      have h22 : S9.f 40 4 = S.f 40 4 := by rw [← hS11]; exact ysf_ne (by decide)
      exact r_retI (i := 53) rfl ⟨nv, rfl, by omega, by omega, (by omega), (by omega), (by omega), (by omega), (by omega), (by first | omega | (intro h1 h2; have h9 := q_3 h1 (by omega); subst_vars; first | exact h9 | rfl)), hI10, hF12, hR13⟩
    · refine r_load (i := 32) (u := 2) (w := 0) rfl rfl rfl ?_
      refine r_const (i := 33) (u := 8) (z := 8) rfl rfl ?_
      refine r_shl8 (i := 34) rfl (by omega) (by omega) fun h23 h24 => ?_
      refine r_load (i := 35) (u := 0) (w := 2) rfl rfl rfl ?_
      refine r_getf (i := 36) (v := 0) (w := 10) (x := (2, 31)) rfl ly40 rfl rfl fun _ => ?_
      refine r_load (i := 37) (u := 0) (w := 2) rfl rfl rfl ?_
      refine r_getf (i := 38) (v := 3) (w := 10) (x := vi (S.f 40 3)) rfl ly40 rfl rfl fun h26 => ?_
      have h26 : Rg (S.f 40 3) := h26
      refine r_load (i := 39) (u := 3) (w := 0) rfl rfl rfl ?_
      refine r_iadd (i := 40) rfl ?_
      have h27 := hI.bn
      have h28 := hI.br
      have h29 : S.n 0 = S0.n 0 := hR.eq rfl rfl
      have h30 : S.n 1 = S0.n 1 := hR.eq rfl rfl
      have h31 : S.n 2 = S0.n 2 := hR.eq rfl rfl
      have h32 : S.n 3 = S0.n 3 := hR.eq rfl rfl
      have h33 : S.n 4 = S0.n 4 := hR.eq rfl rfl
      refine r_call (i := 41) (u := 7) (v := 25) (w := 0) (b := 0) (na := 514) (C2 := xC25) (as := [(2, 31), vi ((S.f 40 3) + k)]) (s := [vi (yshl nv 8)]) rfl rfl rfl rfl rfl rfl rfl (sp25_31 (k := (S.f 40 3) + k) hI ⟨by omega, by omega⟩ (by omega)  (by omega)) (fun r34 S35 hq36 => ?_)
      obtain ⟨z37, rfl, h38, h39, h40, rfl⟩ := hq36
      refine Or.inr (Or.inl ⟨rfl, ?_⟩)
      have no9 := num_or (x := nv) (b := z37) (k := k) (by omega) (by omega) (by omega) (by omega) (by omega)
      refine r_ior (i := 42) rfl ?_
      have h41 := yor_rg (yshl nv 8) z37
      refine r_store (i := 43) (u := 2) (w := 0) (L1 := [some ((2, 40)), some (vi w0), some (vi (yor (yshl nv 8) z37)), some (vi k)]) rfl rfl rfl rfl ?_
      refine r_iinc (i := 44) (u := 1) (v := 3) (s := 1) (L1 := [some ((2, 40)), some (vi w0), some (vi (yor (yshl nv 8) z37)), some (vi (k + 1))]) rfl rfl rfl rfl rfl ?_
      refine r_goto (i := 45) (v := 29) rfl ?_
      exact ih S hI hF hR (yor (yshl nv 8) z37) (k + 1) ⟨by omega, by omega⟩ ⟨by omega, by omega⟩ (by omega) (by omega) (by omega) (by first | omega | (intro h1 h2; obtain rfl : k = 0 := (by omega); unfold tg; rw [show S.f 40 4 = S.f 40 3 + 0 from (by omega)]; omega)) (by omega)
/-- ProxyForge$Reader.number -/
theorem sp115 {G : xk} {S : yS} {d : Nat} (hI : yI S) {w0 : Int} (h_w0 : 1 ≤ w0 ∧ w0 ≤ 4) (hd : 1 ≤ d) : yT xPr G LY xC115 0 [some ((2, 40)), some (vi w0)] [] S d (fun r S' => ∃ z : Int, r = (1, vi z) ∧ -2147483648 ≤ z ∧ z ≤ 2147483647 ∧ (w0 = 1 → 0 ≤ z ∧ z ≤ 255) ∧ (w0 = 2 → 0 ≤ z ∧ z ≤ 65535) ∧ (S'.f 40 5 = -1 → S'.f 40 3 = S.f 40 3 + w0 ∧ S'.f 40 3 ≤ S.f 31 1 ∧ S'.f 40 4 = S.f 40 3) ∧ (S'.f 40 5 = S.f 40 5 ∨ S'.f 40 5 ≠ -1) ∧ (z ≠ 0 → S'.f 40 5 = -1) ∧ (w0 = 1 → S'.f 40 5 = -1 → z = tg S' (S'.f 40 4)) ∧ yI S' ∧ yFr [(40, 3), (40, 4), (40, 5)] [] S S' ∧ yRm [] S S') := by
  refine yT_pad 2 ?_
  show yT xPr G LY xC115 0 [some ((2, 40)), some (vi w0), none, none] [] S d _
  obtain ⟨d, rfl⟩ : ∃ q, d = q + 1 := ⟨d - 1, by omega⟩
  have hF : yFr [(40, 3), (40, 4), (40, 5)] [] S S := yFr.refl S
  have hR : yRm [] S S := yRm.refl S
  refine r_load (i := 0) (u := 0) (w := 2) rfl rfl rfl ?_
  have h1 := hI.f tf40_5
  refine r_getf (i := 1) (v := 5) (w := 10) (x := vi (S.f 40 5)) rfl ly40 rfl rfl fun h2 => ?_
  have h2 : Rg (S.f 40 5) := h2
  refine r_const (i := 2) (u := 4294967295) (z := -1) rfl rfl ?_
  refine c_eq (i := 3) (v := 6) rfl ⟨by omega, by omega⟩ ⟨by omega, by omega⟩ (fun h3 => ?_) (fun h4 => ?_)
  · refine r_load (i := 6) (u := 0) (w := 2) rfl rfl rfl ?_
    refine r_load (i := 7) (u := 0) (w := 2) rfl rfl rfl ?_
    have h5 := hI.f tf40_3
    refine r_getf (i := 8) (v := 3) (w := 10) (x := vi (S.f 40 3)) rfl ly40 rfl rfl fun h6 => ?_
    have h6 : Rg (S.f 40 3) := h6
    refine r_putI (i := 9) (v := 4) (w := 10) rfl ly40 rfl ⟨by omega, by omega⟩ ?_
    have hI8 := hI.setf (b := 40) (w := 4) (z := S.f 40 3) tf40_4 rfl (by omega) (by omega)
    have hF10 := hF.setf (b := 40) (w := 4) (z := S.f 40 3) rfl
    have hR11 := hR.setf (b := 40) (w := 4) (z := S.f 40 3)
    refine yT_gen (fun S7 hS9 => ?_)
    rw [hS9] at hI8 hF10 hR11 
    refine r_load (i := 10) (u := 1) (w := 0) rfl rfl rfl ?_
    refine r_load (i := 11) (u := 0) (w := 2) rfl rfl rfl ?_
    refine r_getf (i := 12) (v := 0) (w := 10) (x := (2, 31)) rfl ly40 rfl rfl fun _ => ?_
    have h13 := hI8.b0
    have h14 : S7.f 31 1 = S.f 31 1 := by rw [← hS9]; exact ysf_ne (by decide)
    refine r_getf (i := 13) (v := 1) (w := 7) (x := vi (S7.f 31 1)) rfl ly31 rfl rfl fun h15 => ?_
    have h15 : Rg (S7.f 31 1) := h15
    refine r_load (i := 14) (u := 0) (w := 2) rfl rfl rfl ?_
    have h16 := hI8.f tf40_3
    have h17 : S7.f 40 3 = S.f 40 3 := by rw [← hS9]; exact ysf_ne (by decide)
    refine r_getf (i := 15) (v := 3) (w := 10) (x := vi (S7.f 40 3)) rfl ly40 rfl rfl fun h18 => ?_
    have h18 : Rg (S7.f 40 3) := h18
    refine r_isub (i := 16) rfl ?_
    refine c_le (i := 17) (v := 25) rfl ⟨by omega, by omega⟩ ⟨by omega, by omega⟩ (fun h19 => ?_) (fun h20 => ?_)
    · refine r_const (i := 25) (u := 0) (z := 0) rfl rfl ?_
      refine r_store (i := 26) (u := 2) (w := 0) (L1 := [some ((2, 40)), some (vi w0), some (vi 0), none]) rfl rfl rfl rfl ?_
      refine r_const (i := 27) (u := 0) (z := 0) rfl rfl ?_
      refine r_store (i := 28) (u := 3) (w := 0) (L1 := [some ((2, 40)), some (vi w0), some (vi 0), some (vi 0)]) rfl rfl rfl rfl ?_
      have h21 := hI8.f tf40_5
      have h22 : S7.f 40 5 = S.f 40 5 := by rw [← hS9]; exact ysf_ne (by decide)
      have h23 := hI8.f tf40_4
      have h24 : S7.f 40 4 = S.f 40 3 := by rw [← hS9]; exact ysf_eq
      exact lp115_29 h_w0  hd _ S7 hI8 hF10 hR11 0 0 ⟨by omega, by omega⟩ ⟨by omega, by omega⟩ (by omega) (by omega) (by omega) (by first | omega | (intro h1 h2; obtain rfl : k = 0 := (by omega); unfold tg; rw [show S.f 40 4 = S.f 40 3 + 0 from (by omega)]; omega)) (Int.lt_succ_toNat _)
    · refine r_load (i := 18) (u := 0) (w := 2) rfl rfl rfl ?_
      refine r_load (i := 19) (u := 0) (w := 2) rfl rfl rfl ?_
      refine r_getf (i := 20) (v := 0) (w := 10) (x := (2, 31)) rfl ly40 rfl rfl fun _ => ?_
      refine r_getf (i := 21) (v := 1) (w := 7) (x := vi (S7.f 31 1)) rfl ly31 rfl rfl fun h26 => ?_
      have h26 : Rg (S7.f 31 1) := h26
      refine r_putI (i := 22) (v := 5) (w := 10) rfl ly40 rfl ⟨by omega, by omega⟩ ?_
      have hI28 := hI8.setf (b := 40) (w := 5) (z := S7.f 31 1) tf40_5 rfl (by omega) (by omega)
      have hF30 := hF10.setf (b := 40) (w := 5) (z := S7.f 31 1) rfl
      have hR31 := hR11.setf (b := 40) (w := 5) (z := S7.f 31 1)
      refine yT_gen (fun S27 hS29 => ?_)
      rw [hS29] at hI28 hF30 hR31 
      refine r_const (i := 23) (u := 0) (z := 0) rfl rfl ?_
      have h32 := hI28.f tf40_5
      have h33 : S27.f 40 5 = S7.f 31 1 := by rw [← hS29]; exact ysf_eq
      have h34 := hI28.f tf40_3
      have h35 : S27.f 40 3 = S7.f 40 3 := by rw [← hS29]; exact ysf_ne (by decide)
      have h36 : S7.f 40 3 = S.f 40 3 := by rw [← hS9]; exact ysf_ne (by decide)
      have h37 := hI28.b0
      have h38 : S27.f 31 1 = S7.f 31 1 := by rw [← hS29]; exact ysf_ne (by decide)
      have h39 : S7.f 31 1 = S.f 31 1 := by rw [← hS9]; exact ysf_ne (by decide)
      have h40 := hI28.f tf40_4
      have h41 : S27.f 40 4 = S7.f 40 4 := by rw [← hS29]; exact ysf_ne (by decide)
      have h42 : S7.f 40 4 = S.f 40 3 := by rw [← hS9]; exact ysf_eq
      exact r_retI (i := 24) rfl ⟨0, rfl, by omega, by omega, (by omega), (by omega), (by omega), (by omega), (by omega), (by first | omega | (intro h1 h2; have h9 := q_3 h1 (by omega); subst_vars; first | exact h9 | rfl)), hI28, hF30, hR31⟩
  · refine r_const (i := 4) (u := 0) (z := 0) rfl rfl ?_
    have h43 := hI.f tf40_3
    have h44 := hI.b0
    have h45 := hI.f tf40_4
    exact r_retI (i := 5) rfl ⟨0, rfl, by omega, by omega, (by omega), (by omega), (by omega), (by omega), (by omega), (by first | omega | (intro h1 h2; have h9 := q_3 h1 (by omega); subst_vars; first | exact h9 | rfl)), hI, hF, hR⟩
/-- ProxyForge$Reader.skip -/
theorem sp126 {G : xk} {S : yS} {d : Nat} (hI : yI S) {ln : Int} (h_ln : -2147483648 ≤ ln ∧ ln ≤ 2147483647) (hd : 0 ≤ d) : yT xPr G LY xC126 0 [some ((2, 40)), some (vi ln)] [] S d (fun r S' => r = (0, (0, 0)) ∧ (S'.f 40 5 = S.f 40 5 ∨ S'.f 40 5 ≠ -1) ∧ (S'.f 40 5 = -1 → S'.f 40 3 = S.f 40 3 + ln ∧ 0 ≤ ln ∧ S'.f 40 3 ≤ S.f 31 1) ∧ yI S' ∧ yFr [(40, 3), (40, 5)] [] S S' ∧ yRm [] S S') := by
  refine yT_pad 0 ?_
  show yT xPr G LY xC126 0 [some ((2, 40)), some (vi ln)] [] S d _
  have hF : yFr [(40, 3), (40, 5)] [] S S := yFr.refl S
  have hR : yRm [] S S := yRm.refl S
  refine r_load (i := 0) (u := 0) (w := 2) rfl rfl rfl ?_
  have h1 := hI.f tf40_5
  refine r_getf (i := 1) (v := 5) (w := 10) (x := vi (S.f 40 5)) rfl ly40 rfl rfl fun h2 => ?_
  have h2 : Rg (S.f 40 5) := h2
  refine r_const (i := 2) (u := 4294967295) (z := -1) rfl rfl ?_
  refine c_eq (i := 3) (v := 5) rfl ⟨by omega, by omega⟩ ⟨by omega, by omega⟩ (fun h3 => ?_) (fun h4 => ?_)
  · refine r_load (i := 5) (u := 1) (w := 0) rfl rfl rfl ?_
    refine z_lt (i := 6) (v := 15) rfl ⟨by omega, by omega⟩ (fun h5 => ?_) (fun h6 => ?_)
    · refine r_load (i := 15) (u := 0) (w := 2) rfl rfl rfl ?_
      refine r_load (i := 16) (u := 0) (w := 2) rfl rfl rfl ?_
      refine r_getf (i := 17) (v := 0) (w := 10) (x := (2, 31)) rfl ly40 rfl rfl fun _ => ?_
      have h8 := hI.b0
      refine r_getf (i := 18) (v := 1) (w := 7) (x := vi (S.f 31 1)) rfl ly31 rfl rfl fun h9 => ?_
      have h9 : Rg (S.f 31 1) := h9
      refine r_putI (i := 19) (v := 5) (w := 10) rfl ly40 rfl ⟨by omega, by omega⟩ ?_
      have hI11 := hI.setf (b := 40) (w := 5) (z := S.f 31 1) tf40_5 rfl (by omega) (by omega)
      have hF13 := hF.setf (b := 40) (w := 5) (z := S.f 31 1) rfl
      have hR14 := hR.setf (b := 40) (w := 5) (z := S.f 31 1)
      refine yT_gen (fun S10 hS12 => ?_)
      rw [hS12] at hI11 hF13 hR14 
      refine r_goto (i := 20) (v := 27) rfl ?_
      have h15 := hI11.f tf40_5
      have h16 : S10.f 40 5 = S.f 31 1 := by rw [← hS12]; exact ysf_eq
      have h17 := hI11.f tf40_3
      have h18 : S10.f 40 3 = S.f 40 3 := by rw [← hS12]; exact ysf_ne (by decide)
      have h19 := hI11.b0
      have h20 : S10.f 31 1 = S.f 31 1 := by rw [← hS12]; exact ysf_ne (by decide)
      exact r_ret0 (i := 27) rfl ⟨rfl, (by omega), (by omega), hI11, hF13, hR14⟩
    · refine r_load (i := 7) (u := 1) (w := 0) rfl rfl rfl ?_
      refine r_load (i := 8) (u := 0) (w := 2) rfl rfl rfl ?_
      refine r_getf (i := 9) (v := 0) (w := 10) (x := (2, 31)) rfl ly40 rfl rfl fun _ => ?_
      have h22 := hI.b0
      refine r_getf (i := 10) (v := 1) (w := 7) (x := vi (S.f 31 1)) rfl ly31 rfl rfl fun h23 => ?_
      have h23 : Rg (S.f 31 1) := h23
      refine r_load (i := 11) (u := 0) (w := 2) rfl rfl rfl ?_
      have h24 := hI.f tf40_3
      refine r_getf (i := 12) (v := 3) (w := 10) (x := vi (S.f 40 3)) rfl ly40 rfl rfl fun h25 => ?_
      have h25 : Rg (S.f 40 3) := h25
      refine r_isub (i := 13) rfl ?_
      refine c_le (i := 14) (v := 21) rfl ⟨by omega, by omega⟩ ⟨by omega, by omega⟩ (fun h26 => ?_) (fun h27 => ?_)
      · refine r_load (i := 21) (u := 0) (w := 2) rfl rfl rfl ?_
        refine r_dup (i := 22) rfl rfl ?_
        refine r_getf (i := 23) (v := 3) (w := 10) (x := vi (S.f 40 3)) rfl ly40 rfl rfl fun h28 => ?_
        have h28 : Rg (S.f 40 3) := h28
        refine r_load (i := 24) (u := 1) (w := 0) rfl rfl rfl ?_
        refine r_iadd (i := 25) rfl ?_
        refine r_putI (i := 26) (v := 3) (w := 10) rfl ly40 rfl ⟨by omega, by omega⟩ ?_
        have hI30 := hI.setf (b := 40) (w := 3) (z := (S.f 40 3) + ln) tf40_3 rfl (by omega) (by omega)
        have hF32 := hF.setf (b := 40) (w := 3) (z := (S.f 40 3) + ln) rfl
        have hR33 := hR.setf (b := 40) (w := 3) (z := (S.f 40 3) + ln)
        refine yT_gen (fun S29 hS31 => ?_)
        rw [hS31] at hI30 hF32 hR33 
        have h34 := hI30.f tf40_5
        have h35 : S29.f 40 5 = S.f 40 5 := by rw [← hS31]; exact ysf_ne (by decide)
        have h36 := hI30.f tf40_3
        have h37 : S29.f 40 3 = (S.f 40 3) + ln := by rw [← hS31]; exact ysf_eq
        have h38 := hI30.b0
        have h39 : S29.f 31 1 = S.f 31 1 := by rw [← hS31]; exact ysf_ne (by decide)
        exact r_ret0 (i := 27) rfl ⟨rfl, (by omega), (by omega), hI30, hF32, hR33⟩
      · refine r_load (i := 15) (u := 0) (w := 2) rfl rfl rfl ?_
        refine r_load (i := 16) (u := 0) (w := 2) rfl rfl rfl ?_
        refine r_getf (i := 17) (v := 0) (w := 10) (x := (2, 31)) rfl ly40 rfl rfl fun _ => ?_
        refine r_getf (i := 18) (v := 1) (w := 7) (x := vi (S.f 31 1)) rfl ly31 rfl rfl fun h41 => ?_
        have h41 : Rg (S.f 31 1) := h41
        refine r_putI (i := 19) (v := 5) (w := 10) rfl ly40 rfl ⟨by omega, by omega⟩ ?_
        have hI43 := hI.setf (b := 40) (w := 5) (z := S.f 31 1) tf40_5 rfl (by omega) (by omega)
        have hF45 := hF.setf (b := 40) (w := 5) (z := S.f 31 1) rfl
        have hR46 := hR.setf (b := 40) (w := 5) (z := S.f 31 1)
        refine yT_gen (fun S42 hS44 => ?_)
        rw [hS44] at hI43 hF45 hR46 
        refine r_goto (i := 20) (v := 27) rfl ?_
        have h47 := hI43.f tf40_5
        have h48 : S42.f 40 5 = S.f 31 1 := by rw [← hS44]; exact ysf_eq
        have h49 := hI43.f tf40_3
        have h50 : S42.f 40 3 = S.f 40 3 := by rw [← hS44]; exact ysf_ne (by decide)
        have h51 := hI43.b0
        have h52 : S42.f 31 1 = S.f 31 1 := by rw [← hS44]; exact ysf_ne (by decide)
        exact r_ret0 (i := 27) rfl ⟨rfl, (by omega), (by omega), hI43, hF45, hR46⟩
  · have h53 := hI.f tf40_3
    have h54 := hI.b0
    exact r_ret0 (i := 4) rfl ⟨rfl, (by omega), (by omega), hI, hF, hR⟩
/-- ProxyForge$Reader.expect -/
theorem sp108 {G : xk} {S : yS} {d : Nat} (hI : yI S) {w0 : Int} (h_w0 : 1 ≤ w0 ∧ w0 ≤ 4) {v : Int} (h_v : -2147483648 ≤ v ∧ v ≤ 2147483647) (hd : 2 ≤ d) : yT xPr G LY xC108 0 [some ((2, 40)), some (vi w0), some (vi v)] [] S d (fun r S' => r = (0, (0, 0)) ∧ (S'.f 40 5 = S.f 40 5 ∨ S'.f 40 5 ≠ -1) ∧ (S'.f 40 5 = -1 → S'.f 40 3 = S.f 40 3 + w0) ∧ yI S' ∧ yFr [(40, 3), (40, 4), (40, 5)] [] S S' ∧ yRm [] S S') := by
  refine yT_pad 0 ?_
  show yT xPr G LY xC108 0 [some ((2, 40)), some (vi w0), some (vi v)] [] S d _
  obtain ⟨d, rfl⟩ : ∃ q, d = q + 1 := ⟨d - 1, by omega⟩
  have hF : yFr [(40, 3), (40, 4), (40, 5)] [] S S := yFr.refl S
  have hR : yRm [] S S := yRm.refl S
  refine r_load (i := 0) (u := 0) (w := 2) rfl rfl rfl ?_
  refine r_load (i := 1) (u := 0) (w := 2) rfl rfl rfl ?_
  refine r_load (i := 2) (u := 1) (w := 0) rfl rfl rfl ?_
  have h1 := hI.f tf40_3
  have h2 := hI.b0
  have h3 := hI.f tf40_5
  refine r_call (i := 3) (u := 10) (v := 115) (w := 0) (b := 0) (na := 1026) (C2 := xC115) (as := [(2, 40), vi w0]) (s := [(2, 40)]) rfl rfl rfl rfl rfl rfl rfl (sp115 (w0 := w0) hI ⟨by omega, by omega⟩   (by omega)) (fun r4 S5 hq6 => ?_)
  obtain ⟨z7, rfl, h8, h9, h10, h11, h12, h13, h14, h15, hI16, hF17, hR18⟩ := hq6
  have hF19 := hF.trans hF17 rfl rfl
  have hR20 := hR.trans hR18 rfl
  refine Or.inr (Or.inl ⟨rfl, ?_⟩)
  refine r_load (i := 4) (u := 2) (w := 0) rfl rfl rfl ?_
  refine c_ne (i := 5) (v := 8) rfl ⟨by omega, by omega⟩ ⟨by omega, by omega⟩ (fun h21 => ?_) (fun h22 => ?_)
  · refine r_const (i := 8) (u := 0) (z := 0) rfl rfl ?_
    have h23 := hI16.f tf40_5
    refine r_call (i := 9) (u := 10) (v := 125) (w := 0) (b := 0) (na := 514) (C2 := xC125) (as := [(2, 40), vi 0]) (s := []) rfl rfl rfl rfl rfl rfl rfl (sp125 (g0 := 0) hI16 ⟨by omega, by omega⟩   (by omega)) (fun r24 S25 hq26 => ?_)
    obtain ⟨rfl, h27, h28, hI29, hF30, hR31⟩ := hq26
    have hF32 := hF19.trans hF30 rfl rfl
    have hR33 := hR20.trans hR31 rfl
    refine Or.inl ⟨rfl, ?_⟩
    have h34 := hI29.f tf40_5
    have h35 := hI29.f tf40_3
    have h36 : S25.f 40 3 = S5.f 40 3 := hF30.f rfl
    exact r_ret0 (i := 10) rfl ⟨rfl, (by omega), (by omega), hI29, hF32, hR33⟩
  · refine r_const (i := 6) (u := 1) (z := 1) rfl rfl ?_
    refine r_goto (i := 7) (v := 9) rfl ?_
    have h37 := hI16.f tf40_5
    refine r_call (i := 9) (u := 10) (v := 125) (w := 0) (b := 0) (na := 514) (C2 := xC125) (as := [(2, 40), vi 1]) (s := []) rfl rfl rfl rfl rfl rfl rfl (sp125 (g0 := 1) hI16 ⟨by omega, by omega⟩   (by omega)) (fun r38 S39 hq40 => ?_)
    obtain ⟨rfl, h41, h42, hI43, hF44, hR45⟩ := hq40
    have hF46 := hF19.trans hF44 rfl rfl
    have hR47 := hR20.trans hR45 rfl
    refine Or.inl ⟨rfl, ?_⟩
    have h48 := hI43.f tf40_5
    have h49 := hI43.f tf40_3
    have h50 : S39.f 40 3 = S5.f 40 3 := hF44.f rfl
    exact r_ret0 (i := 10) rfl ⟨rfl, (by omega), (by omega), hI43, hF46, hR47⟩
/-- ProxyForge$Reader.checkLength -/
theorem sp105 {G : xk} {S : yS} {d : Nat} (hI : yI S) {sp0 : Int} (h_sp0 : 0 ≤ sp0 ∧ sp0 ≤ 60000) {sd : Int} (h_sd : -2147483648 ≤ sd ∧ sd ≤ 2147483647) {ln : Int} (h_ln : -2147483648 ≤ ln ∧ ln ≤ 2147483647) (hd : 0 ≤ d) : yT xPr G LY xC105 0 [some ((2, 40)), some (vi sp0), some (vi sd), some (vi ln)] [] S d (fun r S' => r = (0, (0, 0)) ∧ (S'.f 40 5 = S.f 40 5 ∨ S'.f 40 5 ≠ -1) ∧ yI S' ∧ yFr [(40, 5)] [] S S' ∧ yRm [] S S') := by
  refine yT_pad 0 ?_
  show yT xPr G LY xC105 0 [some ((2, 40)), some (vi sp0), some (vi sd), some (vi ln)] [] S d _
  have hF : yFr [(40, 5)] [] S S := yFr.refl S
  have hR : yRm [] S S := yRm.refl S
  refine r_load (i := 0) (u := 0) (w := 2) rfl rfl rfl ?_
  have h1 := hI.f tf40_5
  refine r_getf (i := 1) (v := 5) (w := 10) (x := vi (S.f 40 5)) rfl ly40 rfl rfl fun h2 => ?_
  have h2 : Rg (S.f 40 5) := h2
  refine r_const (i := 2) (u := 4294967295) (z := -1) rfl rfl ?_
  refine c_ne (i := 3) (v := 10) rfl ⟨by omega, by omega⟩ ⟨by omega, by omega⟩ (fun h3 => ?_) (fun h4 => ?_)
  · exact r_ret0 (i := 10) rfl ⟨rfl, (by omega), hI, hF, hR⟩
  · refine r_load (i := 4) (u := 2) (w := 0) rfl rfl rfl ?_
    refine r_load (i := 5) (u := 3) (w := 0) rfl rfl rfl ?_
    refine c_eq (i := 6) (v := 10) rfl ⟨by omega, by omega⟩ ⟨by omega, by omega⟩ (fun h5 => ?_) (fun h6 => ?_)
    · exact r_ret0 (i := 10) rfl ⟨rfl, (by omega), hI, hF, hR⟩
    · refine r_load (i := 7) (u := 0) (w := 2) rfl rfl rfl ?_
      refine r_load (i := 8) (u := 1) (w := 0) rfl rfl rfl ?_
      refine r_putI (i := 9) (v := 5) (w := 10) rfl ly40 rfl ⟨by omega, by omega⟩ ?_
      have hI8 := hI.setf (b := 40) (w := 5) (z := sp0) tf40_5 rfl (by omega) (by omega)
      have hF10 := hF.setf (b := 40) (w := 5) (z := sp0) rfl
      have hR11 := hR.setf (b := 40) (w := 5) (z := sp0)
      refine yT_gen (fun S7 hS9 => ?_)
      rw [hS9] at hI8 hF10 hR11 
      have h12 := hI8.f tf40_5
      have h13 : S7.f 40 5 = sp0 := by rw [← hS9]; exact ysf_eq
      exact r_ret0 (i := 10) rfl ⟨rfl, (by omega), hI8, hF10, hR11⟩
/-- ProxyForge$Reader.isEntry -/
theorem sp113 {G : xk} {S : yS} {d : Nat} (hI : yI S) {e : Int} (h_e : -2147483648 ≤ e ∧ e ≤ 2147483647) {t : Int} (h_t : -2147483648 ≤ t ∧ t ≤ 2147483647) (e_RD : RD S) (hd : 1 ≤ d) : yT xPr G LY xC113 0 [some ((2, 40)), some (vi e), some (vi t)] [] S d (fun r S' => ∃ z : Int, r = (1, vi z) ∧ 0 ≤ z ∧ z ≤ 1 ∧ (z = 1 → 1 ≤ e ∧ e ≤ S.f 40 2) ∧ S = S') := by
  refine yT_pad 0 ?_
  show yT xPr G LY xC113 0 [some ((2, 40)), some (vi e), some (vi t)] [] S d _
  obtain ⟨d, rfl⟩ : ∃ q, d = q + 1 := ⟨d - 1, by omega⟩
  refine r_load (i := 0) (u := 1) (w := 0) rfl rfl rfl ?_
  refine r_const (i := 1) (u := 1) (z := 1) rfl rfl ?_
  refine c_lt (i := 2) (v := 18) rfl ⟨by omega, by omega⟩ ⟨by omega, by omega⟩ (fun h1 => ?_) (fun h2 => ?_)
  · refine r_const (i := 18) (u := 0) (z := 0) rfl rfl ?_
    have h3 := hI.f tf40_2
    exact r_retZ (i := 19) rfl (by omega) (by omega) ⟨0, rfl, by omega, by omega, (by omega), rfl⟩
  · refine r_load (i := 3) (u := 1) (w := 0) rfl rfl rfl ?_
    refine r_load (i := 4) (u := 0) (w := 2) rfl rfl rfl ?_
    have h4 := hI.f tf40_2
    refine r_getf (i := 5) (v := 2) (w := 10) (x := vi (S.f 40 2)) rfl ly40 rfl rfl fun h5 => ?_
    have h5 : Rg (S.f 40 2) := h5
    refine c_gt (i := 6) (v := 18) rfl ⟨by omega, by omega⟩ ⟨by omega, by omega⟩ (fun h6 => ?_) (fun h7 => ?_)
    · refine r_const (i := 18) (u := 0) (z := 0) rfl rfl ?_
      exact r_retZ (i := 19) rfl (by omega) (by omega) ⟨0, rfl, by omega, by omega, (by omega), rfl⟩
    · refine r_load (i := 7) (u := 0) (w := 2) rfl rfl rfl ?_
      refine r_getf (i := 8) (v := 0) (w := 10) (x := (2, 31)) rfl ly40 rfl rfl fun _ => ?_
      refine r_load (i := 9) (u := 0) (w := 2) rfl rfl rfl ?_
      refine r_getf (i := 10) (v := 1) (w := 10) (x := (2, S.p 4)) rfl ly40 rfl rfl fun _ => ?_
      refine r_load (i := 11) (u := 1) (w := 0) rfl rfl rfl ?_
      have rd9 := (e_RD).1
      have b09 := (hI).b0
      have h11 := hI.bn
      have h12 := hI.br
      refine g_iload (i := 12) (k := 4) rfl rfl rfl (by omega) (by omega) fun h10 => ?_
      have h10 : Rg (S.a 104 e.toNat) := h10
      have rd8 := (e_RD).2.1 e.toNat (by omega) (by omega)
      refine r_call (i := 13) (u := 7) (v := 25) (w := 0) (b := 0) (na := 514) (C2 := xC25) (as := [(2, 31), vi (S.a 104 e.toNat)]) (s := []) rfl rfl rfl rfl rfl rfl rfl (sp25_31 (k := S.a 104 e.toNat) hI ⟨by omega, by omega⟩ (by omega)  (by omega)) (fun r13 S14 hq15 => ?_)
      obtain ⟨z16, rfl, h17, h18, h19, rfl⟩ := hq15
      refine Or.inr (Or.inl ⟨rfl, ?_⟩)
      refine r_load (i := 14) (u := 2) (w := 0) rfl rfl rfl ?_
      refine c_ne (i := 15) (v := 18) rfl ⟨by omega, by omega⟩ ⟨by omega, by omega⟩ (fun h20 => ?_) (fun h21 => ?_)
      · refine r_const (i := 18) (u := 0) (z := 0) rfl rfl ?_
        exact r_retZ (i := 19) rfl (by omega) (by omega) ⟨0, rfl, by omega, by omega, (by omega), rfl⟩
      · refine r_const (i := 16) (u := 1) (z := 1) rfl rfl ?_
        refine r_goto (i := 17) (v := 19) rfl ?_
        exact r_retZ (i := 19) rfl (by omega) (by omega) ⟨1, rfl, by omega, by omega, (by omega), rfl⟩
/-- ProxyForge$Reader.isSpelled -/
theorem sp114 {G : xk} {S : yS} {d : Nat} (hI : yI S) {pl : Int} (h_pl : 0 ≤ pl ∧ pl ≤ 60000) {s : Nat} (h_s : yStr s) (p_0 : pl + 2 < S.f 31 1) (hd : 5 ≤ d) : yT xPr G LY xC114 0 [some ((2, 40)), some (vi pl), some ((6, s))] [] S d (fun r S' => ∃ z : Int, r = (1, vi z) ∧ 0 ≤ z ∧ z ≤ 1 ∧ S = S') := by
  refine yT_pad 0 ?_
  show yT xPr G LY xC114 0 [some ((2, 40)), some (vi pl), some ((6, s))] [] S d _
  obtain ⟨d, rfl⟩ : ∃ q, d = q + 1 := ⟨d - 1, by omega⟩
  have h1 := hI.b0
  refine r_load (i := 0) (u := 0) (w := 2) rfl rfl rfl ?_
  refine r_getf (i := 1) (v := 0) (w := 10) (x := (2, 31)) rfl ly40 rfl rfl fun _ => ?_
  refine r_load (i := 2) (u := 1) (w := 0) rfl rfl rfl ?_
  refine r_const (i := 3) (u := 3) (z := 3) rfl rfl ?_
  refine r_iadd (i := 4) rfl ?_
  refine r_load (i := 5) (u := 0) (w := 2) rfl rfl rfl ?_
  refine r_getf (i := 6) (v := 0) (w := 10) (x := (2, 31)) rfl ly40 rfl rfl fun _ => ?_
  refine r_load (i := 7) (u := 1) (w := 0) rfl rfl rfl ?_
  refine r_const (i := 8) (u := 1) (z := 1) rfl rfl ?_
  refine r_iadd (i := 9) rfl ?_
  have h4 := hI.bn
  have h5 := hI.br
  refine r_call (i := 10) (u := 7) (v := 26) (w := 0) (b := 0) (na := 514) (C2 := xC26) (as := [(2, 31), vi (pl + 1)]) (s := [vi (pl + 3), (2, 31)]) rfl rfl rfl rfl rfl rfl rfl (sp26_31 (k := pl + 1) hI ⟨by omega, by omega⟩ (by omega)  (by omega)) (fun r6 S7 hq8 => ?_)
  obtain ⟨z9, rfl, h10, h11, rfl⟩ := hq8
  refine Or.inr (Or.inl ⟨rfl, ?_⟩)
  refine r_load (i := 11) (u := 2) (w := 2) rfl rfl rfl ?_
  refine r_call (i := 12) (u := 7) (v := 34) (w := 0) (b := 0) (na := 1284) (C2 := xC34) (as := [(2, 31), vi (pl + 3), vi z9, (6, s)]) (s := []) rfl rfl rfl rfl rfl rfl rfl (sp34_31 (pl := pl + 3) (ln := z9) (s := s) hI ⟨by omega, by omega⟩ ⟨by omega, by omega⟩ h_s   (by omega)) (fun r12 S13 hq14 => ?_)
  obtain ⟨z15, rfl, h16, h17, rfl⟩ := hq14
  refine Or.inr (Or.inl ⟨rfl, ?_⟩)
  exact r_retZ (i := 13) rfl (by omega) (by omega) ⟨z15, rfl, by omega, by omega, rfl⟩
/-- ProxyForge$Reader.expectEntry -/
theorem sp110 {G : xk} {S : yS} {d : Nat} (hI : yI S) {t : Int} (h_t : -2147483648 ≤ t ∧ t ≤ 2147483647) (e_RD : RD S) (hd : 2 ≤ d) : yT xPr G LY xC110 0 [some ((2, 40)), some (vi t)] [] S d (fun r S' => r = (0, (0, 0)) ∧ (S'.f 40 5 = S.f 40 5 ∨ S'.f 40 5 ≠ -1) ∧ RD S' ∧ yI S' ∧ yFr [(40, 3), (40, 4), (40, 5)] [] S S' ∧ yRm [] S S') := by
  refine yT_pad 0 ?_
  show yT xPr G LY xC110 0 [some ((2, 40)), some (vi t)] [] S d _
  obtain ⟨d, rfl⟩ : ∃ q, d = q + 1 := ⟨d - 1, by omega⟩
  have hF : yFr [(40, 3), (40, 4), (40, 5)] [] S S := yFr.refl S
  have hR : yRm [] S S := yRm.refl S
  refine r_load (i := 0) (u := 0) (w := 2) rfl rfl rfl ?_
  refine r_load (i := 1) (u := 0) (w := 2) rfl rfl rfl ?_
  refine r_load (i := 2) (u := 0) (w := 2) rfl rfl rfl ?_
  refine r_const (i := 3) (u := 2) (z := 2) rfl rfl ?_
  have h1 := hI.f tf40_3
  have h2 := hI.b0
  have h3 := hI.f tf40_5
  refine r_call (i := 4) (u := 10) (v := 115) (w := 0) (b := 0) (na := 1026) (C2 := xC115) (as := [(2, 40), vi 2]) (s := [(2, 40), (2, 40)]) rfl rfl rfl rfl rfl rfl rfl (sp115 (w0 := 2) hI ⟨by omega, by omega⟩   (by omega)) (fun r4 S5 hq6 => ?_)
  obtain ⟨z7, rfl, h8, h9, h10, h11, h12, h13, h14, h15, hI16, hF17, hR18⟩ := hq6
  have hF19 := hF.trans hF17 rfl rfl
  have hR20 := hR.trans hR18 rfl
  have e21 := RDx.up e_RD hF17 hR18 rfl rfl rfl (by omega)
  refine Or.inr (Or.inl ⟨rfl, ?_⟩)
  refine r_load (i := 5) (u := 1) (w := 0) rfl rfl rfl ?_
  have h22 := hI16.f tf40_2
  have h23 : S5.f 40 2 = S.f 40 2 := hF17.f rfl
  refine r_call (i := 6) (u := 10) (v := 113) (w := 0) (b := 0) (na := 771) (C2 := xC113) (as := [(2, 40), vi z7, vi t]) (s := [(2, 40)]) rfl rfl rfl rfl rfl rfl rfl (sp113 (e := z7) (t := t) hI16 ⟨by omega, by omega⟩ ⟨by omega, by omega⟩  e21 (by omega)) (fun r24 S25 hq26 => ?_)
  obtain ⟨z27, rfl, h28, h29, h30, rfl⟩ := hq26
  refine Or.inr (Or.inl ⟨rfl, ?_⟩)
  have h31 := hI16.f tf40_5
  refine r_call (i := 7) (u := 10) (v := 125) (w := 0) (b := 0) (na := 514) (C2 := xC125) (as := [(2, 40), vi z27]) (s := []) rfl rfl rfl rfl rfl rfl rfl (sp125 (g0 := z27) hI16 ⟨by omega, by omega⟩   (by omega)) (fun r32 S33 hq34 => ?_)
  obtain ⟨rfl, h35, h36, hI37, hF38, hR39⟩ := hq34
  have hF40 := hF19.trans hF38 rfl rfl
  have hR41 := hR20.trans hR39 rfl
  have e42 := RDx.up e21 hF38 hR39 rfl rfl rfl (by omega)
  refine Or.inl ⟨rfl, ?_⟩
  have h43 := hI37.f tf40_5
  exact r_ret0 (i := 8) rfl ⟨rfl, (by omega), e42, hI37, hF40, hR41⟩
theorem lp109_6 {G : xk} {d : Nat} {S0 : yS}  (hd : 3 ≤ d + 1) : ∀ (n : Nat), ∀ (S : yS) (hI : yI S) (hF : yFr [(40, 3), (40, 4), (40, 5)] [] S0 S) (hR : yRm [] S0 S) (e_RD : RD S) (hm0 k : Int) (h_hm0 : 0 ≤ hm0 ∧ hm0 ≤ 65535) (h_k : 0 ≤ k ∧ k ≤ 65535) (q_0 : S.f 40 5 = S0.f 40 5 ∨ S.f 40 5 ≠ -1) (hn : 65536 - k < (n : Nat)), yT xPr G LY xC109 6 [some ((2, 40)), some (vi hm0), some (vi k)] [] S (d + 1) (fun r S' => r = (0, (0, 0)) ∧ (S'.f 40 5 = S0.f 40 5 ∨ S'.f 40 5 ≠ -1) ∧ RD S' ∧ yI S' ∧ yFr [(40, 3), (40, 4), (40, 5)] [] S0 S' ∧ yRm [] S0 S') := by
  intro n
  induction n with
  | zero => intro S hI hF hR e_RD hm0 k h_hm0 h_k q_0 hn; exact absurd hn (by omega)
  | succ n ih =>
    intro S hI hF hR e_RD hm0 k h_hm0 h_k q_0 hn
    have h1 := hI.f tf40_5
    refine r_load (i := 6) (u := 2) (w := 0) rfl rfl rfl ?_
    refine r_load (i := 7) (u := 1) (w := 0) rfl rfl rfl ?_
    refine c_ge (i := 8) (v := 18) rfl ⟨by omega, by omega⟩ ⟨by omega, by omega⟩ (fun h2 => ?_) (fun h3 => ?_)
    · exact r_ret0 (i := 18) rfl ⟨rfl, (by omega), e_RD, hI, hF, hR⟩
    · refine r_load (i := 9) (u := 0) (w := 2) rfl rfl rfl ?_
      refine r_getf (i := 10) (v := 5) (w := 10) (x := vi (S.f 40 5)) rfl ly40 rfl rfl fun h4 => ?_
      have h4 : Rg (S.f 40 5) := h4
      refine r_const (i := 11) (u := 4294967295) (z := -1) rfl rfl ?_
      refine c_ne (i := 12) (v := 18) rfl ⟨by omega, by omega⟩ ⟨by omega, by omega⟩ (fun h5 => ?_) (fun h6 => ?_)
      · exact r_ret0 (i := 18) rfl ⟨rfl, (by omega), e_RD, hI, hF, hR⟩
      · refine r_load (i := 13) (u := 0) (w := 2) rfl rfl rfl ?_
        refine r_const (i := 14) (u := 7) (z := 7) rfl rfl ?_
        refine r_call (i := 15) (u := 10) (v := 110) (w := 0) (b := 0) (na := 514) (C2 := xC110) (as := [(2, 40), vi 7]) (s := []) rfl rfl rfl rfl rfl rfl rfl (sp110 (t := 7) hI ⟨by omega, by omega⟩  e_RD (by omega)) (fun r7 S8 hq9 => ?_)
        obtain ⟨rfl, h10, e11, hI12, hF13, hR14⟩ := hq9
        have hF15 := hF.trans hF13 rfl rfl
        have hR16 := hR.trans hR14 rfl
        refine Or.inl ⟨rfl, ?_⟩
        refine r_iinc (i := 16) (u := 1) (v := 2) (s := 1) (L1 := [some ((2, 40)), some (vi hm0), some (vi (k + 1))]) rfl rfl rfl rfl rfl ?_
        refine r_goto (i := 17) (v := 6) rfl ?_
        have h17 := hI12.f tf40_5
        exact ih S8 hI12 hF15 hR16 e11 hm0 (k + 1) ⟨by omega, by omega⟩ ⟨by omega, by omega⟩ (by omega) (by omega)
/-- ProxyForge$Reader.expectClasses -/
theorem sp109 {G : xk} {S : yS} {d : Nat} (hI : yI S) (e_RD : RD S) (hd : 3 ≤ d) : yT xPr G LY xC109 0 [some ((2, 40))] [] S d (fun r S' => r = (0, (0, 0)) ∧ (S'.f 40 5 = S.f 40 5 ∨ S'.f 40 5 ≠ -1) ∧ RD S' ∧ yI S' ∧ yFr [(40, 3), (40, 4), (40, 5)] [] S S' ∧ yRm [] S S') := by
  refine yT_pad 2 ?_
  show yT xPr G LY xC109 0 [some ((2, 40)), none, none] [] S d _
  obtain ⟨d, rfl⟩ : ∃ q, d = q + 1 := ⟨d - 1, by omega⟩
  have hF : yFr [(40, 3), (40, 4), (40, 5)] [] S S := yFr.refl S
  have hR : yRm [] S S := yRm.refl S
  refine r_load (i := 0) (u := 0) (w := 2) rfl rfl rfl ?_
  refine r_const (i := 1) (u := 2) (z := 2) rfl rfl ?_
  have h1 := hI.f tf40_3
  have h2 := hI.b0
  have h3 := hI.f tf40_5
  refine r_call (i := 2) (u := 10) (v := 115) (w := 0) (b := 0) (na := 1026) (C2 := xC115) (as := [(2, 40), vi 2]) (s := []) rfl rfl rfl rfl rfl rfl rfl (sp115 (w0 := 2) hI ⟨by omega, by omega⟩   (by omega)) (fun r4 S5 hq6 => ?_)
  obtain ⟨z7, rfl, h8, h9, h10, h11, h12, h13, h14, h15, hI16, hF17, hR18⟩ := hq6
  have hF19 := hF.trans hF17 rfl rfl
  have hR20 := hR.trans hR18 rfl
  have e21 := RDx.up e_RD hF17 hR18 rfl rfl rfl (by omega)
  refine Or.inr (Or.inl ⟨rfl, ?_⟩)
  refine r_store (i := 3) (u := 1) (w := 0) (L1 := [some ((2, 40)), some (vi z7), none]) rfl rfl rfl rfl ?_
  refine r_const (i := 4) (u := 0) (z := 0) rfl rfl ?_
  refine r_store (i := 5) (u := 2) (w := 0) (L1 := [some ((2, 40)), some (vi z7), some (vi 0)]) rfl rfl rfl rfl ?_
  have h22 := hI16.f tf40_5
  exact lp109_6   hd _ S5 hI16 hF19 hR20 e21 z7 0 ⟨by omega, by omega⟩ ⟨by omega, by omega⟩ (by omega) (Int.lt_succ_toNat _)
/-- ProxyForge$Reader.expectText -/
theorem sp111 {G : xk} {S : yS} {d : Nat} (hI : yI S) {s : Nat} (h_s : yStr s) (e_RD : RD S) (hd : 6 ≤ d) : yT xPr G LY xC111 0 [some ((2, 40)), some ((6, s))] [] S d (fun r S' => r = (0, (0, 0)) ∧ (S'.f 40 5 = S.f 40 5 ∨ S'.f 40 5 ≠ -1) ∧ RD S' ∧ yI S' ∧ yFr [(40, 3), (40, 4), (40, 5)] [] S S' ∧ yRm [] S S') := by
  refine yT_pad 1 ?_
  show yT xPr G LY xC111 0 [some ((2, 40)), some ((6, s)), none] [] S d _
  obtain ⟨d, rfl⟩ : ∃ q, d = q + 1 := ⟨d - 1, by omega⟩
  have hF : yFr [(40, 3), (40, 4), (40, 5)] [] S S := yFr.refl S
  have hR : yRm [] S S := yRm.refl S
  refine r_load (i := 0) (u := 0) (w := 2) rfl rfl rfl ?_
  refine r_const (i := 1) (u := 2) (z := 2) rfl rfl ?_
  have h1 := hI.f tf40_3
  have h2 := hI.b0
  have h3 := hI.f tf40_5
  refine r_call (i := 2) (u := 10) (v := 115) (w := 0) (b := 0) (na := 1026) (C2 := xC115) (as := [(2, 40), vi 2]) (s := []) rfl rfl rfl rfl rfl rfl rfl (sp115 (w0 := 2) hI ⟨by omega, by omega⟩   (by omega)) (fun r4 S5 hq6 => ?_)
  obtain ⟨z7, rfl, h8, h9, h10, h11, h12, h13, h14, h15, hI16, hF17, hR18⟩ := hq6
  have hF19 := hF.trans hF17 rfl rfl
  have hR20 := hR.trans hR18 rfl
  have e21 := RDx.up e_RD hF17 hR18 rfl rfl rfl (by omega)
  refine Or.inr (Or.inl ⟨rfl, ?_⟩)
  refine r_store (i := 3) (u := 2) (w := 0) (L1 := [some ((2, 40)), some ((6, s)), some (vi z7)]) rfl rfl rfl rfl ?_
  refine r_load (i := 4) (u := 0) (w := 2) rfl rfl rfl ?_
  refine r_load (i := 5) (u := 0) (w := 2) rfl rfl rfl ?_
  refine r_load (i := 6) (u := 2) (w := 0) rfl rfl rfl ?_
  refine r_const (i := 7) (u := 1) (z := 1) rfl rfl ?_
  have h22 := hI16.f tf40_2
  have h23 : S5.f 40 2 = S.f 40 2 := hF17.f rfl
  refine r_call (i := 8) (u := 10) (v := 113) (w := 0) (b := 0) (na := 771) (C2 := xC113) (as := [(2, 40), vi z7, vi 1]) (s := [(2, 40)]) rfl rfl rfl rfl rfl rfl rfl (sp113 (e := z7) (t := 1) hI16 ⟨by omega, by omega⟩ ⟨by omega, by omega⟩  e21 (by omega)) (fun r24 S25 hq26 => ?_)
  obtain ⟨z27, rfl, h28, h29, h30, rfl⟩ := hq26
  refine Or.inr (Or.inl ⟨rfl, ?_⟩)
  refine z_eq (i := 9) (v := 20) rfl ⟨by omega, by omega⟩ (fun h31 => ?_) (fun h32 => ?_)
  · refine r_const (i := 20) (u := 0) (z := 0) rfl rfl ?_
    have h33 := hI16.f tf40_5
    refine r_call (i := 21) (u := 10) (v := 125) (w := 0) (b := 0) (na := 514) (C2 := xC125) (as := [(2, 40), vi 0]) (s := []) rfl rfl rfl rfl rfl rfl rfl (sp125 (g0 := 0) hI16 ⟨by omega, by omega⟩   (by omega)) (fun r34 S35 hq36 => ?_)
    obtain ⟨rfl, h37, h38, hI39, hF40, hR41⟩ := hq36
    have hF42 := hF19.trans hF40 rfl rfl
    have hR43 := hR20.trans hR41 rfl
    have e44 := RDx.up e21 hF40 hR41 rfl rfl rfl (by omega)
    refine Or.inl ⟨rfl, ?_⟩
    have h45 := hI39.f tf40_5
    exact r_ret0 (i := 22) rfl ⟨rfl, (by omega), e44, hI39, hF42, hR43⟩
  · refine r_load (i := 10) (u := 0) (w := 2) rfl rfl rfl ?_
    refine r_load (i := 11) (u := 0) (w := 2) rfl rfl rfl ?_
    refine r_getf (i := 12) (v := 1) (w := 10) (x := (2, S5.p 4)) rfl ly40 rfl rfl fun _ => ?_
    refine r_load (i := 13) (u := 2) (w := 0) rfl rfl rfl ?_
    have rd9 := (e21).1
    have b09 := (hI16).b0
    have h48 := hI16.bn
    have h49 := hI16.br
    have h50 : S5.n 0 = S.n 0 := hR18.eq rfl rfl
    have h51 : S5.n 1 = S.n 1 := hR18.eq rfl rfl
    have h52 : S5.n 2 = S.n 2 := hR18.eq rfl rfl
    have h53 : S5.n 3 = S.n 3 := hR18.eq rfl rfl
    have h54 : S5.n 4 = S.n 4 := hR18.eq rfl rfl
    refine g_iload (i := 14) (k := 4) rfl rfl rfl (by omega) (by omega) fun h47 => ?_
    have h47 : Rg (S5.a 104 z7.toNat) := h47
    refine r_load (i := 15) (u := 1) (w := 2) rfl rfl rfl ?_
    have rd7 := (e21).2.1 z7.toNat (by omega) (by omega)
    have rd8 := (e21).2.2 (by omega) z7.toNat (by omega) (by omega)
    have h55 := hI16.b0
    have h56 : S5.f 31 1 = S.f 31 1 := hF17.f rfl
    refine r_call (i := 16) (u := 10) (v := 114) (w := 0) (b := 0) (na := 771) (C2 := xC114) (as := [(2, 40), vi (S5.a 104 z7.toNat), (6, s)]) (s := [(2, 40)]) rfl rfl rfl rfl rfl rfl rfl (sp114 (pl := S5.a 104 z7.toNat) (s := s) hI16 ⟨by omega, by omega⟩ h_s (by omega)  (by omega)) (fun r57 S58 hq59 => ?_)
    obtain ⟨z60, rfl, h61, h62, rfl⟩ := hq59
    refine Or.inr (Or.inl ⟨rfl, ?_⟩)
    refine z_eq (i := 17) (v := 20) rfl ⟨by omega, by omega⟩ (fun h63 => ?_) (fun h64 => ?_)
    · refine r_const (i := 20) (u := 0) (z := 0) rfl rfl ?_
      have h65 := hI16.f tf40_5
      refine r_call (i := 21) (u := 10) (v := 125) (w := 0) (b := 0) (na := 514) (C2 := xC125) (as := [(2, 40), vi 0]) (s := []) rfl rfl rfl rfl rfl rfl rfl (sp125 (g0 := 0) hI16 ⟨by omega, by omega⟩   (by omega)) (fun r66 S67 hq68 => ?_)
      obtain ⟨rfl, h69, h70, hI71, hF72, hR73⟩ := hq68
      have hF74 := hF19.trans hF72 rfl rfl
      have hR75 := hR20.trans hR73 rfl
      have e76 := RDx.up e21 hF72 hR73 rfl rfl rfl (by omega)
      refine Or.inl ⟨rfl, ?_⟩
      have h77 := hI71.f tf40_5
      exact r_ret0 (i := 22) rfl ⟨rfl, (by omega), e76, hI71, hF74, hR75⟩
    · refine r_const (i := 18) (u := 1) (z := 1) rfl rfl ?_
      refine r_goto (i := 19) (v := 21) rfl ?_
      have h78 := hI16.f tf40_5
      refine r_call (i := 21) (u := 10) (v := 125) (w := 0) (b := 0) (na := 514) (C2 := xC125) (as := [(2, 40), vi 1]) (s := []) rfl rfl rfl rfl rfl rfl rfl (sp125 (g0 := 1) hI16 ⟨by omega, by omega⟩   (by omega)) (fun r79 S80 hq81 => ?_)
      obtain ⟨rfl, h82, h83, hI84, hF85, hR86⟩ := hq81
      have hF87 := hF19.trans hF85 rfl rfl
      have hR88 := hR20.trans hR86 rfl
      have e89 := RDx.up e21 hF85 hR86 rfl rfl rfl (by omega)
      refine Or.inl ⟨rfl, ?_⟩
      have h90 := hI84.f tf40_5
      exact r_ret0 (i := 22) rfl ⟨rfl, (by omega), e89, hI84, hF87, hR88⟩
/-- ProxyForge$Reader.checkReference -/
theorem sp107 {G : xk} {S : yS} {d : Nat} (hI : yI S) {pl : Int} (h_pl : 0 ≤ pl ∧ pl ≤ 60010) {t : Int} (h_t : -2147483648 ≤ t ∧ t ≤ 2147483647) (p_0 : pl + 1 < S.n 0) (p_1 : pl ≤ 60000) (e_RD : RD S) (hd : 2 ≤ d) : yT xPr G LY xC107 0 [some ((2, 40)), some (vi pl), some (vi t)] [] S d (fun r S' => r = (0, (0, 0)) ∧ (S'.f 40 5 = S.f 40 5 ∨ S'.f 40 5 ≠ -1) ∧ RD S' ∧ yI S' ∧ yFr [(40, 5)] [] S S' ∧ yRm [] S S') := by
  refine yT_pad 0 ?_
  show yT xPr G LY xC107 0 [some ((2, 40)), some (vi pl), some (vi t)] [] S d _
  obtain ⟨d, rfl⟩ : ∃ q, d = q + 1 := ⟨d - 1, by omega⟩
  have hF : yFr [(40, 5)] [] S S := yFr.refl S
  have hR : yRm [] S S := yRm.refl S
  have h1 := hI.bn
  have h2 := hI.br
  refine r_load (i := 0) (u := 0) (w := 2) rfl rfl rfl ?_
  have h3 := hI.f tf40_5
  refine r_getf (i := 1) (v := 5) (w := 10) (x := vi (S.f 40 5)) rfl ly40 rfl rfl fun h4 => ?_
  have h4 : Rg (S.f 40 5) := h4
  refine r_const (i := 2) (u := 4294967295) (z := -1) rfl rfl ?_
  refine c_ne (i := 3) (v := 15) rfl ⟨by omega, by omega⟩ ⟨by omega, by omega⟩ (fun h5 => ?_) (fun h6 => ?_)
  · exact r_ret0 (i := 15) rfl ⟨rfl, (by omega), e_RD, hI, hF, hR⟩
  · refine r_load (i := 4) (u := 0) (w := 2) rfl rfl rfl ?_
    refine r_load (i := 5) (u := 0) (w := 2) rfl rfl rfl ?_
    refine r_getf (i := 6) (v := 0) (w := 10) (x := (2, 31)) rfl ly40 rfl rfl fun _ => ?_
    refine r_load (i := 7) (u := 1) (w := 0) rfl rfl rfl ?_
    refine r_call (i := 8) (u := 7) (v := 26) (w := 0) (b := 0) (na := 514) (C2 := xC26) (as := [(2, 31), vi pl]) (s := [(2, 40)]) rfl rfl rfl rfl rfl rfl rfl (sp26_31 (k := pl) hI ⟨by omega, by omega⟩ (by omega)  (by omega)) (fun r8 S9 hq10 => ?_)
    obtain ⟨z11, rfl, h12, h13, rfl⟩ := hq10
    refine Or.inr (Or.inl ⟨rfl, ?_⟩)
    refine r_load (i := 9) (u := 2) (w := 0) rfl rfl rfl ?_
    have h14 := hI.f tf40_2
    refine r_call (i := 10) (u := 10) (v := 113) (w := 0) (b := 0) (na := 771) (C2 := xC113) (as := [(2, 40), vi z11, vi t]) (s := []) rfl rfl rfl rfl rfl rfl rfl (sp113 (e := z11) (t := t) hI ⟨by omega, by omega⟩ ⟨by omega, by omega⟩  e_RD (by omega)) (fun r15 S16 hq17 => ?_)
    obtain ⟨z18, rfl, h19, h20, h21, rfl⟩ := hq17
    refine Or.inr (Or.inl ⟨rfl, ?_⟩)
    refine z_ne (i := 11) (v := 15) rfl ⟨by omega, by omega⟩ (fun h22 => ?_) (fun h23 => ?_)
    · exact r_ret0 (i := 15) rfl ⟨rfl, (by omega), e_RD, hI, hF, hR⟩
    · refine r_load (i := 12) (u := 0) (w := 2) rfl rfl rfl ?_
      refine r_load (i := 13) (u := 1) (w := 0) rfl rfl rfl ?_
      refine r_putI (i := 14) (v := 5) (w := 10) rfl ly40 rfl ⟨by omega, by omega⟩ ?_
      have hI25 := hI.setf (b := 40) (w := 5) (z := pl) tf40_5 rfl (by omega) (by omega)
      have hF27 := hF.setf (b := 40) (w := 5) (z := pl) rfl
      have hR28 := hR.setf (b := 40) (w := 5) (z := pl)
      have e29 := RDx.flt e_RD (z := pl) (by omega)
      refine yT_gen (fun S24 hS26 => ?_)
      rw [hS26] at hI25 hF27 hR28 e29
      have h30 := hI25.f tf40_5
      have h31 : S24.f 40 5 = pl := by rw [← hS26]; exact ysf_eq
      exact r_ret0 (i := 15) rfl ⟨rfl, (by omega), e29, hI25, hF27, hR28⟩
theorem lp106_2 {G : xk} {d : Nat} {S0 : yS}  (hd : 3 ≤ d + 1) : ∀ (n : Nat), ∀ (S : yS) (hI : yI S) (hF : yFr [(40, 5)] [] S0 S) (hR : yRm [] S0 S) (e_RD : RD S) (k : Int) (h_k : 1 ≤ k ∧ k ≤ 60001) (q_0 : S.f 40 5 = S0.f 40 5 ∨ S.f 40 5 ≠ -1) (hn : 60002 - k < (n : Nat)), yT xPr G LY xC106 2 [some ((2, 40)), some (vi k), none, none] [] S (d + 1) (fun r S' => r = (0, (0, 0)) ∧ (S'.f 40 5 = S0.f 40 5 ∨ S'.f 40 5 ≠ -1) ∧ RD S' ∧ yI S' ∧ yFr [(40, 5)] [] S0 S' ∧ yRm [] S0 S') := by
  intro n
  induction n with
  | zero => intro S hI hF hR e_RD k h_k q_0 hn; exact absurd hn (by omega)
  | succ n ih =>
    intro S hI hF hR e_RD k h_k q_0 hn
    have h1 := hI.f tf40_5
    refine r_load (i := 2) (u := 1) (w := 0) rfl rfl rfl ?_
    refine r_load (i := 3) (u := 0) (w := 2) rfl rfl rfl ?_
    have h2 := hI.f tf40_2
    have h3 : S.f 40 2 = S0.f 40 2 := hF.f rfl
    refine r_getf (i := 4) (v := 2) (w := 10) (x := vi (S.f 40 2)) rfl ly40 rfl rfl fun h4 => ?_
    have h4 : Rg (S.f 40 2) := h4
    refine c_gt (i := 5) (v := 63) rfl ⟨by omega, by omega⟩ ⟨by omega, by omega⟩ (fun h5 => ?_) (fun h6 => ?_)
    · exact r_ret0 (i := 63) rfl ⟨rfl, (by omega), e_RD, hI, hF, hR⟩
    · refine r_load (i := 6) (u := 0) (w := 2) rfl rfl rfl ?_
      refine r_getf (i := 7) (v := 5) (w := 10) (x := vi (S.f 40 5)) rfl ly40 rfl rfl fun h7 => ?_
      have h7 : Rg (S.f 40 5) := h7
      refine r_const (i := 8) (u := 4294967295) (z := -1) rfl rfl ?_
      refine c_ne (i := 9) (v := 63) rfl ⟨by omega, by omega⟩ ⟨by omega, by omega⟩ (fun h8 => ?_) (fun h9 => ?_)
      · exact r_ret0 (i := 63) rfl ⟨rfl, (by omega), e_RD, hI, hF, hR⟩
      · refine r_load (i := 10) (u := 0) (w := 2) rfl rfl rfl ?_
        refine r_getf (i := 11) (v := 1) (w := 10) (x := (2, S.p 4)) rfl ly40 rfl rfl fun _ => ?_
        refine r_load (i := 12) (u := 1) (w := 0) rfl rfl rfl ?_
        have rd9 := (e_RD).1
        have b09 := (hI).b0
        have h12 := hI.bn
        have h13 := hI.br
        have h14 : S.n 0 = S0.n 0 := hR.eq rfl rfl
        have h15 : S.n 1 = S0.n 1 := hR.eq rfl rfl
        have h16 : S.n 2 = S0.n 2 := hR.eq rfl rfl
        have h17 : S.n 3 = S0.n 3 := hR.eq rfl rfl
        have h18 : S.n 4 = S0.n 4 := hR.eq rfl rfl
        refine g_iload (i := 13) (k := 4) rfl rfl rfl (by omega) (by omega) fun h11 => ?_
        have h11 : Rg (S.a 104 k.toNat) := h11
        refine r_store (i := 14) (u := 2) (w := 0) (L1 := [some ((2, 40)), some (vi k), some (vi (S.a 104 k.toNat)), none]) rfl rfl rfl rfl ?_
        have rd7 := (e_RD).2.1 k.toNat (by omega) (by omega)
        have rd8 := (e_RD).2.2 (by omega) k.toNat (by omega) (by omega)
        have bn9 := (hI).b0
        refine r_load (i := 15) (u := 0) (w := 2) rfl rfl rfl ?_
        refine r_getf (i := 16) (v := 0) (w := 10) (x := (2, 31)) rfl ly40 rfl rfl fun _ => ?_
        refine r_load (i := 17) (u := 2) (w := 0) rfl rfl rfl ?_
        refine r_call (i := 18) (u := 7) (v := 25) (w := 0) (b := 0) (na := 514) (C2 := xC25) (as := [(2, 31), vi (S.a 104 k.toNat)]) (s := []) rfl rfl rfl rfl rfl rfl rfl (sp25_31 (k := S.a 104 k.toNat) hI ⟨by omega, by omega⟩ (by omega)  (by omega)) (fun r20 S21 hq22 => ?_)
        obtain ⟨z23, rfl, h24, h25, h26, rfl⟩ := hq22
        refine Or.inr (Or.inl ⟨rfl, ?_⟩)
        refine r_store (i := 19) (u := 3) (w := 0) (L1 := [some ((2, 40)), some (vi k), some (vi (S.a 104 k.toNat)), some (vi z23)]) rfl rfl rfl rfl ?_
        unfold tg at rd8
        refine r_load (i := 20) (u := 3) (w := 0) rfl rfl rfl ?_
        refine r_const (i := 21) (u := 7) (z := 7) rfl rfl ?_
        refine c_ne (i := 22) (v := 30) rfl ⟨by omega, by omega⟩ ⟨by omega, by omega⟩ (fun h27 => ?_) (fun h28 => ?_)
        · refine r_load (i := 30) (u := 3) (w := 0) rfl rfl rfl ?_
          refine r_const (i := 31) (u := 12) (z := 12) rfl rfl ?_
          refine c_ne (i := 32) (v := 46) rfl ⟨by omega, by omega⟩ ⟨by omega, by omega⟩ (fun h29 => ?_) (fun h30 => ?_)
          · refine r_load (i := 46) (u := 3) (w := 0) rfl rfl rfl ?_
            refine r_const (i := 47) (u := 1) (z := 1) rfl rfl ?_
            refine c_eq (i := 48) (v := 61) rfl ⟨by omega, by omega⟩ ⟨by omega, by omega⟩ (fun h31 => ?_) (fun h32 => ?_)
            · refine r_iinc (i := 61) (u := 1) (v := 1) (s := 1) (L1 := [some ((2, 40)), some (vi (k + 1)), some (vi (S.a 104 k.toNat)), some (vi z23)]) rfl rfl rfl rfl rfl ?_
              refine r_goto (i := 62) (v := 2) rfl ?_
              refine yT_drop (L1 := [some ((2, 40)), some (vi (k + 1)), none, none]) rfl ?_
              exact ih S hI hF hR e_RD (k + 1) ⟨by omega, by omega⟩ (by omega) (by omega)
            · refine r_load (i := 49) (u := 0) (w := 2) rfl rfl rfl ?_
              refine r_load (i := 50) (u := 2) (w := 0) rfl rfl rfl ?_
              refine r_const (i := 51) (u := 1) (z := 1) rfl rfl ?_
              refine r_iadd (i := 52) rfl ?_
              refine r_const (i := 53) (u := 7) (z := 7) rfl rfl ?_
              refine r_call (i := 54) (u := 10) (v := 107) (w := 0) (b := 0) (na := 771) (C2 := xC107) (as := [(2, 40), vi ((S.a 104 k.toNat) + 1), vi 7]) (s := []) rfl rfl rfl rfl rfl rfl rfl (sp107 (pl := (S.a 104 k.toNat) + 1) (t := 7) hI ⟨by omega, by omega⟩ ⟨by omega, by omega⟩ (by omega) (by omega) e_RD (by omega)) (fun r33 S34 hq35 => ?_)
              obtain ⟨rfl, h36, e37, hI38, hF39, hR40⟩ := hq35
              have hF41 := hF.trans hF39 rfl rfl
              have hR42 := hR.trans hR40 rfl
              refine Or.inl ⟨rfl, ?_⟩
              refine r_load (i := 55) (u := 0) (w := 2) rfl rfl rfl ?_
              refine r_load (i := 56) (u := 2) (w := 0) rfl rfl rfl ?_
              refine r_const (i := 57) (u := 3) (z := 3) rfl rfl ?_
              refine r_iadd (i := 58) rfl ?_
              refine r_const (i := 59) (u := 12) (z := 12) rfl rfl ?_
              have h43 := hI38.bn
              have h44 := hI38.br
              have h45 : S34.n 0 = S.n 0 := hR40.eq rfl rfl
              have h46 : S34.n 1 = S.n 1 := hR40.eq rfl rfl
              have h47 : S34.n 2 = S.n 2 := hR40.eq rfl rfl
              have h48 : S34.n 3 = S.n 3 := hR40.eq rfl rfl
              have h49 : S34.n 4 = S.n 4 := hR40.eq rfl rfl
              have h50 : S.n 0 = S0.n 0 := hR.eq rfl rfl
              have h51 : S.n 1 = S0.n 1 := hR.eq rfl rfl
              have h52 : S.n 2 = S0.n 2 := hR.eq rfl rfl
              have h53 : S.n 3 = S0.n 3 := hR.eq rfl rfl
              have h54 : S.n 4 = S0.n 4 := hR.eq rfl rfl
              have h55 := hI38.f tf40_5
              refine r_call (i := 60) (u := 10) (v := 107) (w := 0) (b := 0) (na := 771) (C2 := xC107) (as := [(2, 40), vi ((S.a 104 k.toNat) + 3), vi 12]) (s := []) rfl rfl rfl rfl rfl rfl rfl (sp107 (pl := (S.a 104 k.toNat) + 3) (t := 12) hI38 ⟨by omega, by omega⟩ ⟨by omega, by omega⟩ (by omega) (by omega) e37 (by omega)) (fun r56 S57 hq58 => ?_)
              obtain ⟨rfl, h59, e60, hI61, hF62, hR63⟩ := hq58
              have hF64 := hF41.trans hF62 rfl rfl
              have hR65 := hR42.trans hR63 rfl
              refine Or.inl ⟨rfl, ?_⟩
              refine r_iinc (i := 61) (u := 1) (v := 1) (s := 1) (L1 := [some ((2, 40)), some (vi (k + 1)), some (vi (S.a 104 k.toNat)), some (vi z23)]) rfl rfl rfl rfl rfl ?_
              refine r_goto (i := 62) (v := 2) rfl ?_
              refine yT_drop (L1 := [some ((2, 40)), some (vi (k + 1)), none, none]) rfl ?_
              have h66 := hI61.f tf40_5
              exact ih S57 hI61 hF64 hR65 e60 (k + 1) ⟨by omega, by omega⟩ (by omega) (by omega)
          · refine r_load (i := 33) (u := 0) (w := 2) rfl rfl rfl ?_
            refine r_load (i := 34) (u := 2) (w := 0) rfl rfl rfl ?_
            refine r_const (i := 35) (u := 1) (z := 1) rfl rfl ?_
            refine r_iadd (i := 36) rfl ?_
            refine r_const (i := 37) (u := 1) (z := 1) rfl rfl ?_
            refine r_call (i := 38) (u := 10) (v := 107) (w := 0) (b := 0) (na := 771) (C2 := xC107) (as := [(2, 40), vi ((S.a 104 k.toNat) + 1), vi 1]) (s := []) rfl rfl rfl rfl rfl rfl rfl (sp107 (pl := (S.a 104 k.toNat) + 1) (t := 1) hI ⟨by omega, by omega⟩ ⟨by omega, by omega⟩ (by omega) (by omega) e_RD (by omega)) (fun r67 S68 hq69 => ?_)
            obtain ⟨rfl, h70, e71, hI72, hF73, hR74⟩ := hq69
            have hF75 := hF.trans hF73 rfl rfl
            have hR76 := hR.trans hR74 rfl
            refine Or.inl ⟨rfl, ?_⟩
            refine r_load (i := 39) (u := 0) (w := 2) rfl rfl rfl ?_
            refine r_load (i := 40) (u := 2) (w := 0) rfl rfl rfl ?_
            refine r_const (i := 41) (u := 3) (z := 3) rfl rfl ?_
            refine r_iadd (i := 42) rfl ?_
            refine r_const (i := 43) (u := 1) (z := 1) rfl rfl ?_
            have h77 := hI72.bn
            have h78 := hI72.br
            have h79 : S68.n 0 = S.n 0 := hR74.eq rfl rfl
            have h80 : S68.n 1 = S.n 1 := hR74.eq rfl rfl
            have h81 : S68.n 2 = S.n 2 := hR74.eq rfl rfl
            have h82 : S68.n 3 = S.n 3 := hR74.eq rfl rfl
            have h83 : S68.n 4 = S.n 4 := hR74.eq rfl rfl
            have h84 : S.n 0 = S0.n 0 := hR.eq rfl rfl
            have h85 : S.n 1 = S0.n 1 := hR.eq rfl rfl
            have h86 : S.n 2 = S0.n 2 := hR.eq rfl rfl
            have h87 : S.n 3 = S0.n 3 := hR.eq rfl rfl
            have h88 : S.n 4 = S0.n 4 := hR.eq rfl rfl
            have h89 := hI72.f tf40_5
            refine r_call (i := 44) (u := 10) (v := 107) (w := 0) (b := 0) (na := 771) (C2 := xC107) (as := [(2, 40), vi ((S.a 104 k.toNat) + 3), vi 1]) (s := []) rfl rfl rfl rfl rfl rfl rfl (sp107 (pl := (S.a 104 k.toNat) + 3) (t := 1) hI72 ⟨by omega, by omega⟩ ⟨by omega, by omega⟩ (by omega) (by omega) e71 (by omega)) (fun r90 S91 hq92 => ?_)
            obtain ⟨rfl, h93, e94, hI95, hF96, hR97⟩ := hq92
            have hF98 := hF75.trans hF96 rfl rfl
            have hR99 := hR76.trans hR97 rfl
            refine Or.inl ⟨rfl, ?_⟩
            refine r_goto (i := 45) (v := 61) rfl ?_
            refine r_iinc (i := 61) (u := 1) (v := 1) (s := 1) (L1 := [some ((2, 40)), some (vi (k + 1)), some (vi (S.a 104 k.toNat)), some (vi z23)]) rfl rfl rfl rfl rfl ?_
            refine r_goto (i := 62) (v := 2) rfl ?_
            refine yT_drop (L1 := [some ((2, 40)), some (vi (k + 1)), none, none]) rfl ?_
            have h100 := hI95.f tf40_5
            exact ih S91 hI95 hF98 hR99 e94 (k + 1) ⟨by omega, by omega⟩ (by omega) (by omega)
        · refine r_load (i := 23) (u := 0) (w := 2) rfl rfl rfl ?_
          refine r_load (i := 24) (u := 2) (w := 0) rfl rfl rfl ?_
          refine r_const (i := 25) (u := 1) (z := 1) rfl rfl ?_
          refine r_iadd (i := 26) rfl ?_
          refine r_const (i := 27) (u := 1) (z := 1) rfl rfl ?_
          refine r_call (i := 28) (u := 10) (v := 107) (w := 0) (b := 0) (na := 771) (C2 := xC107) (as := [(2, 40), vi ((S.a 104 k.toNat) + 1), vi 1]) (s := []) rfl rfl rfl rfl rfl rfl rfl (sp107 (pl := (S.a 104 k.toNat) + 1) (t := 1) hI ⟨by omega, by omega⟩ ⟨by omega, by omega⟩ (by omega) (by omega) e_RD (by omega)) (fun r101 S102 hq103 => ?_)
          obtain ⟨rfl, h104, e105, hI106, hF107, hR108⟩ := hq103
          have hF109 := hF.trans hF107 rfl rfl
          have hR110 := hR.trans hR108 rfl
          refine Or.inl ⟨rfl, ?_⟩
          refine r_goto (i := 29) (v := 61) rfl ?_
          refine r_iinc (i := 61) (u := 1) (v := 1) (s := 1) (L1 := [some ((2, 40)), some (vi (k + 1)), some (vi (S.a 104 k.toNat)), some (vi z23)]) rfl rfl rfl rfl rfl ?_
          refine r_goto (i := 62) (v := 2) rfl ?_
          refine yT_drop (L1 := [some ((2, 40)), some (vi (k + 1)), none, none]) rfl ?_
          have h111 := hI106.f tf40_5
          exact ih S102 hI106 hF109 hR110 e105 (k + 1) ⟨by omega, by omega⟩ (by omega) (by omega)
/-- ProxyForge$Reader.checkPool -/
theorem sp106 {G : xk} {S : yS} {d : Nat} (hI : yI S) (e_RD : RD S) (hd : 3 ≤ d) : yT xPr G LY xC106 0 [some ((2, 40))] [] S d (fun r S' => r = (0, (0, 0)) ∧ (S'.f 40 5 = S.f 40 5 ∨ S'.f 40 5 ≠ -1) ∧ RD S' ∧ yI S' ∧ yFr [(40, 5)] [] S S' ∧ yRm [] S S') := by
  refine yT_pad 3 ?_
  show yT xPr G LY xC106 0 [some ((2, 40)), none, none, none] [] S d _
  obtain ⟨d, rfl⟩ : ∃ q, d = q + 1 := ⟨d - 1, by omega⟩
  have hF : yFr [(40, 5)] [] S S := yFr.refl S
  have hR : yRm [] S S := yRm.refl S
  refine r_const (i := 0) (u := 1) (z := 1) rfl rfl ?_
  refine r_store (i := 1) (u := 1) (w := 0) (L1 := [some ((2, 40)), some (vi 1), none, none]) rfl rfl rfl rfl ?_
  have h1 := hI.f tf40_5
  exact lp106_2   hd _ S hI hF hR e_RD 1 ⟨by omega, by omega⟩ (by omega) (Int.lt_succ_toNat _)
/-- ProxyForge$Reader.addEntry -/
theorem sp104 {G : xk} {S : yS} {d : Nat} (hI : yI S) {pl : Int} (h_pl : 0 ≤ pl ∧ pl ≤ 60000) (p_0 : 0 ≤ pl ∧ pl < S.f 31 1) (p_1 : S.f 40 2 ≤ 59999) (e_RD : RD S) (hd : 4 ≤ d) : yT xPr G LY xC104 0 [some ((2, 40)), some (vi pl)] [] S d (fun r S' => r = (0, (0, 0)) ∧ S'.a 104 (S'.f 40 2).toNat = pl ∧ (∀ p : Int, tg S' p = tg S p) ∧ S'.f 40 2 = S.f 40 2 + 1 ∧ RE S' ∧ yI S' ∧ yFr [(40, 2)] [104, 105] S S' ∧ yRm [4] S S') := by
  refine yT_pad 0 ?_
  show yT xPr G LY xC104 0 [some ((2, 40)), some (vi pl)] [] S d _
  obtain ⟨d, rfl⟩ : ∃ q, d = q + 1 := ⟨d - 1, by omega⟩
  have hF : yFr [(40, 2)] [104, 105] S S := yFr.refl S
  have hR : yRm [4] S S := yRm.refl S
  have h1 := hI.b0
  have h2 := hI.f tf40_2
  have rd9 := (e_RD).1
  refine r_load (i := 0) (u := 0) (w := 2) rfl rfl rfl ?_
  refine r_dup (i := 1) rfl rfl ?_
  refine r_getf (i := 2) (v := 2) (w := 10) (x := vi (S.f 40 2)) rfl ly40 rfl rfl fun h3 => ?_
  have h3 : Rg (S.f 40 2) := h3
  refine r_const (i := 3) (u := 1) (z := 1) rfl rfl ?_
  refine r_iadd (i := 4) rfl ?_
  refine r_putI (i := 5) (v := 2) (w := 10) rfl ly40 rfl ⟨by omega, by omega⟩ ?_
  have hI5 := hI.setf (b := 40) (w := 2) (z := (S.f 40 2) + 1) tf40_2 rfl (by omega) (by omega)
  have hF7 := hF.setf (b := 40) (w := 2) (z := (S.f 40 2) + 1) rfl
  have hR8 := hR.setf (b := 40) (w := 2) (z := (S.f 40 2) + 1)
  refine yT_gen (fun S4 hS6 => ?_)
  rw [hS6] at hI5 hF7 hR8 
  refine r_load (i := 6) (u := 0) (w := 2) rfl rfl rfl ?_
  have h9 := hI5.f tf40_2
  have h10 : S4.f 40 2 = (S.f 40 2) + 1 := by rw [← hS6]; exact ysf_eq
  refine r_getf (i := 7) (v := 2) (w := 10) (x := vi (S4.f 40 2)) rfl ly40 rfl rfl fun h11 => ?_
  have h11 : Rg (S4.f 40 2) := h11
  refine r_load (i := 8) (u := 0) (w := 2) rfl rfl rfl ?_
  refine r_getf (i := 9) (v := 1) (w := 10) (x := (2, S4.p 4)) rfl ly40 rfl rfl fun _ => ?_
  have h13 := hI5.bn
  have h14 := hI5.br
  have h15 : S4.n = S.n := by rw [← hS6]; rfl
  have h16 : S4.n 0 = S.n 0 := congrFun h15 0
  have h17 : S4.n 1 = S.n 1 := congrFun h15 1
  have h18 : S4.n 2 = S.n 2 := congrFun h15 2
  have h19 : S4.n 3 = S.n 3 := congrFun h15 3
  have h20 : S4.n 4 = S.n 4 := congrFun h15 4
  refine g_len (i := 10) (k := 4) rfl rfl (Or.inl (by decide)) (by first | exact Or.inl rfl | exact Or.inr rfl) fun h21 => ?_
  refine c_lt (i := 11) (v := 21) rfl ⟨by omega, by omega⟩ ⟨by omega, by omega⟩ (fun h22 => ?_) (fun h23 => ?_)
  · refine r_load (i := 21) (u := 0) (w := 2) rfl rfl rfl ?_
    refine r_getf (i := 22) (v := 1) (w := 10) (x := (2, S4.p 4)) rfl ly40 rfl rfl fun _ => ?_
    refine r_load (i := 23) (u := 0) (w := 2) rfl rfl rfl ?_
    refine r_getf (i := 24) (v := 2) (w := 10) (x := vi (S4.f 40 2)) rfl ly40 rfl rfl fun h25 => ?_
    have h25 : Rg (S4.f 40 2) := h25
    refine r_load (i := 25) (u := 1) (w := 0) rfl rfl rfl ?_
    refine g_istore (i := 26) (k := 4) rfl (Or.inl (by decide)) rfl (by omega) (by omega) ⟨by omega, by omega⟩ ?_
    have hI27 := hI5.setg (b := 104) (j := (S4.f 40 2).toNat) (z := pl) rfl rfl
    have hF29 := hF7.seta (b := 104) (j := (S4.f 40 2).toNat) (z := pl) rfl
    have hR30 := hR8.seta (b := 104) (j := (S4.f 40 2).toNat) (z := pl)
    refine yT_gen (fun S26 hS28 => ?_)
    rw [hS28] at hI27 hF29 hR30 
    have h31 := hI27.f tf40_2
    have h32 : S26.f 40 2 = S4.f 40 2 := by rw [← hS28]; rfl
    have h33 : S4.f 40 2 = (S.f 40 2) + 1 := by rw [← hS6]; exact ysf_eq
    have h34 := hI27.bn
    have h35 := hI27.br
    have h36 : S26.n = S4.n := by rw [← hS28]; rfl
    have h37 : S26.n 0 = S4.n 0 := congrFun h36 0
    have h38 : S26.n 1 = S4.n 1 := congrFun h36 1
    have h39 : S26.n 2 = S4.n 2 := congrFun h36 2
    have h40 : S26.n 3 = S4.n 3 := congrFun h36 3
    have h41 : S26.n 4 = S4.n 4 := congrFun h36 4
    have h42 : S4.n = S.n := by rw [← hS6]; rfl
    have h43 : S4.n 0 = S.n 0 := congrFun h42 0
    have h44 : S4.n 1 = S.n 1 := congrFun h42 1
    have h45 : S4.n 2 = S.n 2 := congrFun h42 2
    have h46 : S4.n 3 = S.n 3 := congrFun h42 3
    have h47 : S4.n 4 = S.n 4 := congrFun h42 4
    have h48 := hI27.b0
    have h49 : S26.f 31 1 = S4.f 31 1 := by rw [← hS28]; rfl
    have h50 : S4.f 31 1 = S.f 31 1 := by rw [← hS6]; exact ysf_ne (by decide)
    have h51 := hI27.f tf40_3
    have h52 : S26.f 40 3 = S4.f 40 3 := by rw [← hS28]; rfl
    have h53 : S4.f 40 3 = S.f 40 3 := by rw [← hS6]; exact ysf_ne (by decide)
    have h54 := hI27.f tf40_5
    have h55 : S26.f 40 5 = S4.f 40 5 := by rw [← hS28]; rfl
    have h56 : S4.f 40 5 = S.f 40 5 := by rw [← hS6]; exact ysf_ne (by decide)
    exact r_ret0 (i := 27) rfl ⟨rfl, (by (have e9 : S26.f 40 2 = S4.f 40 2 := (by rw [← hS28]; rfl)); rw [e9, ← hS28]; exact ysa_eq), (by intro p; subst_vars; rfl), (by omega), (by exact RE_push (pl := pl) e_RD p_0 (by omega) (by omega) (by omega) (by omega) (fun j => by subst_vars; rfl) (fun j hj => by rw [← hS28, ysa_ne (Or.inr (by omega))]; subst_vars; rfl) (by (have e9 : S26.f 40 2 = S4.f 40 2 := (by rw [← hS28]; rfl)); rw [e9, ← hS28]; exact ysa_eq)), hI27, hF29, hR30⟩
  · refine r_load (i := 12) (u := 0) (w := 2) rfl rfl rfl ?_
    refine r_load (i := 13) (u := 0) (w := 2) rfl rfl rfl ?_
    refine r_getf (i := 14) (v := 1) (w := 10) (x := (2, S4.p 4)) rfl ly40 rfl rfl fun _ => ?_
    refine r_const (i := 15) (u := 2) (z := 2) rfl rfl ?_
    refine r_load (i := 16) (u := 0) (w := 2) rfl rfl rfl ?_
    refine r_getf (i := 17) (v := 2) (w := 10) (x := vi (S4.f 40 2)) rfl ly40 rfl rfl fun h58 => ?_
    have h58 : Rg (S4.f 40 2) := h58
    refine r_imul (i := 18) rfl ?_
    refine r_grow10 (i := 19) (k := 4) (b := 40) (v := 1) (w := 10) hI5 rfl rfl rfl rfl ly40 rfl rfl (by decide) rfl (by omega) (by omega) (by omega) (by omega) (by omega) (fun S59 hG60 => ?_)
    have h64 := hG60.n 0 (by decide) (by decide)
    have h65 := hG60.n 1 (by decide) (by decide)
    have h66 := hG60.n 2 (by decide) (by decide)
    have h67 := hG60.n 3 (by decide) (by decide)
    have h68 := hG60.n1
    have hI61 := hI5.grow (by decide) hG60 ⟨by omega, by omega, by omega, by omega⟩ (by omega) (by omega) (by omega)
    have hF62 := hF7.grow hG60 rfl rfl
    have hR63 := hR8.grow hG60 (by decide) rfl (by omega) (by omega)
    refine r_load (i := 21) (u := 0) (w := 2) rfl rfl rfl ?_
    refine r_getf (i := 22) (v := 1) (w := 10) (x := (2, S59.p 4)) rfl ly40 rfl rfl fun _ => ?_
    refine r_load (i := 23) (u := 0) (w := 2) rfl rfl rfl ?_
    have h70 := hI61.f tf40_2
    have h71 : S59.f 40 2 = S4.f 40 2 := by rw [hG60.f]
    have h72 : S4.f 40 2 = (S.f 40 2) + 1 := by rw [← hS6]; exact ysf_eq
    refine r_getf (i := 24) (v := 2) (w := 10) (x := vi (S59.f 40 2)) rfl ly40 rfl rfl fun h73 => ?_
    have h73 : Rg (S59.f 40 2) := h73
    refine r_load (i := 25) (u := 1) (w := 0) rfl rfl rfl ?_
    have h74 := hI61.bn
    have h75 := hI61.br
    refine g_istore (i := 26) (k := 4) rfl (Or.inl (by decide)) rfl (by omega) (by omega) ⟨by omega, by omega⟩ ?_
    have hI77 := hI61.setg (b := 104) (j := (S59.f 40 2).toNat) (z := pl) rfl rfl
    have hF79 := hF62.seta (b := 104) (j := (S59.f 40 2).toNat) (z := pl) rfl
    have hR80 := hR63.seta (b := 104) (j := (S59.f 40 2).toNat) (z := pl)
    refine yT_gen (fun S76 hS78 => ?_)
    rw [hS78] at hI77 hF79 hR80 
    have h81 := hI77.f tf40_2
    have h82 : S76.f 40 2 = S59.f 40 2 := by rw [← hS78]; rfl
    have h83 : S59.f 40 2 = S4.f 40 2 := by rw [hG60.f]
    have h84 : S4.f 40 2 = (S.f 40 2) + 1 := by rw [← hS6]; exact ysf_eq
    have h85 := hI77.bn
    have h86 := hI77.br
    have h87 : S76.n = S59.n := by rw [← hS78]; rfl
    have h88 : S76.n 0 = S59.n 0 := congrFun h87 0
    have h89 : S76.n 1 = S59.n 1 := congrFun h87 1
    have h90 : S76.n 2 = S59.n 2 := congrFun h87 2
    have h91 : S76.n 3 = S59.n 3 := congrFun h87 3
    have h92 : S76.n 4 = S59.n 4 := congrFun h87 4
    have h93 := hI77.b0
    have h94 : S76.f 31 1 = S59.f 31 1 := by rw [← hS78]; rfl
    have h95 : S59.f 31 1 = S4.f 31 1 := by rw [hG60.f]
    have h96 : S4.f 31 1 = S.f 31 1 := by rw [← hS6]; exact ysf_ne (by decide)
    have h97 := hI77.f tf40_3
    have h98 : S76.f 40 3 = S59.f 40 3 := by rw [← hS78]; rfl
    have h99 : S59.f 40 3 = S4.f 40 3 := by rw [hG60.f]
    have h100 : S4.f 40 3 = S.f 40 3 := by rw [← hS6]; exact ysf_ne (by decide)
    have h101 := hI77.f tf40_5
    have h102 : S76.f 40 5 = S59.f 40 5 := by rw [← hS78]; rfl
    have h103 : S59.f 40 5 = S4.f 40 5 := by rw [hG60.f]
    have h104 : S4.f 40 5 = S.f 40 5 := by rw [← hS6]; exact ysf_ne (by decide)
    exact r_ret0 (i := 27) rfl ⟨rfl, (by (have e9 : S76.f 40 2 = S59.f 40 2 := (by rw [← hS78]; rfl)); rw [e9, ← hS78]; exact ysa_eq), (by intro p; unfold tg; rw [← hS78, ysa_ne (Or.inl (by decide)), hG60.a 100 (by decide) (by decide)]; subst_vars; rfl), (by omega), (by exact RE_push (pl := pl) e_RD p_0 (by omega) (by omega) (by omega) (by omega) (fun j => by rw [← hS78, ysa_ne (Or.inl (by decide)), hG60.a 100 (by decide) (by decide)]; subst_vars; rfl) (fun j hj => by rw [← hS78, ysa_ne (Or.inr (by omega))]; exact (hG60.g j (by omega)).trans (by subst_vars; rfl)) (by (have e9 : S76.f 40 2 = S59.f 40 2 := (by rw [← hS78]; rfl)); rw [e9, ← hS78]; exact ysa_eq)), hI77, hF79, hR80⟩
theorem lp124_8 {G : xk} {d : Nat} {S0 : yS} {ln : Int} (h_ln : -2147483648 ≤ ln ∧ ln ≤ 2147483647) (hd : 1 ≤ d + 1) : ∀ (n : Nat), ∀ (S : yS) (hI : yI S) (hF : yFr [(40, 3), (40, 5)] [] S0 S) (hR : yRm [] S0 S) (st0 k : Int) (h_st0 : 0 ≤ st0 ∧ st0 ≤ 60000) (h_k : 0 ≤ k ∧ k ≤ 60000) (q_0 : S.f 40 5 = S0.f 40 5 ∨ S.f 40 5 ≠ -1) (q_1 : S.f 40 5 = -1 → S.f 40 3 ≤ S.f 31 1 ∧ S0.f 40 3 ≤ S.f 40 3) (hn : 60001 - k < (n : Nat)), yT xPr G LY xC124 8 [some ((2, 40)), some (vi ln), some (vi st0), some (vi k), none] [] S (d + 1) (fun r S' => r = (0, (0, 0)) ∧ (S'.f 40 5 = S0.f 40 5 ∨ S'.f 40 5 ≠ -1) ∧ (S'.f 40 5 = -1 → S0.f 40 3 ≤ S'.f 40 3) ∧ yI S' ∧ yFr [(40, 3), (40, 5)] [] S0 S' ∧ yRm [] S0 S') := by
  intro n
  induction n with
  | zero => intro S hI hF hR st0 k h_st0 h_k q_0 q_1 hn; exact absurd hn (by omega)
  | succ n ih =>
    intro S hI hF hR st0 k h_st0 h_k q_0 q_1 hn
    have h1 := hI.f tf40_5
    have h2 := hI.f tf40_3
    have h3 := hI.b0
    have h4 : S.f 31 1 = S0.f 31 1 := hF.f rfl
    refine r_load (i := 8) (u := 3) (w := 0) rfl rfl rfl ?_
    refine r_load (i := 9) (u := 0) (w := 2) rfl rfl rfl ?_
    refine r_getf (i := 10) (v := 3) (w := 10) (x := vi (S.f 40 3)) rfl ly40 rfl rfl fun h5 => ?_
    have h5 : Rg (S.f 40 3) := h5
    refine c_ge (i := 11) (v := 32) rfl ⟨by omega, by omega⟩ ⟨by omega, by omega⟩ (fun h6 => ?_) (fun h7 => ?_)
    · exact r_ret0 (i := 32) rfl ⟨rfl, (by omega), (by omega), hI, hF, hR⟩
    · refine r_load (i := 12) (u := 0) (w := 2) rfl rfl rfl ?_
      refine r_getf (i := 13) (v := 5) (w := 10) (x := vi (S.f 40 5)) rfl ly40 rfl rfl fun h8 => ?_
      have h8 : Rg (S.f 40 5) := h8
      refine r_const (i := 14) (u := 4294967295) (z := -1) rfl rfl ?_
      refine c_ne (i := 15) (v := 32) rfl ⟨by omega, by omega⟩ ⟨by omega, by omega⟩ (fun h9 => ?_) (fun h10 => ?_)
      · exact r_ret0 (i := 32) rfl ⟨rfl, (by omega), (by omega), hI, hF, hR⟩
      · refine r_load (i := 16) (u := 0) (w := 2) rfl rfl rfl ?_
        refine r_getf (i := 17) (v := 0) (w := 10) (x := (2, 31)) rfl ly40 rfl rfl fun _ => ?_
        refine r_load (i := 18) (u := 3) (w := 0) rfl rfl rfl ?_
        have h12 := hI.bn
        have h13 := hI.br
        have h14 : S.n 0 = S0.n 0 := hR.eq rfl rfl
        have h15 : S.n 1 = S0.n 1 := hR.eq rfl rfl
        have h16 : S.n 2 = S0.n 2 := hR.eq rfl rfl
        have h17 : S.n 3 = S0.n 3 := hR.eq rfl rfl
        have h18 : S.n 4 = S0.n 4 := hR.eq rfl rfl
        have h19 : S.a 100 k.toNat = S0.a 100 k.toNat := hF.a rfl _
        refine r_call (i := 19) (u := 7) (v := 25) (w := 0) (b := 0) (na := 514) (C2 := xC25) (as := [(2, 31), vi k]) (s := []) rfl rfl rfl rfl rfl rfl rfl (sp25_31 (k := k) hI ⟨by omega, by omega⟩ (by omega)  (by omega)) (fun r20 S21 hq22 => ?_)
        obtain ⟨z23, rfl, h24, h25, h26, rfl⟩ := hq22
        refine Or.inr (Or.inl ⟨rfl, ?_⟩)
        refine r_store (i := 20) (u := 4) (w := 0) (L1 := [some ((2, 40)), some (vi ln), some (vi st0), some (vi k), some (vi z23)]) rfl rfl rfl rfl ?_
        refine r_load (i := 21) (u := 4) (w := 0) rfl rfl rfl ?_
        refine r_const (i := 22) (u := 1) (z := 1) rfl rfl ?_
        refine c_lt (i := 23) (v := 27) rfl ⟨by omega, by omega⟩ ⟨by omega, by omega⟩ (fun h27 => ?_) (fun h28 => ?_)
        · refine r_load (i := 27) (u := 0) (w := 2) rfl rfl rfl ?_
          refine r_load (i := 28) (u := 3) (w := 0) rfl rfl rfl ?_
          refine r_putI (i := 29) (v := 5) (w := 10) rfl ly40 rfl ⟨by omega, by omega⟩ ?_
          have hI30 := hI.setf (b := 40) (w := 5) (z := k) tf40_5 rfl (by omega) (by omega)
          have hF32 := hF.setf (b := 40) (w := 5) (z := k) rfl
          have hR33 := hR.setf (b := 40) (w := 5) (z := k)
          refine yT_gen (fun S29 hS31 => ?_)
          rw [hS31] at hI30 hF32 hR33 
          refine r_iinc (i := 30) (u := 1) (v := 3) (s := 1) (L1 := [some ((2, 40)), some (vi ln), some (vi st0), some (vi (k + 1)), some (vi z23)]) rfl rfl rfl rfl rfl ?_
          refine r_goto (i := 31) (v := 8) rfl ?_
          refine yT_drop (L1 := [some ((2, 40)), some (vi ln), some (vi st0), some (vi (k + 1)), none]) rfl ?_
          have h34 := hI30.f tf40_5
          have h35 : S29.f 40 5 = k := by rw [← hS31]; exact ysf_eq
          have h36 := hI30.f tf40_3
          have h37 : S29.f 40 3 = S.f 40 3 := by rw [← hS31]; exact ysf_ne (by decide)
          have h38 := hI30.b0
          have h39 : S29.f 31 1 = S.f 31 1 := by rw [← hS31]; exact ysf_ne (by decide)
          have h40 : S.f 31 1 = S0.f 31 1 := hF.f rfl
          exact ih S29 hI30 hF32 hR33 st0 (k + 1) ⟨by omega, by omega⟩ ⟨by omega, by omega⟩ (by omega) (by omega) (by omega)
        · refine r_load (i := 24) (u := 4) (w := 0) rfl rfl rfl ?_
          refine r_const (i := 25) (u := 127) (z := 127) rfl rfl ?_
          refine c_le (i := 26) (v := 30) rfl ⟨by omega, by omega⟩ ⟨by omega, by omega⟩ (fun h41 => ?_) (fun h42 => ?_)
          · refine r_iinc (i := 30) (u := 1) (v := 3) (s := 1) (L1 := [some ((2, 40)), some (vi ln), some (vi st0), some (vi (k + 1)), some (vi z23)]) rfl rfl rfl rfl rfl ?_
            refine r_goto (i := 31) (v := 8) rfl ?_
            refine yT_drop (L1 := [some ((2, 40)), some (vi ln), some (vi st0), some (vi (k + 1)), none]) rfl ?_
            exact ih S hI hF hR st0 (k + 1) ⟨by omega, by omega⟩ ⟨by omega, by omega⟩ (by omega) (by omega) (by omega)
          · refine r_load (i := 27) (u := 0) (w := 2) rfl rfl rfl ?_
            refine r_load (i := 28) (u := 3) (w := 0) rfl rfl rfl ?_
            refine r_putI (i := 29) (v := 5) (w := 10) rfl ly40 rfl ⟨by omega, by omega⟩ ?_
            have hI44 := hI.setf (b := 40) (w := 5) (z := k) tf40_5 rfl (by omega) (by omega)
            have hF46 := hF.setf (b := 40) (w := 5) (z := k) rfl
            have hR47 := hR.setf (b := 40) (w := 5) (z := k)
            refine yT_gen (fun S43 hS45 => ?_)
            rw [hS45] at hI44 hF46 hR47 
            refine r_iinc (i := 30) (u := 1) (v := 3) (s := 1) (L1 := [some ((2, 40)), some (vi ln), some (vi st0), some (vi (k + 1)), some (vi z23)]) rfl rfl rfl rfl rfl ?_
            refine r_goto (i := 31) (v := 8) rfl ?_
            refine yT_drop (L1 := [some ((2, 40)), some (vi ln), some (vi st0), some (vi (k + 1)), none]) rfl ?_
            have h48 := hI44.f tf40_5
            have h49 : S43.f 40 5 = k := by rw [← hS45]; exact ysf_eq
            have h50 := hI44.f tf40_3
            have h51 : S43.f 40 3 = S.f 40 3 := by rw [← hS45]; exact ysf_ne (by decide)
            have h52 := hI44.b0
            have h53 : S43.f 31 1 = S.f 31 1 := by rw [← hS45]; exact ysf_ne (by decide)
            have h54 : S.f 31 1 = S0.f 31 1 := hF.f rfl
            exact ih S43 hI44 hF46 hR47 st0 (k + 1) ⟨by omega, by omega⟩ ⟨by omega, by omega⟩ (by omega) (by omega) (by omega)
/-- ProxyForge$Reader.readText -/
theorem sp124 {G : xk} {S : yS} {d : Nat} (hI : yI S) {ln : Int} (h_ln : -2147483648 ≤ ln ∧ ln ≤ 2147483647) (hd : 1 ≤ d) : yT xPr G LY xC124 0 [some ((2, 40)), some (vi ln)] [] S d (fun r S' => r = (0, (0, 0)) ∧ (S'.f 40 5 = S.f 40 5 ∨ S'.f 40 5 ≠ -1) ∧ (S'.f 40 5 = -1 → S.f 40 3 ≤ S'.f 40 3) ∧ yI S' ∧ yFr [(40, 3), (40, 5)] [] S S' ∧ yRm [] S S') := by
  refine yT_pad 3 ?_
  show yT xPr G LY xC124 0 [some ((2, 40)), some (vi ln), none, none, none] [] S d _
  obtain ⟨d, rfl⟩ : ∃ q, d = q + 1 := ⟨d - 1, by omega⟩
  have hF : yFr [(40, 3), (40, 5)] [] S S := yFr.refl S
  have hR : yRm [] S S := yRm.refl S
  refine r_load (i := 0) (u := 0) (w := 2) rfl rfl rfl ?_
  have h1 := hI.f tf40_3
  refine r_getf (i := 1) (v := 3) (w := 10) (x := vi (S.f 40 3)) rfl ly40 rfl rfl fun h2 => ?_
  have h2 : Rg (S.f 40 3) := h2
  refine r_store (i := 2) (u := 2) (w := 0) (L1 := [some ((2, 40)), some (vi ln), some (vi (S.f 40 3)), none, none]) rfl rfl rfl rfl ?_
  refine r_load (i := 3) (u := 0) (w := 2) rfl rfl rfl ?_
  refine r_load (i := 4) (u := 1) (w := 0) rfl rfl rfl ?_
  have h3 := hI.f tf40_5
  have h4 := hI.b0
  refine r_call (i := 5) (u := 10) (v := 126) (w := 0) (b := 0) (na := 514) (C2 := xC126) (as := [(2, 40), vi ln]) (s := []) rfl rfl rfl rfl rfl rfl rfl (sp126 (ln := ln) hI ⟨by omega, by omega⟩   (by omega)) (fun r5 S6 hq7 => ?_)
  obtain ⟨rfl, h8, h9, hI10, hF11, hR12⟩ := hq7
  have hF13 := hF.trans hF11 rfl rfl
  have hR14 := hR.trans hR12 rfl
  refine Or.inl ⟨rfl, ?_⟩
  refine r_load (i := 6) (u := 2) (w := 0) rfl rfl rfl ?_
  refine r_store (i := 7) (u := 3) (w := 0) (L1 := [some ((2, 40)), some (vi ln), some (vi (S.f 40 3)), some (vi (S.f 40 3)), none]) rfl rfl rfl rfl ?_
  have h15 := hI10.f tf40_5
  have h16 := hI10.f tf40_3
  have h17 := hI10.b0
  have h18 : S6.f 31 1 = S.f 31 1 := hF11.f rfl
  exact lp124_8 h_ln  hd _ S6 hI10 hF13 hR14 (S.f 40 3) (S.f 40 3) ⟨by omega, by omega⟩ ⟨by omega, by omega⟩ (by omega) (by omega) (Int.lt_succ_toNat _)
/-- ProxyForge$Reader.readHead -/
theorem sp121 {G : xk} {S : yS} {d : Nat} (hI : yI S)  (hd : 3 ≤ d) : yT xPr G LY xC121 0 [some ((2, 40))] [] S d (fun r S' => r = (0, (0, 0)) ∧ (S'.f 40 5 = S.f 40 5 ∨ S'.f 40 5 ≠ -1) ∧ yI S' ∧ yFr [(40, 3), (40, 4), (40, 5)] [] S S' ∧ yRm [] S S') := by
  refine yT_pad 0 ?_
  show yT xPr G LY xC121 0 [some ((2, 40))] [] S d _
  obtain ⟨d, rfl⟩ : ∃ q, d = q + 1 := ⟨d - 1, by omega⟩
  have hF : yFr [(40, 3), (40, 4), (40, 5)] [] S S := yFr.refl S
  have hR : yRm [] S S := yRm.refl S
  refine r_load (i := 0) (u := 0) (w := 2) rfl rfl rfl ?_
  refine r_const (i := 1) (u := 1) (z := 1) rfl rfl ?_
  refine r_const (i := 2) (u := 202) (z := 202) rfl rfl ?_
  have h1 := hI.f tf40_5
  have h2 := hI.f tf40_3
  refine r_call (i := 3) (u := 10) (v := 108) (w := 0) (b := 0) (na := 771) (C2 := xC108) (as := [(2, 40), vi 1, vi 202]) (s := []) rfl rfl rfl rfl rfl rfl rfl (sp108 (w0 := 1) (v := 202) hI ⟨by omega, by omega⟩ ⟨by omega, by omega⟩   (by omega)) (fun r3 S4 hq5 => ?_)
  obtain ⟨rfl, h6, h7, hI8, hF9, hR10⟩ := hq5
  have hF11 := hF.trans hF9 rfl rfl
  have hR12 := hR.trans hR10 rfl
  refine Or.inl ⟨rfl, ?_⟩
  refine r_load (i := 4) (u := 0) (w := 2) rfl rfl rfl ?_
  refine r_const (i := 5) (u := 1) (z := 1) rfl rfl ?_
  refine r_const (i := 6) (u := 254) (z := 254) rfl rfl ?_
  have h13 := hI8.f tf40_5
  have h14 := hI8.f tf40_3
  refine r_call (i := 7) (u := 10) (v := 108) (w := 0) (b := 0) (na := 771) (C2 := xC108) (as := [(2, 40), vi 1, vi 254]) (s := []) rfl rfl rfl rfl rfl rfl rfl (sp108 (w0 := 1) (v := 254) hI8 ⟨by omega, by omega⟩ ⟨by omega, by omega⟩   (by omega)) (fun r15 S16 hq17 => ?_)
  obtain ⟨rfl, h18, h19, hI20, hF21, hR22⟩ := hq17
  have hF23 := hF11.trans hF21 rfl rfl
  have hR24 := hR12.trans hR22 rfl
  refine Or.inl ⟨rfl, ?_⟩
  refine r_load (i := 8) (u := 0) (w := 2) rfl rfl rfl ?_
  refine r_const (i := 9) (u := 1) (z := 1) rfl rfl ?_
  refine r_const (i := 10) (u := 186) (z := 186) rfl rfl ?_
  have h25 := hI20.f tf40_5
  have h26 := hI20.f tf40_3
  refine r_call (i := 11) (u := 10) (v := 108) (w := 0) (b := 0) (na := 771) (C2 := xC108) (as := [(2, 40), vi 1, vi 186]) (s := []) rfl rfl rfl rfl rfl rfl rfl (sp108 (w0 := 1) (v := 186) hI20 ⟨by omega, by omega⟩ ⟨by omega, by omega⟩   (by omega)) (fun r27 S28 hq29 => ?_)
  obtain ⟨rfl, h30, h31, hI32, hF33, hR34⟩ := hq29
  have hF35 := hF23.trans hF33 rfl rfl
  have hR36 := hR24.trans hR34 rfl
  refine Or.inl ⟨rfl, ?_⟩
  refine r_load (i := 12) (u := 0) (w := 2) rfl rfl rfl ?_
  refine r_const (i := 13) (u := 1) (z := 1) rfl rfl ?_
  refine r_const (i := 14) (u := 190) (z := 190) rfl rfl ?_
  have h37 := hI32.f tf40_5
  have h38 := hI32.f tf40_3
  refine r_call (i := 15) (u := 10) (v := 108) (w := 0) (b := 0) (na := 771) (C2 := xC108) (as := [(2, 40), vi 1, vi 190]) (s := []) rfl rfl rfl rfl rfl rfl rfl (sp108 (w0 := 1) (v := 190) hI32 ⟨by omega, by omega⟩ ⟨by omega, by omega⟩   (by omega)) (fun r39 S40 hq41 => ?_)
  obtain ⟨rfl, h42, h43, hI44, hF45, hR46⟩ := hq41
  have hF47 := hF35.trans hF45 rfl rfl
  have hR48 := hR36.trans hR46 rfl
  refine Or.inl ⟨rfl, ?_⟩
  refine r_load (i := 16) (u := 0) (w := 2) rfl rfl rfl ?_
  refine r_const (i := 17) (u := 2) (z := 2) rfl rfl ?_
  refine r_const (i := 18) (u := 0) (z := 0) rfl rfl ?_
  have h49 := hI44.f tf40_5
  have h50 := hI44.f tf40_3
  refine r_call (i := 19) (u := 10) (v := 108) (w := 0) (b := 0) (na := 771) (C2 := xC108) (as := [(2, 40), vi 2, vi 0]) (s := []) rfl rfl rfl rfl rfl rfl rfl (sp108 (w0 := 2) (v := 0) hI44 ⟨by omega, by omega⟩ ⟨by omega, by omega⟩   (by omega)) (fun r51 S52 hq53 => ?_)
  obtain ⟨rfl, h54, h55, hI56, hF57, hR58⟩ := hq53
  have hF59 := hF47.trans hF57 rfl rfl
  have hR60 := hR48.trans hR58 rfl
  refine Or.inl ⟨rfl, ?_⟩
  refine r_load (i := 20) (u := 0) (w := 2) rfl rfl rfl ?_
  refine r_const (i := 21) (u := 2) (z := 2) rfl rfl ?_
  refine r_const (i := 22) (u := 52) (z := 52) rfl rfl ?_
  have h61 := hI56.f tf40_5
  have h62 := hI56.f tf40_3
  refine r_call (i := 23) (u := 10) (v := 108) (w := 0) (b := 0) (na := 771) (C2 := xC108) (as := [(2, 40), vi 2, vi 52]) (s := []) rfl rfl rfl rfl rfl rfl rfl (sp108 (w0 := 2) (v := 52) hI56 ⟨by omega, by omega⟩ ⟨by omega, by omega⟩   (by omega)) (fun r63 S64 hq65 => ?_)
  obtain ⟨rfl, h66, h67, hI68, hF69, hR70⟩ := hq65
  have hF71 := hF59.trans hF69 rfl rfl
  have hR72 := hR60.trans hR70 rfl
  refine Or.inl ⟨rfl, ?_⟩
  have h73 := hI68.f tf40_5
  exact r_ret0 (i := 24) rfl ⟨rfl, (by omega), hI68, hF71, hR72⟩
/-- ProxyForge$Reader.readClass -/
theorem sp116 {G : xk} {S : yS} {d : Nat} (hI : yI S) (e_RD : RD S) (hd : 4 ≤ d) : yT xPr G LY xC116 0 [some ((2, 40))] [] S d (fun r S' => r = (0, (0, 0)) ∧ (S'.f 40 5 = S.f 40 5 ∨ S'.f 40 5 ≠ -1) ∧ RD S' ∧ yI S' ∧ yFr [(40, 3), (40, 4), (40, 5)] [] S S' ∧ yRm [] S S') := by
  refine yT_pad 0 ?_
  show yT xPr G LY xC116 0 [some ((2, 40))] [] S d _
  obtain ⟨d, rfl⟩ : ∃ q, d = q + 1 := ⟨d - 1, by omega⟩
  have hF : yFr [(40, 3), (40, 4), (40, 5)] [] S S := yFr.refl S
  have hR : yRm [] S S := yRm.refl S
  refine r_load (i := 0) (u := 0) (w := 2) rfl rfl rfl ?_
  refine r_const (i := 1) (u := 2) (z := 2) rfl rfl ?_
  refine r_const (i := 2) (u := 49) (z := 49) rfl rfl ?_
  have h1 := hI.f tf40_5
  have h2 := hI.f tf40_3
  refine r_call (i := 3) (u := 10) (v := 108) (w := 0) (b := 0) (na := 771) (C2 := xC108) (as := [(2, 40), vi 2, vi 49]) (s := []) rfl rfl rfl rfl rfl rfl rfl (sp108 (w0 := 2) (v := 49) hI ⟨by omega, by omega⟩ ⟨by omega, by omega⟩   (by omega)) (fun r3 S4 hq5 => ?_)
  obtain ⟨rfl, h6, h7, hI8, hF9, hR10⟩ := hq5
  have hF11 := hF.trans hF9 rfl rfl
  have hR12 := hR.trans hR10 rfl
  have e13 := RDx.up e_RD hF9 hR10 rfl rfl rfl (by omega)
  refine Or.inl ⟨rfl, ?_⟩
  refine r_load (i := 4) (u := 0) (w := 2) rfl rfl rfl ?_
  refine r_const (i := 5) (u := 7) (z := 7) rfl rfl ?_
  have h14 := hI8.f tf40_5
  refine r_call (i := 6) (u := 10) (v := 110) (w := 0) (b := 0) (na := 514) (C2 := xC110) (as := [(2, 40), vi 7]) (s := []) rfl rfl rfl rfl rfl rfl rfl (sp110 (t := 7) hI8 ⟨by omega, by omega⟩  e13 (by omega)) (fun r15 S16 hq17 => ?_)
  obtain ⟨rfl, h18, e19, hI20, hF21, hR22⟩ := hq17
  have hF23 := hF11.trans hF21 rfl rfl
  have hR24 := hR12.trans hR22 rfl
  refine Or.inl ⟨rfl, ?_⟩
  refine r_load (i := 7) (u := 0) (w := 2) rfl rfl rfl ?_
  refine r_const (i := 8) (u := 7) (z := 7) rfl rfl ?_
  have h25 := hI20.f tf40_5
  refine r_call (i := 9) (u := 10) (v := 110) (w := 0) (b := 0) (na := 514) (C2 := xC110) (as := [(2, 40), vi 7]) (s := []) rfl rfl rfl rfl rfl rfl rfl (sp110 (t := 7) hI20 ⟨by omega, by omega⟩  e19 (by omega)) (fun r26 S27 hq28 => ?_)
  obtain ⟨rfl, h29, e30, hI31, hF32, hR33⟩ := hq28
  have hF34 := hF23.trans hF32 rfl rfl
  have hR35 := hR24.trans hR33 rfl
  refine Or.inl ⟨rfl, ?_⟩
  refine r_load (i := 10) (u := 0) (w := 2) rfl rfl rfl ?_
  have h36 := hI31.f tf40_5
  refine r_call (i := 11) (u := 10) (v := 109) (w := 0) (b := 0) (na := 769) (C2 := xC109) (as := [(2, 40)]) (s := []) rfl rfl rfl rfl rfl rfl rfl (sp109  hI31   e30 (by omega)) (fun r37 S38 hq39 => ?_)
  obtain ⟨rfl, h40, e41, hI42, hF43, hR44⟩ := hq39
  have hF45 := hF34.trans hF43 rfl rfl
  have hR46 := hR35.trans hR44 rfl
  refine Or.inl ⟨rfl, ?_⟩
  refine r_load (i := 12) (u := 0) (w := 2) rfl rfl rfl ?_
  refine r_const (i := 13) (u := 2) (z := 2) rfl rfl ?_
  refine r_const (i := 14) (u := 1) (z := 1) rfl rfl ?_
  have h47 := hI42.f tf40_5
  have h48 := hI42.f tf40_3
  refine r_call (i := 15) (u := 10) (v := 108) (w := 0) (b := 0) (na := 771) (C2 := xC108) (as := [(2, 40), vi 2, vi 1]) (s := []) rfl rfl rfl rfl rfl rfl rfl (sp108 (w0 := 2) (v := 1) hI42 ⟨by omega, by omega⟩ ⟨by omega, by omega⟩   (by omega)) (fun r49 S50 hq51 => ?_)
  obtain ⟨rfl, h52, h53, hI54, hF55, hR56⟩ := hq51
  have hF57 := hF45.trans hF55 rfl rfl
  have hR58 := hR46.trans hR56 rfl
  have e59 := RDx.up e41 hF55 hR56 rfl rfl rfl (by omega)
  refine Or.inl ⟨rfl, ?_⟩
  refine r_load (i := 16) (u := 0) (w := 2) rfl rfl rfl ?_
  refine r_const (i := 17) (u := 2) (z := 2) rfl rfl ?_
  refine r_const (i := 18) (u := 2) (z := 2) rfl rfl ?_
  have h60 := hI54.f tf40_5
  have h61 := hI54.f tf40_3
  refine r_call (i := 19) (u := 10) (v := 108) (w := 0) (b := 0) (na := 771) (C2 := xC108) (as := [(2, 40), vi 2, vi 2]) (s := []) rfl rfl rfl rfl rfl rfl rfl (sp108 (w0 := 2) (v := 2) hI54 ⟨by omega, by omega⟩ ⟨by omega, by omega⟩   (by omega)) (fun r62 S63 hq64 => ?_)
  obtain ⟨rfl, h65, h66, hI67, hF68, hR69⟩ := hq64
  have hF70 := hF57.trans hF68 rfl rfl
  have hR71 := hR58.trans hR69 rfl
  have e72 := RDx.up e59 hF68 hR69 rfl rfl rfl (by omega)
  refine Or.inl ⟨rfl, ?_⟩
  refine r_load (i := 20) (u := 0) (w := 2) rfl rfl rfl ?_
  refine r_const (i := 21) (u := 1) (z := 1) rfl rfl ?_
  have h73 := hI67.f tf40_5
  refine r_call (i := 22) (u := 10) (v := 110) (w := 0) (b := 0) (na := 514) (C2 := xC110) (as := [(2, 40), vi 1]) (s := []) rfl rfl rfl rfl rfl rfl rfl (sp110 (t := 1) hI67 ⟨by omega, by omega⟩  e72 (by omega)) (fun r74 S75 hq76 => ?_)
  obtain ⟨rfl, h77, e78, hI79, hF80, hR81⟩ := hq76
  have hF82 := hF70.trans hF80 rfl rfl
  have hR83 := hR71.trans hR81 rfl
  refine Or.inl ⟨rfl, ?_⟩
  refine r_load (i := 23) (u := 0) (w := 2) rfl rfl rfl ?_
  refine r_const (i := 24) (u := 1) (z := 1) rfl rfl ?_
  have h84 := hI79.f tf40_5
  refine r_call (i := 25) (u := 10) (v := 110) (w := 0) (b := 0) (na := 514) (C2 := xC110) (as := [(2, 40), vi 1]) (s := []) rfl rfl rfl rfl rfl rfl rfl (sp110 (t := 1) hI79 ⟨by omega, by omega⟩  e78 (by omega)) (fun r85 S86 hq87 => ?_)
  obtain ⟨rfl, h88, e89, hI90, hF91, hR92⟩ := hq87
  have hF93 := hF82.trans hF91 rfl rfl
  have hR94 := hR83.trans hR92 rfl
  refine Or.inl ⟨rfl, ?_⟩
  refine r_load (i := 26) (u := 0) (w := 2) rfl rfl rfl ?_
  refine r_const (i := 27) (u := 2) (z := 2) rfl rfl ?_
  refine r_const (i := 28) (u := 0) (z := 0) rfl rfl ?_
  have h95 := hI90.f tf40_5
  have h96 := hI90.f tf40_3
  refine r_call (i := 29) (u := 10) (v := 108) (w := 0) (b := 0) (na := 771) (C2 := xC108) (as := [(2, 40), vi 2, vi 0]) (s := []) rfl rfl rfl rfl rfl rfl rfl (sp108 (w0 := 2) (v := 0) hI90 ⟨by omega, by omega⟩ ⟨by omega, by omega⟩   (by omega)) (fun r97 S98 hq99 => ?_)
  obtain ⟨rfl, h100, h101, hI102, hF103, hR104⟩ := hq99
  have hF105 := hF93.trans hF103 rfl rfl
  have hR106 := hR94.trans hR104 rfl
  have e107 := RDx.up e89 hF103 hR104 rfl rfl rfl (by omega)
  refine Or.inl ⟨rfl, ?_⟩
  have h108 := hI102.f tf40_5
  exact r_ret0 (i := 30) rfl ⟨rfl, (by omega), e107, hI102, hF105, hR106⟩
/-- ProxyForge$Reader.readHandler -/
theorem sp120 {G : xk} {S : yS} {d : Nat} (hI : yI S) {ln : Int} (h_ln : -2147483648 ≤ ln ∧ ln ≤ 2147483647) (e_RD : RD S) (hd : 3 ≤ d) : yT xPr G LY xC120 0 [some ((2, 40)), some (vi ln)] [] S d (fun r S' => r = (0, (0, 0)) ∧ (S'.f 40 5 = S.f 40 5 ∨ S'.f 40 5 ≠ -1) ∧ RD S' ∧ yI S' ∧ yFr [(40, 3), (40, 4), (40, 5)] [] S S' ∧ yRm [] S S') := by
  refine yT_pad 2 ?_
  show yT xPr G LY xC120 0 [some ((2, 40)), some (vi ln), none, none] [] S d _
  obtain ⟨d, rfl⟩ : ∃ q, d = q + 1 := ⟨d - 1, by omega⟩
  have hF : yFr [(40, 3), (40, 4), (40, 5)] [] S S := yFr.refl S
  have hR : yRm [] S S := yRm.refl S
  refine r_load (i := 0) (u := 0) (w := 2) rfl rfl rfl ?_
  refine r_const (i := 1) (u := 2) (z := 2) rfl rfl ?_
  have h1 := hI.f tf40_3
  have h2 := hI.b0
  have h3 := hI.f tf40_5
  refine r_call (i := 2) (u := 10) (v := 115) (w := 0) (b := 0) (na := 1026) (C2 := xC115) (as := [(2, 40), vi 2]) (s := []) rfl rfl rfl rfl rfl rfl rfl (sp115 (w0 := 2) hI ⟨by omega, by omega⟩   (by omega)) (fun r4 S5 hq6 => ?_)
  obtain ⟨z7, rfl, h8, h9, h10, h11, h12, h13, h14, h15, hI16, hF17, hR18⟩ := hq6
  have hF19 := hF.trans hF17 rfl rfl
  have hR20 := hR.trans hR18 rfl
  have e21 := RDx.up e_RD hF17 hR18 rfl rfl rfl (by omega)
  refine Or.inr (Or.inl ⟨rfl, ?_⟩)
  refine r_store (i := 3) (u := 2) (w := 0) (L1 := [some ((2, 40)), some (vi ln), some (vi z7), none]) rfl rfl rfl rfl ?_
  refine r_load (i := 4) (u := 0) (w := 2) rfl rfl rfl ?_
  refine r_const (i := 5) (u := 2) (z := 2) rfl rfl ?_
  have h22 := hI16.f tf40_3
  have h23 := hI16.b0
  have h24 : S5.f 31 1 = S.f 31 1 := hF17.f rfl
  have h25 := hI16.f tf40_5
  refine r_call (i := 6) (u := 10) (v := 115) (w := 0) (b := 0) (na := 1026) (C2 := xC115) (as := [(2, 40), vi 2]) (s := []) rfl rfl rfl rfl rfl rfl rfl (sp115 (w0 := 2) hI16 ⟨by omega, by omega⟩   (by omega)) (fun r26 S27 hq28 => ?_)
  obtain ⟨z29, rfl, h30, h31, h32, h33, h34, h35, h36, h37, hI38, hF39, hR40⟩ := hq28
  have hF41 := hF19.trans hF39 rfl rfl
  have hR42 := hR20.trans hR40 rfl
  have e43 := RDx.up e21 hF39 hR40 rfl rfl rfl (by omega)
  refine Or.inr (Or.inl ⟨rfl, ?_⟩)
  refine r_store (i := 7) (u := 3) (w := 0) (L1 := [some ((2, 40)), some (vi ln), some (vi z7), some (vi z29)]) rfl rfl rfl rfl ?_
  refine r_load (i := 8) (u := 0) (w := 2) rfl rfl rfl ?_
  refine r_load (i := 9) (u := 3) (w := 0) rfl rfl rfl ?_
  refine r_load (i := 10) (u := 2) (w := 0) rfl rfl rfl ?_
  refine c_le (i := 11) (v := 17) rfl ⟨by omega, by omega⟩ ⟨by omega, by omega⟩ (fun h44 => ?_) (fun h45 => ?_)
  · refine r_const (i := 17) (u := 0) (z := 0) rfl rfl ?_
    have h46 := hI38.f tf40_5
    refine r_call (i := 18) (u := 10) (v := 125) (w := 0) (b := 0) (na := 514) (C2 := xC125) (as := [(2, 40), vi 0]) (s := []) rfl rfl rfl rfl rfl rfl rfl (sp125 (g0 := 0) hI38 ⟨by omega, by omega⟩   (by omega)) (fun r47 S48 hq49 => ?_)
    obtain ⟨rfl, h50, h51, hI52, hF53, hR54⟩ := hq49
    have hF55 := hF41.trans hF53 rfl rfl
    have hR56 := hR42.trans hR54 rfl
    have e57 := RDx.up e43 hF53 hR54 rfl rfl rfl (by omega)
    refine Or.inl ⟨rfl, ?_⟩
    refine r_load (i := 19) (u := 0) (w := 2) rfl rfl rfl ?_
    refine r_load (i := 20) (u := 0) (w := 2) rfl rfl rfl ?_
    refine r_const (i := 21) (u := 2) (z := 2) rfl rfl ?_
    have h58 := hI52.f tf40_3
    have h59 : S48.f 40 3 = S27.f 40 3 := hF53.f rfl
    have h60 := hI52.b0
    have h61 : S48.f 31 1 = S27.f 31 1 := hF53.f rfl
    have h62 : S27.f 31 1 = S5.f 31 1 := hF39.f rfl
    have h63 : S5.f 31 1 = S.f 31 1 := hF17.f rfl
    have h64 := hI52.f tf40_5
    refine r_call (i := 22) (u := 10) (v := 115) (w := 0) (b := 0) (na := 1026) (C2 := xC115) (as := [(2, 40), vi 2]) (s := [(2, 40)]) rfl rfl rfl rfl rfl rfl rfl (sp115 (w0 := 2) hI52 ⟨by omega, by omega⟩   (by omega)) (fun r65 S66 hq67 => ?_)
    obtain ⟨z68, rfl, h69, h70, h71, h72, h73, h74, h75, h76, hI77, hF78, hR79⟩ := hq67
    have hF80 := hF55.trans hF78 rfl rfl
    have hR81 := hR56.trans hR79 rfl
    have e82 := RDx.up e57 hF78 hR79 rfl rfl rfl (by omega)
    refine Or.inr (Or.inl ⟨rfl, ?_⟩)
    refine r_load (i := 23) (u := 1) (w := 0) rfl rfl rfl ?_
    refine c_ge (i := 24) (v := 27) rfl ⟨by omega, by omega⟩ ⟨by omega, by omega⟩ (fun h83 => ?_) (fun h84 => ?_)
    · refine r_const (i := 27) (u := 0) (z := 0) rfl rfl ?_
      have h85 := hI77.f tf40_5
      refine r_call (i := 28) (u := 10) (v := 125) (w := 0) (b := 0) (na := 514) (C2 := xC125) (as := [(2, 40), vi 0]) (s := []) rfl rfl rfl rfl rfl rfl rfl (sp125 (g0 := 0) hI77 ⟨by omega, by omega⟩   (by omega)) (fun r86 S87 hq88 => ?_)
      obtain ⟨rfl, h89, h90, hI91, hF92, hR93⟩ := hq88
      have hF94 := hF80.trans hF92 rfl rfl
      have hR95 := hR81.trans hR93 rfl
      have e96 := RDx.up e82 hF92 hR93 rfl rfl rfl (by omega)
      refine Or.inl ⟨rfl, ?_⟩
      refine r_load (i := 29) (u := 0) (w := 2) rfl rfl rfl ?_
      refine r_const (i := 30) (u := 7) (z := 7) rfl rfl ?_
      have h97 := hI91.f tf40_5
      refine r_call (i := 31) (u := 10) (v := 110) (w := 0) (b := 0) (na := 514) (C2 := xC110) (as := [(2, 40), vi 7]) (s := []) rfl rfl rfl rfl rfl rfl rfl (sp110 (t := 7) hI91 ⟨by omega, by omega⟩  e96 (by omega)) (fun r98 S99 hq100 => ?_)
      obtain ⟨rfl, h101, e102, hI103, hF104, hR105⟩ := hq100
      have hF106 := hF94.trans hF104 rfl rfl
      have hR107 := hR95.trans hR105 rfl
      refine Or.inl ⟨rfl, ?_⟩
      have h108 := hI103.f tf40_5
      exact r_ret0 (i := 32) rfl ⟨rfl, (by omega), e102, hI103, hF106, hR107⟩
    · refine r_const (i := 25) (u := 1) (z := 1) rfl rfl ?_
      refine r_goto (i := 26) (v := 28) rfl ?_
      have h109 := hI77.f tf40_5
      refine r_call (i := 28) (u := 10) (v := 125) (w := 0) (b := 0) (na := 514) (C2 := xC125) (as := [(2, 40), vi 1]) (s := []) rfl rfl rfl rfl rfl rfl rfl (sp125 (g0 := 1) hI77 ⟨by omega, by omega⟩   (by omega)) (fun r110 S111 hq112 => ?_)
      obtain ⟨rfl, h113, h114, hI115, hF116, hR117⟩ := hq112
      have hF118 := hF80.trans hF116 rfl rfl
      have hR119 := hR81.trans hR117 rfl
      have e120 := RDx.up e82 hF116 hR117 rfl rfl rfl (by omega)
      refine Or.inl ⟨rfl, ?_⟩
      refine r_load (i := 29) (u := 0) (w := 2) rfl rfl rfl ?_
      refine r_const (i := 30) (u := 7) (z := 7) rfl rfl ?_
      have h121 := hI115.f tf40_5
      refine r_call (i := 31) (u := 10) (v := 110) (w := 0) (b := 0) (na := 514) (C2 := xC110) (as := [(2, 40), vi 7]) (s := []) rfl rfl rfl rfl rfl rfl rfl (sp110 (t := 7) hI115 ⟨by omega, by omega⟩  e120 (by omega)) (fun r122 S123 hq124 => ?_)
      obtain ⟨rfl, h125, e126, hI127, hF128, hR129⟩ := hq124
      have hF130 := hF118.trans hF128 rfl rfl
      have hR131 := hR119.trans hR129 rfl
      refine Or.inl ⟨rfl, ?_⟩
      have h132 := hI127.f tf40_5
      exact r_ret0 (i := 32) rfl ⟨rfl, (by omega), e126, hI127, hF130, hR131⟩
  · refine r_load (i := 12) (u := 3) (w := 0) rfl rfl rfl ?_
    refine r_load (i := 13) (u := 1) (w := 0) rfl rfl rfl ?_
    refine c_ge (i := 14) (v := 17) rfl ⟨by omega, by omega⟩ ⟨by omega, by omega⟩ (fun h133 => ?_) (fun h134 => ?_)
    · refine r_const (i := 17) (u := 0) (z := 0) rfl rfl ?_
      have h135 := hI38.f tf40_5
      refine r_call (i := 18) (u := 10) (v := 125) (w := 0) (b := 0) (na := 514) (C2 := xC125) (as := [(2, 40), vi 0]) (s := []) rfl rfl rfl rfl rfl rfl rfl (sp125 (g0 := 0) hI38 ⟨by omega, by omega⟩   (by omega)) (fun r136 S137 hq138 => ?_)
      obtain ⟨rfl, h139, h140, hI141, hF142, hR143⟩ := hq138
      have hF144 := hF41.trans hF142 rfl rfl
      have hR145 := hR42.trans hR143 rfl
      have e146 := RDx.up e43 hF142 hR143 rfl rfl rfl (by omega)
      refine Or.inl ⟨rfl, ?_⟩
      refine r_load (i := 19) (u := 0) (w := 2) rfl rfl rfl ?_
      refine r_load (i := 20) (u := 0) (w := 2) rfl rfl rfl ?_
      refine r_const (i := 21) (u := 2) (z := 2) rfl rfl ?_
      have h147 := hI141.f tf40_3
      have h148 : S137.f 40 3 = S27.f 40 3 := hF142.f rfl
      have h149 := hI141.b0
      have h150 : S137.f 31 1 = S27.f 31 1 := hF142.f rfl
      have h151 : S27.f 31 1 = S5.f 31 1 := hF39.f rfl
      have h152 : S5.f 31 1 = S.f 31 1 := hF17.f rfl
      have h153 := hI141.f tf40_5
      refine r_call (i := 22) (u := 10) (v := 115) (w := 0) (b := 0) (na := 1026) (C2 := xC115) (as := [(2, 40), vi 2]) (s := [(2, 40)]) rfl rfl rfl rfl rfl rfl rfl (sp115 (w0 := 2) hI141 ⟨by omega, by omega⟩   (by omega)) (fun r154 S155 hq156 => ?_)
      obtain ⟨z157, rfl, h158, h159, h160, h161, h162, h163, h164, h165, hI166, hF167, hR168⟩ := hq156
      have hF169 := hF144.trans hF167 rfl rfl
      have hR170 := hR145.trans hR168 rfl
      have e171 := RDx.up e146 hF167 hR168 rfl rfl rfl (by omega)
      refine Or.inr (Or.inl ⟨rfl, ?_⟩)
      refine r_load (i := 23) (u := 1) (w := 0) rfl rfl rfl ?_
      refine c_ge (i := 24) (v := 27) rfl ⟨by omega, by omega⟩ ⟨by omega, by omega⟩ (fun h172 => ?_) (fun h173 => ?_)
      · refine r_const (i := 27) (u := 0) (z := 0) rfl rfl ?_
        have h174 := hI166.f tf40_5
        refine r_call (i := 28) (u := 10) (v := 125) (w := 0) (b := 0) (na := 514) (C2 := xC125) (as := [(2, 40), vi 0]) (s := []) rfl rfl rfl rfl rfl rfl rfl (sp125 (g0 := 0) hI166 ⟨by omega, by omega⟩   (by omega)) (fun r175 S176 hq177 => ?_)
        obtain ⟨rfl, h178, h179, hI180, hF181, hR182⟩ := hq177
        have hF183 := hF169.trans hF181 rfl rfl
        have hR184 := hR170.trans hR182 rfl
        have e185 := RDx.up e171 hF181 hR182 rfl rfl rfl (by omega)
        refine Or.inl ⟨rfl, ?_⟩
        refine r_load (i := 29) (u := 0) (w := 2) rfl rfl rfl ?_
        refine r_const (i := 30) (u := 7) (z := 7) rfl rfl ?_
        have h186 := hI180.f tf40_5
        refine r_call (i := 31) (u := 10) (v := 110) (w := 0) (b := 0) (na := 514) (C2 := xC110) (as := [(2, 40), vi 7]) (s := []) rfl rfl rfl rfl rfl rfl rfl (sp110 (t := 7) hI180 ⟨by omega, by omega⟩  e185 (by omega)) (fun r187 S188 hq189 => ?_)
        obtain ⟨rfl, h190, e191, hI192, hF193, hR194⟩ := hq189
        have hF195 := hF183.trans hF193 rfl rfl
        have hR196 := hR184.trans hR194 rfl
        refine Or.inl ⟨rfl, ?_⟩
        have h197 := hI192.f tf40_5
        exact r_ret0 (i := 32) rfl ⟨rfl, (by omega), e191, hI192, hF195, hR196⟩
      · refine r_const (i := 25) (u := 1) (z := 1) rfl rfl ?_
        refine r_goto (i := 26) (v := 28) rfl ?_
        have h198 := hI166.f tf40_5
        refine r_call (i := 28) (u := 10) (v := 125) (w := 0) (b := 0) (na := 514) (C2 := xC125) (as := [(2, 40), vi 1]) (s := []) rfl rfl rfl rfl rfl rfl rfl (sp125 (g0 := 1) hI166 ⟨by omega, by omega⟩   (by omega)) (fun r199 S200 hq201 => ?_)
        obtain ⟨rfl, h202, h203, hI204, hF205, hR206⟩ := hq201
        have hF207 := hF169.trans hF205 rfl rfl
        have hR208 := hR170.trans hR206 rfl
        have e209 := RDx.up e171 hF205 hR206 rfl rfl rfl (by omega)
        refine Or.inl ⟨rfl, ?_⟩
        refine r_load (i := 29) (u := 0) (w := 2) rfl rfl rfl ?_
        refine r_const (i := 30) (u := 7) (z := 7) rfl rfl ?_
        have h210 := hI204.f tf40_5
        refine r_call (i := 31) (u := 10) (v := 110) (w := 0) (b := 0) (na := 514) (C2 := xC110) (as := [(2, 40), vi 7]) (s := []) rfl rfl rfl rfl rfl rfl rfl (sp110 (t := 7) hI204 ⟨by omega, by omega⟩  e209 (by omega)) (fun r211 S212 hq213 => ?_)
        obtain ⟨rfl, h214, e215, hI216, hF217, hR218⟩ := hq213
        have hF219 := hF207.trans hF217 rfl rfl
        have hR220 := hR208.trans hR218 rfl
        refine Or.inl ⟨rfl, ?_⟩
        have h221 := hI216.f tf40_5
        exact r_ret0 (i := 32) rfl ⟨rfl, (by omega), e215, hI216, hF219, hR220⟩
    · refine r_const (i := 15) (u := 1) (z := 1) rfl rfl ?_
      refine r_goto (i := 16) (v := 18) rfl ?_
      have h222 := hI38.f tf40_5
      refine r_call (i := 18) (u := 10) (v := 125) (w := 0) (b := 0) (na := 514) (C2 := xC125) (as := [(2, 40), vi 1]) (s := []) rfl rfl rfl rfl rfl rfl rfl (sp125 (g0 := 1) hI38 ⟨by omega, by omega⟩   (by omega)) (fun r223 S224 hq225 => ?_)
      obtain ⟨rfl, h226, h227, hI228, hF229, hR230⟩ := hq225
      have hF231 := hF41.trans hF229 rfl rfl
      have hR232 := hR42.trans hR230 rfl
      have e233 := RDx.up e43 hF229 hR230 rfl rfl rfl (by omega)
      refine Or.inl ⟨rfl, ?_⟩
      refine r_load (i := 19) (u := 0) (w := 2) rfl rfl rfl ?_
      refine r_load (i := 20) (u := 0) (w := 2) rfl rfl rfl ?_
      refine r_const (i := 21) (u := 2) (z := 2) rfl rfl ?_
      have h234 := hI228.f tf40_3
      have h235 : S224.f 40 3 = S27.f 40 3 := hF229.f rfl
      have h236 := hI228.b0
      have h237 : S224.f 31 1 = S27.f 31 1 := hF229.f rfl
      have h238 : S27.f 31 1 = S5.f 31 1 := hF39.f rfl
      have h239 : S5.f 31 1 = S.f 31 1 := hF17.f rfl
      have h240 := hI228.f tf40_5
      refine r_call (i := 22) (u := 10) (v := 115) (w := 0) (b := 0) (na := 1026) (C2 := xC115) (as := [(2, 40), vi 2]) (s := [(2, 40)]) rfl rfl rfl rfl rfl rfl rfl (sp115 (w0 := 2) hI228 ⟨by omega, by omega⟩   (by omega)) (fun r241 S242 hq243 => ?_)
      obtain ⟨z244, rfl, h245, h246, h247, h248, h249, h250, h251, h252, hI253, hF254, hR255⟩ := hq243
      have hF256 := hF231.trans hF254 rfl rfl
      have hR257 := hR232.trans hR255 rfl
      have e258 := RDx.up e233 hF254 hR255 rfl rfl rfl (by omega)
      refine Or.inr (Or.inl ⟨rfl, ?_⟩)
      refine r_load (i := 23) (u := 1) (w := 0) rfl rfl rfl ?_
      refine c_ge (i := 24) (v := 27) rfl ⟨by omega, by omega⟩ ⟨by omega, by omega⟩ (fun h259 => ?_) (fun h260 => ?_)
      · refine r_const (i := 27) (u := 0) (z := 0) rfl rfl ?_
        have h261 := hI253.f tf40_5
        refine r_call (i := 28) (u := 10) (v := 125) (w := 0) (b := 0) (na := 514) (C2 := xC125) (as := [(2, 40), vi 0]) (s := []) rfl rfl rfl rfl rfl rfl rfl (sp125 (g0 := 0) hI253 ⟨by omega, by omega⟩   (by omega)) (fun r262 S263 hq264 => ?_)
        obtain ⟨rfl, h265, h266, hI267, hF268, hR269⟩ := hq264
        have hF270 := hF256.trans hF268 rfl rfl
        have hR271 := hR257.trans hR269 rfl
        have e272 := RDx.up e258 hF268 hR269 rfl rfl rfl (by omega)
        refine Or.inl ⟨rfl, ?_⟩
        refine r_load (i := 29) (u := 0) (w := 2) rfl rfl rfl ?_
        refine r_const (i := 30) (u := 7) (z := 7) rfl rfl ?_
        have h273 := hI267.f tf40_5
        refine r_call (i := 31) (u := 10) (v := 110) (w := 0) (b := 0) (na := 514) (C2 := xC110) (as := [(2, 40), vi 7]) (s := []) rfl rfl rfl rfl rfl rfl rfl (sp110 (t := 7) hI267 ⟨by omega, by omega⟩  e272 (by omega)) (fun r274 S275 hq276 => ?_)
        obtain ⟨rfl, h277, e278, hI279, hF280, hR281⟩ := hq276
        have hF282 := hF270.trans hF280 rfl rfl
        have hR283 := hR271.trans hR281 rfl
        refine Or.inl ⟨rfl, ?_⟩
        have h284 := hI279.f tf40_5
        exact r_ret0 (i := 32) rfl ⟨rfl, (by omega), e278, hI279, hF282, hR283⟩
      · refine r_const (i := 25) (u := 1) (z := 1) rfl rfl ?_
        refine r_goto (i := 26) (v := 28) rfl ?_
        have h285 := hI253.f tf40_5
        refine r_call (i := 28) (u := 10) (v := 125) (w := 0) (b := 0) (na := 514) (C2 := xC125) (as := [(2, 40), vi 1]) (s := []) rfl rfl rfl rfl rfl rfl rfl (sp125 (g0 := 1) hI253 ⟨by omega, by omega⟩   (by omega)) (fun r286 S287 hq288 => ?_)
        obtain ⟨rfl, h289, h290, hI291, hF292, hR293⟩ := hq288
        have hF294 := hF256.trans hF292 rfl rfl
        have hR295 := hR257.trans hR293 rfl
        have e296 := RDx.up e258 hF292 hR293 rfl rfl rfl (by omega)
        refine Or.inl ⟨rfl, ?_⟩
        refine r_load (i := 29) (u := 0) (w := 2) rfl rfl rfl ?_
        refine r_const (i := 30) (u := 7) (z := 7) rfl rfl ?_
        have h297 := hI291.f tf40_5
        refine r_call (i := 31) (u := 10) (v := 110) (w := 0) (b := 0) (na := 514) (C2 := xC110) (as := [(2, 40), vi 7]) (s := []) rfl rfl rfl rfl rfl rfl rfl (sp110 (t := 7) hI291 ⟨by omega, by omega⟩  e296 (by omega)) (fun r298 S299 hq300 => ?_)
        obtain ⟨rfl, h301, e302, hI303, hF304, hR305⟩ := hq300
        have hF306 := hF294.trans hF304 rfl rfl
        have hR307 := hR295.trans hR305 rfl
        refine Or.inl ⟨rfl, ?_⟩
        have h308 := hI303.f tf40_5
        exact r_ret0 (i := 32) rfl ⟨rfl, (by omega), e302, hI303, hF306, hR307⟩
/-- ProxyForge$Reader.readExceptions -/
theorem sp119 {G : xk} {S : yS} {d : Nat} (hI : yI S) (e_RD : RD S) (hd : 7 ≤ d) : yT xPr G LY xC119 0 [some ((2, 40))] [] S d (fun r S' => r = (0, (0, 0)) ∧ (S'.f 40 5 = S.f 40 5 ∨ S'.f 40 5 ≠ -1) ∧ RD S' ∧ yI S' ∧ yFr [(40, 3), (40, 4), (40, 5)] [] S S' ∧ yRm [] S S') := by
  refine yT_pad 3 ?_
  show yT xPr G LY xC119 0 [some ((2, 40)), none, none, none] [] S d _
  obtain ⟨d, rfl⟩ : ∃ q, d = q + 1 := ⟨d - 1, by omega⟩
  have hF : yFr [(40, 3), (40, 4), (40, 5)] [] S S := yFr.refl S
  have hR : yRm [] S S := yRm.refl S
  refine r_load (i := 0) (u := 0) (w := 2) rfl rfl rfl ?_
  refine r_str (i := 1) (v := 3) rfl ?_
  have h1 := slv3
  have h2 := hI.f tf40_5
  refine r_call (i := 2) (u := 10) (v := 111) (w := 0) (b := 0) (na := 770) (C2 := xC111) (as := [(2, 40), (6, 3)]) (s := []) rfl rfl rfl rfl rfl rfl rfl (sp111 (s := 3) hI ⟨by decide, by decide⟩  e_RD (by omega)) (fun r3 S4 hq5 => ?_)
  obtain ⟨rfl, h6, e7, hI8, hF9, hR10⟩ := hq5
  have hF11 := hF.trans hF9 rfl rfl
  have hR12 := hR.trans hR10 rfl
  refine Or.inl ⟨rfl, ?_⟩
  refine r_load (i := 3) (u := 0) (w := 2) rfl rfl rfl ?_
  refine r_const (i := 4) (u := 4) (z := 4) rfl rfl ?_
  have h13 := hI8.f tf40_3
  have h14 := hI8.b0
  have h15 : S4.f 31 1 = S.f 31 1 := hF9.f rfl
  have h16 := hI8.f tf40_5
  refine r_call (i := 5) (u := 10) (v := 115) (w := 0) (b := 0) (na := 1026) (C2 := xC115) (as := [(2, 40), vi 4]) (s := []) rfl rfl rfl rfl rfl rfl rfl (sp115 (w0 := 4) hI8 ⟨by omega, by omega⟩   (by omega)) (fun r17 S18 hq19 => ?_)
  obtain ⟨z20, rfl, h21, h22, h23, h24, h25, h26, h27, h28, hI29, hF30, hR31⟩ := hq19
  have hF32 := hF11.trans hF30 rfl rfl
  have hR33 := hR12.trans hR31 rfl
  have e34 := RDx.up e7 hF30 hR31 rfl rfl rfl (by omega)
  refine Or.inr (Or.inl ⟨rfl, ?_⟩)
  refine r_store (i := 6) (u := 1) (w := 0) (L1 := [some ((2, 40)), some (vi z20), none, none]) rfl rfl rfl rfl ?_
  refine r_load (i := 7) (u := 0) (w := 2) rfl rfl rfl ?_
  have h35 := hI29.f tf40_4
  refine r_getf (i := 8) (v := 4) (w := 10) (x := vi (S18.f 40 4)) rfl ly40 rfl rfl fun h36 => ?_
  have h36 : Rg (S18.f 40 4) := h36
  refine r_store (i := 9) (u := 2) (w := 0) (L1 := [some ((2, 40)), some (vi z20), some (vi (S18.f 40 4)), none]) rfl rfl rfl rfl ?_
  refine r_load (i := 10) (u := 0) (w := 2) rfl rfl rfl ?_
  have h37 := hI29.f tf40_3
  refine r_getf (i := 11) (v := 3) (w := 10) (x := vi (S18.f 40 3)) rfl ly40 rfl rfl fun h38 => ?_
  have h38 : Rg (S18.f 40 3) := h38
  refine r_store (i := 12) (u := 3) (w := 0) (L1 := [some ((2, 40)), some (vi z20), some (vi (S18.f 40 4)), some (vi (S18.f 40 3))]) rfl rfl rfl rfl ?_
  refine r_load (i := 13) (u := 0) (w := 2) rfl rfl rfl ?_
  have h39 := hI29.f tf40_5
  refine r_call (i := 14) (u := 10) (v := 109) (w := 0) (b := 0) (na := 769) (C2 := xC109) (as := [(2, 40)]) (s := []) rfl rfl rfl rfl rfl rfl rfl (sp109  hI29   e34 (by omega)) (fun r40 S41 hq42 => ?_)
  obtain ⟨rfl, h43, e44, hI45, hF46, hR47⟩ := hq42
  have hF48 := hF32.trans hF46 rfl rfl
  have hR49 := hR33.trans hR47 rfl
  refine Or.inl ⟨rfl, ?_⟩
  refine r_load (i := 15) (u := 0) (w := 2) rfl rfl rfl ?_
  refine r_load (i := 16) (u := 2) (w := 0) rfl rfl rfl ?_
  refine r_load (i := 17) (u := 1) (w := 0) rfl rfl rfl ?_
  refine r_load (i := 18) (u := 0) (w := 2) rfl rfl rfl ?_
  have h50 := hI45.f tf40_3
  refine r_getf (i := 19) (v := 3) (w := 10) (x := vi (S41.f 40 3)) rfl ly40 rfl rfl fun h51 => ?_
  have h51 : Rg (S41.f 40 3) := h51
  refine r_load (i := 20) (u := 3) (w := 0) rfl rfl rfl ?_
  refine r_isub (i := 21) rfl ?_
  have h52 := hI45.f tf40_5
  refine r_call (i := 22) (u := 10) (v := 105) (w := 0) (b := 0) (na := 1028) (C2 := xC105) (as := [(2, 40), vi (S18.f 40 4), vi z20, vi ((S41.f 40 3) - (S18.f 40 3))]) (s := []) rfl rfl rfl rfl rfl rfl rfl (sp105 (sp0 := S18.f 40 4) (sd := z20) (ln := (S41.f 40 3) - (S18.f 40 3)) hI45 ⟨by omega, by omega⟩ ⟨by omega, by omega⟩ ⟨by omega, by omega⟩   (by omega)) (fun r53 S54 hq55 => ?_)
  obtain ⟨rfl, h56, hI57, hF58, hR59⟩ := hq55
  have hF60 := hF48.trans hF58 rfl rfl
  have hR61 := hR49.trans hR59 rfl
  have e62 := RDx.up e44 hF58 hR59 rfl rfl rfl (by omega)
  refine Or.inl ⟨rfl, ?_⟩
  have h63 := hI57.f tf40_5
  exact r_ret0 (i := 23) rfl ⟨rfl, (by omega), e62, hI57, hF60, hR61⟩
end XNC
