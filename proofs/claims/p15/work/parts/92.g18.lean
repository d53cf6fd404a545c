set_option linter.unusedVariables false
set_option maxRecDepth 4000
noncomputable section XNC
theorem lp203_159 {G : xk} {d : Nat} {S0 : yS} {c : Int} (h_c : -2147483648 ≤ c ∧ c ≤ 2147483647) {a : Int} (h_a : -2147483648 ≤ a ∧ a ≤ 2147483647) {b : Int} (h_b : -2147483648 ≤ b ∧ b ≤ 2147483647) {e : Int} (h_e : -2147483648 ≤ e ∧ e ≤ 2147483647) (hd : 12 ≤ d + 1) {k : Int} (h_k : 0 ≤ k ∧ k ≤ 59) (no : Nat) (K : ∀ (S : yS) (hI : yI S) (hF : yFr [(43, 0), (43, 19), (43, 20), (43, 21), (43, 22), (43, 31), (43, 42), (43, 43), (43, 49), (43, 50), (43, 51), (43, 52), (43, 53)] [60, 61, 62, 63, 64, 65, 66, 67, 68, 71, 72, 73, 74, 75, 76, 77, 78, 79] S0 S) (hR : yRm [] S0 S) (e_CR : CR S) (e_MC : MC S) (e_wAS : wAS S) (k : Int) (h_k : 0 ≤ k ∧ k ≤ 60) (q_0 : wSC k S) (q_1 : S.f 43 20 = nf S k) (q_2 : nfa S ≤ 24) (q_3 : k ≤ S.f 43 31) (q_4 : mfY S0 S c a b e) (q_5 : S.f 43 0 = 0) (q_6 : mS1 S k) (q_7 : mK S (S.f 43 20)) (hn : 60 - k < (no : Nat)), yT xPr G LY xC203 104 [some ((2, 43)), some (vi c), some (vi a), some (vi b), some (vi e), none, none, some (vi k), none, none] [] S (d + 1) (fun r S' => ∃ z : Int, r = (1, vi z) ∧ 0 ≤ z ∧ z ≤ 6 ∧ mfZ S0 S' z c a b e ∧ mkQ S0 S' z ∧ CR S' ∧ yI S' ∧ yFr [(43, 0), (43, 19), (43, 20), (43, 21), (43, 22), (43, 31), (43, 42), (43, 43), (43, 49), (43, 50), (43, 51), (43, 52), (43, 53)] [60, 61, 62, 63, 64, 65, 66, 67, 68, 71, 72, 73, 74, 75, 76, 77, 78, 79] S0 S' ∧ yRm [] S0 S')) (hm : 60 - k < ((no + 1 : Nat) : Int)) : ∀ (n : Nat), ∀ (S : yS) (hI : yI S) (hF : yFr [(43, 0), (43, 19), (43, 20), (43, 21), (43, 22), (43, 31), (43, 42), (43, 43), (43, 49), (43, 50), (43, 51), (43, 52), (43, 53)] [60, 61, 62, 63, 64, 65, 66, 67, 68, 71, 72, 73, 74, 75, 76, 77, 78, 79] S0 S) (hR : yRm [] S0 S) (e_CR : CR S) (e_MC : MC S) (e_wAS : wAS S) (m j : Int) (h_m : 0 ≤ m ∧ m ≤ 59) (h_j : 0 ≤ j ∧ j ≤ 3) (q_0 : wSC k S) (q_1 : S.f 43 20 = nf S k) (q_2 : nfa S ≤ 24) (q_3 : k < S.f 43 31) (q_4 : nf S (k + 1) = nf S k + 1) (q_5 : nf S k + 1 ≤ nfa S) (q_6 : wtop S = S.a 66 k.toNat) (q_7 : mfY S0 S c a b e) (q_8 : S.f 43 0 = 0) (q_9 : mS2 S k) (q_10 : mK2 S m j) (hn : 3 - j < (n : Nat)), yT xPr G LY xC203 159 [some ((2, 43)), some (vi c), some (vi a), some (vi b), some (vi e), none, none, some (vi k), some (vi m), some (vi j)] [] S (d + 1) (fun r S' => ∃ z : Int, r = (1, vi z) ∧ 0 ≤ z ∧ z ≤ 6 ∧ mfZ S0 S' z c a b e ∧ mkQ S0 S' z ∧ CR S' ∧ yI S' ∧ yFr [(43, 0), (43, 19), (43, 20), (43, 21), (43, 22), (43, 31), (43, 42), (43, 43), (43, 49), (43, 50), (43, 51), (43, 52), (43, 53)] [60, 61, 62, 63, 64, 65, 66, 67, 68, 71, 72, 73, 74, 75, 76, 77, 78, 79] S0 S' ∧ yRm [] S0 S') := by
  intro n
  induction n with
  | zero => intro S hI hF hR e_CR e_MC e_wAS m j h_m h_j q_0 q_1 q_2 q_3 q_4 q_5 q_6 q_7 q_8 q_9 q_10 hn; exact absurd hn (by omega)
  | succ n ih =>
    intro S hI hF hR e_CR e_MC e_wAS m j h_m h_j q_0 q_1 q_2 q_3 q_4 q_5 q_6 q_7 q_8 q_9 q_10 hn
    have h1 := hI.f tf43_20
    have h2 := nfz_0 (S := S)
    have h3 := hI.f tf43_31
    have h4 := hI.a ta66 k.toNat
    have h5 := hI.f tf43_0
    refine r_load (i := 159) (u := 9) (w := 0) rfl rfl rfl ?_
    refine r_load (i := 160) (u := 0) (w := 2) rfl rfl rfl ?_
    refine r_getf (i := 161) (v := 17) (w := 11) (x := (2, 58)) rfl ly43 rfl rfl fun _ => ?_
    refine r_load (i := 162) (u := 8) (w := 0) rfl rfl rfl ?_
    refine a_int (i := 163) rfl ly58 rfl (by omega) (by omega) fun h7 => ?_
    have h8 := hI.a ta58 m.toNat
    have h9 : S.a 58 m.toNat = S0.a 58 m.toNat := hF.a rfl _
    refine c_ge (i := 164) (v := 184) rfl ⟨by omega, by omega⟩ ⟨by omega, by omega⟩ (fun h10 => ?_) (fun h11 => ?_)
    · refine r_load (i := 184) (u := 0) (w := 2) rfl rfl rfl ?_
      refine r_dup (i := 185) rfl rfl ?_
      refine r_getf (i := 186) (v := 20) (w := 11) (x := vi (S.f 43 20)) rfl ly43 rfl rfl fun h12 => ?_
      have h12 : Rg (S.f 43 20) := h12
      refine r_const (i := 187) (u := 1) (z := 1) rfl rfl ?_
      refine r_iadd (i := 188) rfl ?_
      refine r_putI (i := 189) (v := 20) (w := 11) rfl ly43 rfl ⟨by omega, by omega⟩ ?_
      have hI14 := hI.setf (b := 43) (w := 20) (z := (S.f 43 20) + 1) tf43_20 rfl (by omega) (by omega)
      have hF16 := hF.setf (b := 43) (w := 20) (z := (S.f 43 20) + 1) rfl
      have hR17 := hR.setf (b := 43) (w := 20) (z := (S.f 43 20) + 1)
      have e18 := CRx.setf e_CR (b := 43) (w := 20) (z := (S.f 43 20) + 1) rfl
      have e19 := MCx.setf e_MC (b := 43) (w := 20) (z := (S.f 43 20) + 1) rfl
      have e20 := wASx.setf e_wAS (b := 43) (w := 20) (z := (S.f 43 20) + 1) rfl
      refine yT_gen (fun S13 hS15 => ?_)
      rw [hS15] at hI14 hF16 hR17 e18 e19 e20
      refine r_iinc (i := 190) (u := 1) (v := 7) (s := 1) (L1 := [some ((2, 43)), some (vi c), some (vi a), some (vi b), some (vi e), none, none, some (vi (k + 1)), some (vi m), some (vi j)]) rfl rfl rfl rfl rfl ?_
      refine r_goto (i := 191) (v := 104) rfl ?_
      refine yT_drop (L1 := [some ((2, 43)), some (vi c), some (vi a), some (vi b), some (vi e), none, none, some (vi (k + 1)), none, none]) rfl ?_
      have h21 := hI14.f tf43_20
      have h22 : S13.f 43 20 = (S.f 43 20) + 1 := by rw [← hS15]; exact ysf_eq
      have h23 := nfz_0 (S := S13)
      have h24 : nf S13 = nf S := by rw [← hS15]; exact nfX.setf rfl
      have h25 : nf S13 k = nf S k := congrFun h24 _
      have h26 : nf S13 (k + 1) = nf S (k + 1) := congrFun h24 _
      have h27 : nfa S13 = nfa S := by rw [← hS15]; exact nfaX.setf rfl
      have h28 := hI14.f tf43_31
      have h29 : S13.f 43 31 = S.f 43 31 := by rw [← hS15]; exact ysf_ne (by decide)
      have h30 := hI14.f tf43_0
      have h31 : S13.f 43 0 = S.f 43 0 := by rw [← hS15]; exact ysf_ne (by decide)
      exact K S13 hI14 hF16 hR17 e18 e19 e20 (k + 1) ⟨by omega, by omega⟩ (by first | exact wSC_0 (by omega) | exact wSC_skip q_0 | exact wSC_push q_0 e_MC (by omega) (by omega) (by omega) (show wtop S = _ from by omega) (by subst_vars; rfl) (fun j => by subst_vars; rfl) (fun j => by subst_vars; rfl)) (by omega) (by omega) (by omega) (by exact mfY_up q_7 (sU_f hS15 (by decide))) (by omega) (by exact mS1_y q_9 (by omega) (by omega) (by subst hS15; rfl) (fun j => by subst hS15; rfl) (fun j => by subst hS15; rfl) (fun j => by subst hS15; rfl)) (by exact mK_y q_10 (by omega) (by omega) ⟨(fun j => by subst hS15; rfl), (fun j => by subst hS15; rfl), (fun j => by subst hS15; rfl), (fun j => by subst hS15; rfl)⟩ (by subst hS15; rfl) (fun j => by subst hS15; rfl) (fun j => by subst hS15; rfl) (fun j => by subst hS15; rfl) (fun j => by subst hS15; rfl)) (by omega)
    · refine r_load (i := 165) (u := 0) (w := 2) rfl rfl rfl ?_
      refine r_getf (i := 166) (v := 25) (w := 11) (x := (2, 62)) rfl ly43 rfl rfl fun _ => ?_
      refine r_const (i := 167) (u := 3) (z := 3) rfl rfl ?_
      refine r_load (i := 168) (u := 0) (w := 2) rfl rfl rfl ?_
      refine r_getf (i := 169) (v := 20) (w := 11) (x := vi (S.f 43 20)) rfl ly43 rfl rfl fun h33 => ?_
      have h33 : Rg (S.f 43 20) := h33
      refine r_imul (i := 170) rfl ?_
      refine r_load (i := 171) (u := 9) (w := 0) rfl rfl rfl ?_
      refine r_iadd (i := 172) rfl ?_
      refine r_load (i := 173) (u := 0) (w := 2) rfl rfl rfl ?_
      refine r_getf (i := 174) (v := 16) (w := 11) (x := (2, 57)) rfl ly43 rfl rfl fun _ => ?_
      refine r_const (i := 175) (u := 3) (z := 3) rfl rfl ?_
      refine r_load (i := 176) (u := 8) (w := 0) rfl rfl rfl ?_
      refine r_imul (i := 177) rfl ?_
      refine r_load (i := 178) (u := 9) (w := 0) rfl rfl rfl ?_
      refine r_iadd (i := 179) rfl ?_
      refine a_int (i := 180) rfl ly57 rfl (by omega) (by omega) fun h35 => ?_
      have h36 := hI.a ta57 ((3 * m) + j).toNat
      have h37 : S.a 57 ((3 * m) + j).toNat = S0.a 57 ((3 * m) + j).toNat := hF.a rfl _
      refine s_int (i := 181) rfl ly62 rfl (by omega) (by omega) ⟨by omega, by omega⟩ ?_
      have hI39 := hI.seta (b := 62) (j := ((3 * (S.f 43 20)) + j).toNat) (z := S.a 57 ((3 * m) + j).toNat) ta62 rfl (by omega) (by omega)
      have hF41 := hF.seta (b := 62) (j := ((3 * (S.f 43 20)) + j).toNat) (z := S.a 57 ((3 * m) + j).toNat) rfl
      have hR42 := hR.seta (b := 62) (j := ((3 * (S.f 43 20)) + j).toNat) (z := S.a 57 ((3 * m) + j).toNat)
      have e43 := CRx.seta e_CR (b := 62) (j := ((3 * (S.f 43 20)) + j).toNat) (z := S.a 57 ((3 * m) + j).toNat) rfl
      have e44 := MCx.seta e_MC (b := 62) (j := ((3 * (S.f 43 20)) + j).toNat) (z := S.a 57 ((3 * m) + j).toNat) rfl
      have e45 := wASx.seta e_wAS (b := 62) (j := ((3 * (S.f 43 20)) + j).toNat) (z := S.a 57 ((3 * m) + j).toNat) rfl
      have e46 := (wSCx k).seta q_0 (b := 62) (j := ((3 * (S.f 43 20)) + j).toNat) (z := S.a 57 ((3 * m) + j).toNat) rfl
      refine yT_gen (fun S38 hS40 => ?_)
      rw [hS40] at hI39 hF41 hR42 e43 e44 e45 e46
      refine r_iinc (i := 182) (u := 1) (v := 9) (s := 1) (L1 := [some ((2, 43)), some (vi c), some (vi a), some (vi b), some (vi e), none, none, some (vi k), some (vi m), some (vi (j + 1))]) rfl rfl rfl rfl rfl ?_
      refine r_goto (i := 183) (v := 159) rfl ?_
      have h47 := hI39.f tf43_20
      have h48 : S38.f 43 20 = S.f 43 20 := by rw [← hS40]; rfl
      have h49 := nfz_0 (S := S38)
      have h50 : nf S38 = nf S := by rw [← hS40]; exact nfX.seta rfl
      have h51 : nf S38 k = nf S k := congrFun h50 _
      have h52 : nf S38 (k + 1) = nf S (k + 1) := congrFun h50 _
      have h53 : nfa S38 = nfa S := by rw [← hS40]; exact nfaX.seta rfl
      have h54 := hI39.f tf43_31
      have h55 : S38.f 43 31 = S.f 43 31 := by rw [← hS40]; rfl
      have h56 : wtop S38 = wtop S := by rw [← hS40]; exact wtopX.seta rfl
      have h57 := hI39.a ta66 k.toNat
      have h58 : S38.a 66 k.toNat = S.a 66 k.toNat := by rw [← hS40]; rfl
      have h59 := hI39.f tf43_0
      have h60 : S38.f 43 0 = S.f 43 0 := by rw [← hS40]; rfl
      exact ih S38 hI39 hF41 hR42 e43 e44 e45 m (j + 1) ⟨by omega, by omega⟩ ⟨by omega, by omega⟩ (by exact e46) (by omega) (by omega) (by omega) (by omega) (by omega) (by omega) (by exact mfY_up q_7 (sU_a hS40 (by decide) (by decide))) (by omega) (by exact mS2_up q_9 (sSm_a hS40 (by decide)) (fun j => by subst hS40; rfl) (fun j => by subst hS40; rfl)) (by exact mK2_s q_10 (by omega) (by omega) (fun j => (hI.a ta63 j).2) ⟨(fun j => by subst hS40; rfl), (fun j => by subst hS40; rfl), (fun j => by subst hS40; rfl), (fun j => by subst hS40; rfl)⟩ (by subst hS40; rfl) (fun j => by subst hS40; rfl) (fun j => by subst hS40; rfl) (fun j => by subst hS40; rfl) (fun j => by subst hS40; rfl)) (by omega)
theorem lp203_104 {G : xk} {d : Nat} {S0 : yS} {c : Int} (h_c : -2147483648 ≤ c ∧ c ≤ 2147483647) {a : Int} (h_a : -2147483648 ≤ a ∧ a ≤ 2147483647) {b : Int} (h_b : -2147483648 ≤ b ∧ b ≤ 2147483647) {e : Int} (h_e : -2147483648 ≤ e ∧ e ≤ 2147483647) (hd : 12 ≤ d + 1) : ∀ (n : Nat), ∀ (S : yS) (hI : yI S) (hF : yFr [(43, 0), (43, 19), (43, 20), (43, 21), (43, 22), (43, 31), (43, 42), (43, 43), (43, 49), (43, 50), (43, 51), (43, 52), (43, 53)] [60, 61, 62, 63, 64, 65, 66, 67, 68, 71, 72, 73, 74, 75, 76, 77, 78, 79] S0 S) (hR : yRm [] S0 S) (e_CR : CR S) (e_MC : MC S) (e_wAS : wAS S) (k : Int) (h_k : 0 ≤ k ∧ k ≤ 60) (q_0 : wSC k S) (q_1 : S.f 43 20 = nf S k) (q_2 : nfa S ≤ 24) (q_3 : k ≤ S.f 43 31) (q_4 : mfY S0 S c a b e) (q_5 : S.f 43 0 = 0) (q_6 : mS1 S k) (q_7 : mK S (S.f 43 20)) (hn : 60 - k < (n : Nat)), yT xPr G LY xC203 104 [some ((2, 43)), some (vi c), some (vi a), some (vi b), some (vi e), none, none, some (vi k), none, none] [] S (d + 1) (fun r S' => ∃ z : Int, r = (1, vi z) ∧ 0 ≤ z ∧ z ≤ 6 ∧ mfZ S0 S' z c a b e ∧ mkQ S0 S' z ∧ CR S' ∧ yI S' ∧ yFr [(43, 0), (43, 19), (43, 20), (43, 21), (43, 22), (43, 31), (43, 42), (43, 43), (43, 49), (43, 50), (43, 51), (43, 52), (43, 53)] [60, 61, 62, 63, 64, 65, 66, 67, 68, 71, 72, 73, 74, 75, 76, 77, 78, 79] S0 S' ∧ yRm [] S0 S') := by
  intro n
  induction n with
  | zero => intro S hI hF hR e_CR e_MC e_wAS k h_k q_0 q_1 q_2 q_3 q_4 q_5 q_6 q_7 hn; exact absurd hn (by omega)
  | succ n ih =>
    intro S hI hF hR e_CR e_MC e_wAS k h_k q_0 q_1 q_2 q_3 q_4 q_5 q_6 q_7 hn
    have h1 := hI.f tf43_20
    have h2 := nfz_0 (S := S)
    have h3 := hI.f tf43_31
    have h4 := hI.f tf43_0
    refine r_load (i := 104) (u := 7) (w := 0) rfl rfl rfl ?_
    refine r_load (i := 105) (u := 0) (w := 2) rfl rfl rfl ?_
    refine r_getf (i := 106) (v := 31) (w := 11) (x := vi (S.f 43 31)) rfl ly43 rfl rfl fun h5 => ?_
    have h5 : Rg (S.f 43 31) := h5
    refine c_ge (i := 107) (v := 192) rfl ⟨by omega, by omega⟩ ⟨by omega, by omega⟩ (fun h6 => ?_) (fun h7 => ?_)
    · have sd9 := wSD_of q_0 e_MC (by omega)
      refine r_load (i := 192) (u := 0) (w := 2) rfl rfl rfl ?_
      refine r_call (i := 193) (u := 11) (v := 265) (w := 0) (b := 0) (na := 1025) (C2 := xC265) (as := [(2, 43)]) (s := []) rfl rfl rfl rfl rfl rfl rfl (sp265  hI   e_wAS sd9 e_CR (by omega)) (fun r8 S9 hq10 => ?_)
      obtain ⟨rfl, e11, e12, e13, hI14, hF15, hR16⟩ := hq10
      have hF17 := hF.trans hF15 rfl rfl
      have hR18 := hR.trans hR16 rfl
      have e19 := MCx.fr e_MC hF15 rfl rfl
      have e20 := (wSCx k).fr q_0 hF15 rfl rfl
      refine Or.inl ⟨rfl, ?_⟩
      refine r_const (i := 194) (u := 0) (z := 0) rfl rfl ?_
      have h21 := hI14.f tf43_0
      have h22 : S9.f 43 0 = S.f 43 0 := hF15.f rfl
      exact r_retI (i := 195) rfl ⟨0, rfl, by omega, by omega, (by exact Or.inr ⟨by omega, mfX_of q_4 q_6 (by omega) (sSm_fr hF15 rfl rfl)⟩), (by exact ⟨fun h9 => absurd h9 (by omega), fun _ _ => mK_fr q_7 hF15 rfl rfl⟩), e13, hI14, hF17, hR18⟩
    · refine r_load (i := 108) (u := 0) (w := 2) rfl rfl rfl ?_
      refine r_getf (i := 109) (v := 29) (w := 11) (x := (2, 66)) rfl ly43 rfl rfl fun _ => ?_
      refine r_load (i := 110) (u := 7) (w := 0) rfl rfl rfl ?_
      refine a_int (i := 111) rfl ly66 rfl (by omega) (by omega) fun h24 => ?_
      have h25 := hI.a ta66 k.toNat
      refine r_store (i := 112) (u := 8) (w := 0) (L1 := [some ((2, 43)), some (vi c), some (vi a), some (vi b), some (vi e), none, none, some (vi k), some (vi (S.a 66 k.toNat)), none]) rfl rfl rfl rfl ?_
      refine r_load (i := 113) (u := 0) (w := 2) rfl rfl rfl ?_
      refine r_getf (i := 114) (v := 13) (w := 11) (x := (2, 54)) rfl ly43 rfl rfl fun _ => ?_
      refine r_load (i := 115) (u := 8) (w := 0) rfl rfl rfl ?_
      refine a_int (i := 116) rfl ly54 rfl (by omega) (by omega) fun h27 => ?_
      have h28 := hI.a ta54 (S.a 66 k.toNat).toNat
      have h29 : S.a 54 (S.a 66 k.toNat).toNat = S0.a 54 (S.a 66 k.toNat).toNat := hF.a rfl _
      refine r_const (i := 117) (u := 16) (z := 16) rfl rfl ?_
      refine r_iand (i := 118) rfl ?_
      have h30 := @yand_c (S.a 54 (S.a 66 k.toNat).toNat) 16 (by decide) (by decide)
      refine z_le (i := 119) (v := 121) rfl ⟨by omega, by omega⟩ (fun h31 => ?_) (fun h32 => ?_)
      · have nn9 := nf_y (S := S) (k := k) (by omega) (by omega)
        have nr9 := nf_room (S := S) (k := k) (by omega) (by omega) (by omega)
        have mc9 := e_MC.2 k.toNat (by omega)
        have mc8 := hF.a (b := 53) rfl (S.a 66 k.toNat).toNat
        refine r_load (i := 121) (u := 0) (w := 2) rfl rfl rfl ?_
        refine r_getf (i := 122) (v := 23) (w := 11) (x := (2, 60)) rfl ly43 rfl rfl fun _ => ?_
        refine r_load (i := 123) (u := 0) (w := 2) rfl rfl rfl ?_
        refine r_getf (i := 124) (v := 20) (w := 11) (x := vi (S.f 43 20)) rfl ly43 rfl rfl fun h34 => ?_
        have h34 : Rg (S.f 43 20) := h34
        refine r_load (i := 125) (u := 8) (w := 0) rfl rfl rfl ?_
        refine s_int (i := 126) rfl ly60 rfl (by omega) (by omega) ⟨by omega, by omega⟩ ?_
        have hI36 := hI.seta (b := 60) (j := (S.f 43 20).toNat) (z := S.a 66 k.toNat) ta60 rfl (by omega) (by omega)
        have hF38 := hF.seta (b := 60) (j := (S.f 43 20).toNat) (z := S.a 66 k.toNat) rfl
        have hR39 := hR.seta (b := 60) (j := (S.f 43 20).toNat) (z := S.a 66 k.toNat)
        have e40 := CRx.seta e_CR (b := 60) (j := (S.f 43 20).toNat) (z := S.a 66 k.toNat) rfl
        have e41 := MCx.seta e_MC (b := 60) (j := (S.f 43 20).toNat) (z := S.a 66 k.toNat) rfl
        have e42 := wASx.seta e_wAS (b := 60) (j := (S.f 43 20).toNat) (z := S.a 66 k.toNat) rfl
        have e43 := wSC_put q_0 (j := (S.f 43 20).toNat) (z := S.a 66 k.toNat) (by omega)
        refine yT_gen (fun S35 hS37 => ?_)
        rw [hS37] at hI36 hF38 hR39 e40 e41 e42 e43
        refine r_load (i := 127) (u := 0) (w := 2) rfl rfl rfl ?_
        refine r_getf (i := 128) (v := 24) (w := 11) (x := (2, 61)) rfl ly43 rfl rfl fun _ => ?_
        refine r_load (i := 129) (u := 0) (w := 2) rfl rfl rfl ?_
        have h45 := hI36.f tf43_20
        have h46 : S35.f 43 20 = S.f 43 20 := by rw [← hS37]; rfl
        refine r_getf (i := 130) (v := 20) (w := 11) (x := vi (S35.f 43 20)) rfl ly43 rfl rfl fun h47 => ?_
        have h47 : Rg (S35.f 43 20) := h47
        refine r_load (i := 131) (u := 0) (w := 2) rfl rfl rfl ?_
        refine r_getf (i := 132) (v := 18) (w := 11) (x := (2, 59)) rfl ly43 rfl rfl fun _ => ?_
        refine r_load (i := 133) (u := 0) (w := 2) rfl rfl rfl ?_
        refine r_getf (i := 134) (v := 12) (w := 11) (x := (2, 53)) rfl ly43 rfl rfl fun _ => ?_
        refine r_load (i := 135) (u := 8) (w := 0) rfl rfl rfl ?_
        refine a_int (i := 136) rfl ly53 rfl (by omega) (by omega) fun h50 => ?_
        have h51 := hI36.a ta53 (S.a 66 k.toNat).toNat
        have h52 : S35.a 53 (S.a 66 k.toNat).toNat = S0.a 53 (S.a 66 k.toNat).toNat := hF38.a rfl _
        refine a_int (i := 137) rfl ly59 rfl (by omega) (by omega) fun h53 => ?_
        have h54 := hI36.a ta59 (S35.a 53 (S.a 66 k.toNat).toNat).toNat
        have h55 : S35.a 59 (S35.a 53 (S.a 66 k.toNat).toNat).toNat = S0.a 59 (S35.a 53 (S.a 66 k.toNat).toNat).toNat := hF38.a rfl _
        refine s_int (i := 138) rfl ly61 rfl (by omega) (by omega) ⟨by omega, by omega⟩ ?_
        have hI57 := hI36.seta (b := 61) (j := (S35.f 43 20).toNat) (z := S35.a 59 (S35.a 53 (S.a 66 k.toNat).toNat).toNat) ta61 rfl (by omega) (by omega)
        have hF59 := hF38.seta (b := 61) (j := (S35.f 43 20).toNat) (z := S35.a 59 (S35.a 53 (S.a 66 k.toNat).toNat).toNat) rfl
        have hR60 := hR39.seta (b := 61) (j := (S35.f 43 20).toNat) (z := S35.a 59 (S35.a 53 (S.a 66 k.toNat).toNat).toNat)
        have e61 := CRx.seta e40 (b := 61) (j := (S35.f 43 20).toNat) (z := S35.a 59 (S35.a 53 (S.a 66 k.toNat).toNat).toNat) rfl
        have e62 := MCx.seta e41 (b := 61) (j := (S35.f 43 20).toNat) (z := S35.a 59 (S35.a 53 (S.a 66 k.toNat).toNat).toNat) rfl
        have e63 := wASx.seta e42 (b := 61) (j := (S35.f 43 20).toNat) (z := S35.a 59 (S35.a 53 (S.a 66 k.toNat).toNat).toNat) rfl
        have e64 := (wSCx k).seta e43 (b := 61) (j := (S35.f 43 20).toNat) (z := S35.a 59 (S35.a 53 (S.a 66 k.toNat).toNat).toNat) rfl
        refine yT_gen (fun S56 hS58 => ?_)
        rw [hS58] at hI57 hF59 hR60 e61 e62 e63 e64
        refine r_load (i := 139) (u := 0) (w := 2) rfl rfl rfl ?_
        refine r_getf (i := 140) (v := 28) (w := 11) (x := (2, 65)) rfl ly43 rfl rfl fun _ => ?_
        refine r_load (i := 141) (u := 0) (w := 2) rfl rfl rfl ?_
        have h66 := hI57.f tf43_20
        have h67 : S56.f 43 20 = S35.f 43 20 := by rw [← hS58]; rfl
        have h68 : S35.f 43 20 = S.f 43 20 := by rw [← hS37]; rfl
        refine r_getf (i := 142) (v := 20) (w := 11) (x := vi (S56.f 43 20)) rfl ly43 rfl rfl fun h69 => ?_
        have h69 : Rg (S56.f 43 20) := h69
        refine r_load (i := 143) (u := 0) (w := 2) rfl rfl rfl ?_
        refine r_getf (i := 144) (v := 30) (w := 11) (x := (2, 67)) rfl ly43 rfl rfl fun _ => ?_
        refine r_load (i := 145) (u := 7) (w := 0) rfl rfl rfl ?_
        refine a_bool (i := 146) rfl ly67 rfl (by omega) (by omega) fun h71 => ?_
        have h72 : S56.a 67 k.toNat = S35.a 67 k.toNat := by rw [← hS58]; rfl
        have h73 : S35.a 67 k.toNat = S.a 67 k.toNat := by rw [← hS37]; rfl
        refine s_bool (i := 147) rfl ly65 rfl (by omega) (by omega) (by omega) (by omega) ?_
        have hI75 := hI57.seta0 (b := 65) (j := (S56.f 43 20).toNat) (z := S56.a 67 k.toNat) rfl rfl
        have hF77 := hF59.seta (b := 65) (j := (S56.f 43 20).toNat) (z := S56.a 67 k.toNat) rfl
        have hR78 := hR60.seta (b := 65) (j := (S56.f 43 20).toNat) (z := S56.a 67 k.toNat)
        have e79 := CRx.seta e61 (b := 65) (j := (S56.f 43 20).toNat) (z := S56.a 67 k.toNat) rfl
        have e80 := MCx.seta e62 (b := 65) (j := (S56.f 43 20).toNat) (z := S56.a 67 k.toNat) rfl
        have e81 := wASx.seta e63 (b := 65) (j := (S56.f 43 20).toNat) (z := S56.a 67 k.toNat) rfl
        have e82 := (wSCx k).seta e64 (b := 65) (j := (S56.f 43 20).toNat) (z := S56.a 67 k.toNat) rfl
        refine yT_gen (fun S74 hS76 => ?_)
        rw [hS76] at hI75 hF77 hR78 e79 e80 e81 e82
        refine r_load (i := 148) (u := 0) (w := 2) rfl rfl rfl ?_
        refine r_getf (i := 149) (v := 26) (w := 11) (x := (2, 63)) rfl ly43 rfl rfl fun _ => ?_
        refine r_load (i := 150) (u := 0) (w := 2) rfl rfl rfl ?_
        have h84 := hI75.f tf43_20
        have h85 : S74.f 43 20 = S56.f 43 20 := by rw [← hS76]; rfl
        have h86 : S56.f 43 20 = S35.f 43 20 := by rw [← hS58]; rfl
        have h87 : S35.f 43 20 = S.f 43 20 := by rw [← hS37]; rfl
        refine r_getf (i := 151) (v := 20) (w := 11) (x := vi (S74.f 43 20)) rfl ly43 rfl rfl fun h88 => ?_
        have h88 : Rg (S74.f 43 20) := h88
        refine r_load (i := 152) (u := 0) (w := 2) rfl rfl rfl ?_
        refine r_getf (i := 153) (v := 17) (w := 11) (x := (2, 58)) rfl ly43 rfl rfl fun _ => ?_
        refine r_load (i := 154) (u := 8) (w := 0) rfl rfl rfl ?_
        refine a_int (i := 155) rfl ly58 rfl (by omega) (by omega) fun h90 => ?_
        have h91 := hI75.a ta58 (S.a 66 k.toNat).toNat
        have h92 : S74.a 58 (S.a 66 k.toNat).toNat = S0.a 58 (S.a 66 k.toNat).toNat := hF77.a rfl _
        refine s_int (i := 156) rfl ly63 rfl (by omega) (by omega) ⟨by omega, by omega⟩ ?_
        have hI94 := hI75.seta (b := 63) (j := (S74.f 43 20).toNat) (z := S74.a 58 (S.a 66 k.toNat).toNat) ta63 rfl (by omega) (by omega)
        have hF96 := hF77.seta (b := 63) (j := (S74.f 43 20).toNat) (z := S74.a 58 (S.a 66 k.toNat).toNat) rfl
        have hR97 := hR78.seta (b := 63) (j := (S74.f 43 20).toNat) (z := S74.a 58 (S.a 66 k.toNat).toNat)
        have e98 := CRx.seta e79 (b := 63) (j := (S74.f 43 20).toNat) (z := S74.a 58 (S.a 66 k.toNat).toNat) rfl
        have e99 := MCx.seta e80 (b := 63) (j := (S74.f 43 20).toNat) (z := S74.a 58 (S.a 66 k.toNat).toNat) rfl
        have e100 := wASx.seta e81 (b := 63) (j := (S74.f 43 20).toNat) (z := S74.a 58 (S.a 66 k.toNat).toNat) rfl
        have e101 := (wSCx k).seta e82 (b := 63) (j := (S74.f 43 20).toNat) (z := S74.a 58 (S.a 66 k.toNat).toNat) rfl
        refine yT_gen (fun S93 hS95 => ?_)
        rw [hS95] at hI94 hF96 hR97 e98 e99 e100 e101
        refine r_const (i := 157) (u := 0) (z := 0) rfl rfl ?_
        refine r_store (i := 158) (u := 9) (w := 0) (L1 := [some ((2, 43)), some (vi c), some (vi a), some (vi b), some (vi e), none, none, some (vi k), some (vi (S.a 66 k.toNat)), some (vi 0)]) rfl rfl rfl rfl ?_
        have h102 := hI94.f tf43_20
        have h103 : S93.f 43 20 = S74.f 43 20 := by rw [← hS95]; rfl
        have h104 : S74.f 43 20 = S56.f 43 20 := by rw [← hS76]; rfl
        have h105 : S56.f 43 20 = S35.f 43 20 := by rw [← hS58]; rfl
        have h106 : S35.f 43 20 = S.f 43 20 := by rw [← hS37]; rfl
        have h107 := nfz_0 (S := S93)
        have h108 : nf S93 = nf S74 := by rw [← hS95]; exact nfX.seta rfl
        have h109 : nf S93 k = nf S74 k := congrFun h108 _
        have h110 : nf S93 (k + 1) = nf S74 (k + 1) := congrFun h108 _
        have h111 : nf S74 = nf S56 := by rw [← hS76]; exact nfX.seta rfl
        have h112 : nf S74 k = nf S56 k := congrFun h111 _
        have h113 : nf S74 (k + 1) = nf S56 (k + 1) := congrFun h111 _
        have h114 : nf S56 = nf S35 := by rw [← hS58]; exact nfX.seta rfl
        have h115 : nf S56 k = nf S35 k := congrFun h114 _
        have h116 : nf S56 (k + 1) = nf S35 (k + 1) := congrFun h114 _
        have h117 : nf S35 = nf S := by rw [← hS37]; exact nfX.seta rfl
        have h118 : nf S35 k = nf S k := congrFun h117 _
        have h119 : nf S35 (k + 1) = nf S (k + 1) := congrFun h117 _
        have h120 : nfa S93 = nfa S74 := by rw [← hS95]; exact nfaX.seta rfl
        have h121 : nfa S74 = nfa S56 := by rw [← hS76]; exact nfaX.seta rfl
        have h122 : nfa S56 = nfa S35 := by rw [← hS58]; exact nfaX.seta rfl
        have h123 : nfa S35 = nfa S := by rw [← hS37]; exact nfaX.seta rfl
        have h124 := hI94.f tf43_31
        have h125 : S93.f 43 31 = S74.f 43 31 := by rw [← hS95]; rfl
        have h126 : S74.f 43 31 = S56.f 43 31 := by rw [← hS76]; rfl
        have h127 : S56.f 43 31 = S35.f 43 31 := by rw [← hS58]; rfl
        have h128 : S35.f 43 31 = S.f 43 31 := by rw [← hS37]; rfl
        have h129 : wtop S93 = wtop S74 := by rw [← hS95]; exact wtopX.seta rfl
        have h130 : wtop S74 = wtop S56 := by rw [← hS76]; exact wtopX.seta rfl
        have h131 : wtop S56 = wtop S35 := by rw [← hS58]; exact wtopX.seta rfl
        have h132 : wtop S35 = S.a 66 k.toNat := by rw [← hS37]; exact wtop_set
        have h133 := hI94.a ta66 k.toNat
        have h134 : S93.a 66 k.toNat = S74.a 66 k.toNat := by rw [← hS95]; rfl
        have h135 : S74.a 66 k.toNat = S56.a 66 k.toNat := by rw [← hS76]; rfl
        have h136 : S56.a 66 k.toNat = S35.a 66 k.toNat := by rw [← hS58]; rfl
        have h137 : S35.a 66 k.toNat = S.a 66 k.toNat := by rw [← hS37]; rfl
        have h138 := hI94.f tf43_0
        have h139 : S93.f 43 0 = S74.f 43 0 := by rw [← hS95]; rfl
        have h140 : S74.f 43 0 = S56.f 43 0 := by rw [← hS76]; rfl
        have h141 : S56.f 43 0 = S35.f 43 0 := by rw [← hS58]; rfl
        have h142 : S35.f 43 0 = S.f 43 0 := by rw [← hS37]; rfl
        exact lp203_159 h_c h_a h_b h_e  hd (k := k) ⟨by omega, by omega⟩ n ih (by omega) _ S93 hI94 hF96 hR97 e98 e99 e100 (S.a 66 k.toNat) 0 ⟨by omega, by omega⟩ ⟨by omega, by omega⟩ (by exact e101) (by omega) (by omega) (by omega) (by omega) (by omega) (by omega) (by exact mfY_up q_4 (sU_tr (sU_tr (sU_tr (sU_a hS37 (by decide) (by decide)) (sU_a hS58 (by decide) (by decide))) (sU_a hS76 (by decide) (by decide))) (sU_a hS95 (by decide) (by decide)))) (by omega) (by exact mS2_0 q_6 (by omega) (by subst hS37 hS58 hS76 hS95; rfl) (fun j => by subst hS37 hS58 hS76 hS95; rfl) (fun j => by subst hS37 hS58 hS76 hS95; rfl) (fun j => by subst hS37 hS58 hS76 hS95; rfl) (by omega)) (by exact mK2_0 q_7 (by omega) ⟨(fun j => by subst hS37 hS58 hS76 hS95; rfl), (fun j => by subst hS37 hS58 hS76 hS95; rfl), (fun j => by subst hS37 hS58 hS76 hS95; rfl), (fun j => by subst hS37 hS58 hS76 hS95; rfl)⟩ (by subst hS37 hS58 hS76 hS95; rfl) (fun j => by subst hS37 hS58 hS76 hS95; rfl) (fun j => by subst hS37 hS58 hS76 hS95; rfl) (fun j => by subst hS37 hS58 hS76 hS95; rfl) (fun j => by subst hS37 hS58 hS76 hS95; rfl)) (Int.lt_succ_toNat _)
      · have nn9 := nf_n (S := S) (k := k) (by omega) (by omega)
        refine r_goto (i := 120) (v := 190) rfl ?_
        refine r_iinc (i := 190) (u := 1) (v := 7) (s := 1) (L1 := [some ((2, 43)), some (vi c), some (vi a), some (vi b), some (vi e), none, none, some (vi (k + 1)), some (vi (S.a 66 k.toNat)), none]) rfl rfl rfl rfl rfl ?_
        refine r_goto (i := 191) (v := 104) rfl ?_
        refine yT_drop (L1 := [some ((2, 43)), some (vi c), some (vi a), some (vi b), some (vi e), none, none, some (vi (k + 1)), none, none]) rfl ?_
        exact ih S hI hF hR e_CR e_MC e_wAS (k + 1) ⟨by omega, by omega⟩ (by first | exact wSC_0 (by omega) | exact wSC_skip q_0 | exact wSC_push q_0 e_MC (by omega) (by omega) (by omega) (show wtop S = _ from by omega) (by subst_vars; rfl) (fun j => by subst_vars; rfl) (fun j => by subst_vars; rfl)) (by omega) (by omega) (by omega) (by exact mfY_up q_4 sU_rfl) (by omega) (by exact mS1_n q_6 (by omega) (by omega)) (by exact q_7) (by omega)
theorem lp203_83 {G : xk} {d : Nat} {S0 : yS} {c : Int} (h_c : -2147483648 ≤ c ∧ c ≤ 2147483647) {a : Int} (h_a : -2147483648 ≤ a ∧ a ≤ 2147483647) {b : Int} (h_b : -2147483648 ≤ b ∧ b ≤ 2147483647) {e : Int} (h_e : -2147483648 ≤ e ∧ e ≤ 2147483647) (hd : 12 ≤ d + 1) : ∀ (S : yS) (hI : yI S) (hF : yFr [(43, 0), (43, 19), (43, 20), (43, 21), (43, 22), (43, 31), (43, 42), (43, 43), (43, 49), (43, 50), (43, 51), (43, 52), (43, 53)] [60, 61, 62, 63, 64, 65, 66, 67, 68, 71, 72, 73, 74, 75, 76, 77, 78, 79] S0 S) (hR : yRm [] S0 S) (e_CR : CR S) (e_MC : MC S) (gv : Int) (h_gv : 0 ≤ gv ∧ gv ≤ 3) (q_0 : (0 ≤ c ∧ c ≤ 19) ∧ (-1 ≤ a ∧ a ≤ 19) ∧ (-1 ≤ b ∧ b ≤ 19) ∧ (-1 ≤ e ∧ e ≤ 19)) (q_1 : (1 ≤ gv → 0 ≤ a) ∧ (2 ≤ gv → 0 ≤ b) ∧ (3 ≤ gv → 0 ≤ e)) (q_2 : nfa S ≤ 24) (q_3 : mfY S0 S c a b e) (q_4 : S.f 43 0 = 0), yT xPr G LY xC203 83 [some ((2, 43)), some (vi c), some (vi a), some (vi b), some (vi e), none, none, none, none, none] [vi gv, (2, 43)] S (d + 1) (fun r S' => ∃ z : Int, r = (1, vi z) ∧ 0 ≤ z ∧ z ≤ 6 ∧ mfZ S0 S' z c a b e ∧ mkQ S0 S' z ∧ CR S' ∧ yI S' ∧ yFr [(43, 0), (43, 19), (43, 20), (43, 21), (43, 22), (43, 31), (43, 42), (43, 43), (43, 49), (43, 50), (43, 51), (43, 52), (43, 53)] [60, 61, 62, 63, 64, 65, 66, 67, 68, 71, 72, 73, 74, 75, 76, 77, 78, 79] S0 S' ∧ yRm [] S0 S') := by
  intro S hI hF hR e_CR e_MC gv h_gv q_0 q_1 q_2 q_3 q_4
  have h1 := hI.f tf43_0
  refine r_putI (i := 83) (v := 22) (w := 11) rfl ly43 rfl ⟨by omega, by omega⟩ ?_
  have hI3 := hI.setf (b := 43) (w := 22) (z := gv) tf43_22 rfl (by omega) (by omega)
  have hF5 := hF.setf (b := 43) (w := 22) (z := gv) rfl
  have hR6 := hR.setf (b := 43) (w := 22) (z := gv)
  have e7 := CRx.setf e_CR (b := 43) (w := 22) (z := gv) rfl
  have e8 := MCx.setf e_MC (b := 43) (w := 22) (z := gv) rfl
  refine yT_gen (fun S2 hS4 => ?_)
  rw [hS4] at hI3 hF5 hR6 e7 e8
  refine r_load (i := 84) (u := 0) (w := 2) rfl rfl rfl ?_
  refine r_getf (i := 85) (v := 27) (w := 11) (x := (2, 64)) rfl ly43 rfl rfl fun _ => ?_
  refine r_const (i := 86) (u := 0) (z := 0) rfl rfl ?_
  refine r_load (i := 87) (u := 2) (w := 0) rfl rfl rfl ?_
  refine s_int (i := 88) rfl ly64 rfl (by omega) (by omega) ⟨by omega, by omega⟩ ?_
  have hI11 := hI3.seta (b := 64) (j := (0 : Int).toNat) (z := a) ta64 rfl (by omega) (by omega)
  have hF13 := hF5.seta (b := 64) (j := (0 : Int).toNat) (z := a) rfl
  have hR14 := hR6.seta (b := 64) (j := (0 : Int).toNat) (z := a)
  have e15 := CRx.seta e7 (b := 64) (j := (0 : Int).toNat) (z := a) rfl
  have e16 := MCx.seta e8 (b := 64) (j := (0 : Int).toNat) (z := a) rfl
  refine yT_gen (fun S10 hS12 => ?_)
  rw [hS12] at hI11 hF13 hR14 e15 e16
  refine r_load (i := 89) (u := 0) (w := 2) rfl rfl rfl ?_
  refine r_getf (i := 90) (v := 27) (w := 11) (x := (2, 64)) rfl ly43 rfl rfl fun _ => ?_
  refine r_const (i := 91) (u := 1) (z := 1) rfl rfl ?_
  refine r_load (i := 92) (u := 3) (w := 0) rfl rfl rfl ?_
  refine s_int (i := 93) rfl ly64 rfl (by omega) (by omega) ⟨by omega, by omega⟩ ?_
  have hI19 := hI11.seta (b := 64) (j := (1 : Int).toNat) (z := b) ta64 rfl (by omega) (by omega)
  have hF21 := hF13.seta (b := 64) (j := (1 : Int).toNat) (z := b) rfl
  have hR22 := hR14.seta (b := 64) (j := (1 : Int).toNat) (z := b)
  have e23 := CRx.seta e15 (b := 64) (j := (1 : Int).toNat) (z := b) rfl
  have e24 := MCx.seta e16 (b := 64) (j := (1 : Int).toNat) (z := b) rfl
  refine yT_gen (fun S18 hS20 => ?_)
  rw [hS20] at hI19 hF21 hR22 e23 e24
  refine r_load (i := 94) (u := 0) (w := 2) rfl rfl rfl ?_
  refine r_getf (i := 95) (v := 27) (w := 11) (x := (2, 64)) rfl ly43 rfl rfl fun _ => ?_
  refine r_const (i := 96) (u := 2) (z := 2) rfl rfl ?_
  refine r_load (i := 97) (u := 4) (w := 0) rfl rfl rfl ?_
  refine s_int (i := 98) rfl ly64 rfl (by omega) (by omega) ⟨by omega, by omega⟩ ?_
  have hI27 := hI19.seta (b := 64) (j := (2 : Int).toNat) (z := e) ta64 rfl (by omega) (by omega)
  have hF29 := hF21.seta (b := 64) (j := (2 : Int).toNat) (z := e) rfl
  have hR30 := hR22.seta (b := 64) (j := (2 : Int).toNat) (z := e)
  have e31 := CRx.seta e23 (b := 64) (j := (2 : Int).toNat) (z := e) rfl
  have e32 := MCx.seta e24 (b := 64) (j := (2 : Int).toNat) (z := e) rfl
  refine yT_gen (fun S26 hS28 => ?_)
  rw [hS28] at hI27 hF29 hR30 e31 e32
  have at0 : S26.a 64 0 = a ∧ S26.a 64 1 = b ∧ S26.a 64 2 = e ∧ S26.f 43 22 = gv := by subst_vars; exact ⟨rfl, rfl, rfl, rfl⟩
  have as9 := wAS_of (S := S26) (by omega) ⟨by omega, by omega, by omega⟩
  refine r_load (i := 99) (u := 0) (w := 2) rfl rfl rfl ?_
  refine r_const (i := 100) (u := 0) (z := 0) rfl rfl ?_
  refine r_putI (i := 101) (v := 20) (w := 11) rfl ly43 rfl ⟨by omega, by omega⟩ ?_
  have hI34 := hI27.setf (b := 43) (w := 20) (z := 0) tf43_20 rfl (by omega) (by omega)
  have hF36 := hF29.setf (b := 43) (w := 20) (z := 0) rfl
  have hR37 := hR30.setf (b := 43) (w := 20) (z := 0)
  have e38 := CRx.setf e31 (b := 43) (w := 20) (z := 0) rfl
  have e39 := MCx.setf e32 (b := 43) (w := 20) (z := 0) rfl
  have e40 := wASx.setf as9 (b := 43) (w := 20) (z := 0) rfl
  refine yT_gen (fun S33 hS35 => ?_)
  rw [hS35] at hI34 hF36 hR37 e38 e39 e40
  refine r_const (i := 102) (u := 0) (z := 0) rfl rfl ?_
  refine r_store (i := 103) (u := 7) (w := 0) (L1 := [some ((2, 43)), some (vi c), some (vi a), some (vi b), some (vi e), none, none, some (vi 0), none, none]) rfl rfl rfl rfl ?_
  have h41 := hI34.f tf43_20
  have h42 : S33.f 43 20 = 0 := by rw [← hS35]; exact ysf_eq
  have h43 := nfz_0 (S := S33)
  have h44 : nf S33 = nf S26 := by rw [← hS35]; exact nfX.setf rfl
  have h45 : nf S26 = nf S18 := by rw [← hS28]; exact nfX.seta rfl
  have h46 : nf S18 = nf S10 := by rw [← hS20]; exact nfX.seta rfl
  have h47 : nf S10 = nf S2 := by rw [← hS12]; exact nfX.seta rfl
  have h48 : nf S2 = nf S := by rw [← hS4]; exact nfX.setf rfl
  have h49 : nfa S33 = nfa S26 := by rw [← hS35]; exact nfaX.setf rfl
  have h50 : nfa S26 = nfa S18 := by rw [← hS28]; exact nfaX.seta rfl
  have h51 : nfa S18 = nfa S10 := by rw [← hS20]; exact nfaX.seta rfl
  have h52 : nfa S10 = nfa S2 := by rw [← hS12]; exact nfaX.seta rfl
  have h53 : nfa S2 = nfa S := by rw [← hS4]; exact nfaX.setf rfl
  have h54 := hI34.f tf43_31
  have h55 : S33.f 43 31 = S26.f 43 31 := by rw [← hS35]; exact ysf_ne (by decide)
  have h56 : S26.f 43 31 = S18.f 43 31 := by rw [← hS28]; rfl
  have h57 : S18.f 43 31 = S10.f 43 31 := by rw [← hS20]; rfl
  have h58 : S10.f 43 31 = S2.f 43 31 := by rw [← hS12]; rfl
  have h59 : S2.f 43 31 = S.f 43 31 := by rw [← hS4]; exact ysf_ne (by decide)
  have h60 := hI34.f tf43_0
  have h61 : S33.f 43 0 = S26.f 43 0 := by rw [← hS35]; exact ysf_ne (by decide)
  have h62 : S26.f 43 0 = S18.f 43 0 := by rw [← hS28]; rfl
  have h63 : S18.f 43 0 = S10.f 43 0 := by rw [← hS20]; rfl
  have h64 : S10.f 43 0 = S2.f 43 0 := by rw [← hS12]; rfl
  have h65 : S2.f 43 0 = S.f 43 0 := by rw [← hS4]; exact ysf_ne (by decide)
  exact lp203_104 h_c h_a h_b h_e  hd _ S33 hI34 hF36 hR37 e38 e39 e40 0 ⟨by omega, by omega⟩ (by first | exact wSC_0 (by omega) | exact wSC_skip q_0 | exact wSC_push q_0 e_MC (by omega) (by omega) (by omega) (show wtop S = _ from by omega) (by subst_vars; rfl) (fun j => by subst_vars; rfl) (fun j => by subst_vars; rfl)) (by omega) (by omega) (by omega) (by exact mfY_up q_3 (sU_tr (sU_tr (sU_tr (sU_tr (sU_f hS4 (by decide)) (sU_a hS12 (by decide) (by decide))) (sU_a hS20 (by decide) (by decide))) (sU_a hS28 (by decide) (by decide))) (sU_f hS35 (by decide)))) (by omega) (by exact mS1_0 (by omega)) (by exact mK_00 (by omega)) (Int.lt_succ_toNat _)
theorem lp203_47 {G : xk} {d : Nat} {S0 : yS} {c : Int} (h_c : -2147483648 ≤ c ∧ c ≤ 2147483647) {a : Int} (h_a : -2147483648 ≤ a ∧ a ≤ 2147483647) {b : Int} (h_b : -2147483648 ≤ b ∧ b ≤ 2147483647) {e : Int} (h_e : -2147483648 ≤ e ∧ e ≤ 2147483647) (hd : 12 ≤ d + 1) : ∀ (S : yS) (hI : yI S) (hF : yFr [(43, 0), (43, 19), (43, 20), (43, 21), (43, 22), (43, 31), (43, 42), (43, 43), (43, 49), (43, 50), (43, 51), (43, 52), (43, 53)] [60, 61, 62, 63, 64, 65, 66, 67, 68, 71, 72, 73, 74, 75, 76, 77, 78, 79] S0 S) (hR : yRm [] S0 S) (e_CR : CR S) (g0 c0 : Int) (h_g0 : 0 ≤ g0 ∧ g0 ≤ 1) (h_c0 : 0 ≤ c0 ∧ c0 ≤ 1) (q_0 : g0 = 1 → (0 ≤ c ∧ c < S.f 43 1) ∧ (a = -1 ∨ (0 ≤ a ∧ a < S.f 43 1)) ∧ (b = -1 ∨ (0 ≤ b ∧ b < S.f 43 1)) ∧ (e = -1 ∨ (0 ≤ e ∧ e < S.f 43 1)) ∧ (a ≠ -1 ∨ b = -1) ∧ (b ≠ -1 ∨ e = -1)) (q_1 : c0 = 1 - g0) (q_2 : g0 = 1 → goM S0 c a b e) (q_3 : g0 = 0 → ¬ goM S0 c a b e) (q_4 : sSm S0 S) (q_5 : sKm S0 S), yT xPr G LY xC203 47 [some ((2, 43)), some (vi c), some (vi a), some (vi b), some (vi e), some (vi g0), none, none, none, none] [vi c0, (2, 43)] S (d + 1) (fun r S' => ∃ z : Int, r = (1, vi z) ∧ 0 ≤ z ∧ z ≤ 6 ∧ mfZ S0 S' z c a b e ∧ mkQ S0 S' z ∧ CR S' ∧ yI S' ∧ yFr [(43, 0), (43, 19), (43, 20), (43, 21), (43, 22), (43, 31), (43, 42), (43, 43), (43, 49), (43, 50), (43, 51), (43, 52), (43, 53)] [60, 61, 62, 63, 64, 65, 66, 67, 68, 71, 72, 73, 74, 75, 76, 77, 78, 79] S0 S' ∧ yRm [] S0 S') := by
  intro S hI hF hR e_CR g0 c0 h_g0 h_c0 q_0 q_1 q_2 q_3 q_4 q_5
  have h1 := hI.f tf43_1
  have h2 : S.f 43 1 = S0.f 43 1 := hF.f rfl
  refine r_putI (i := 47) (v := 0) (w := 11) rfl ly43 rfl ⟨by omega, by omega⟩ ?_
  have hI4 := hI.setf (b := 43) (w := 0) (z := c0) tf43_0 rfl (by omega) (by omega)
  have hF6 := hF.setf (b := 43) (w := 0) (z := c0) rfl
  have hR7 := hR.setf (b := 43) (w := 0) (z := c0)
  have e8 := CRx.setf e_CR (b := 43) (w := 0) (z := c0) rfl
  refine yT_gen (fun S3 hS5 => ?_)
  rw [hS5] at hI4 hF6 hR7 e8
  refine r_load (i := 48) (u := 5) (w := 0) rfl rfl rfl ?_
  refine z_ne (i := 49) (v := 52) rfl ⟨by omega, by omega⟩ (fun h9 => ?_) (fun h10 => ?_)
  · refine r_load (i := 52) (u := 0) (w := 2) rfl rfl rfl ?_
    refine r_load (i := 53) (u := 1) (w := 0) rfl rfl rfl ?_
    refine r_load (i := 54) (u := 2) (w := 0) rfl rfl rfl ?_
    refine r_load (i := 55) (u := 3) (w := 0) rfl rfl rfl ?_
    refine r_load (i := 56) (u := 4) (w := 0) rfl rfl rfl ?_
    refine r_call (i := 57) (u := 11) (v := 238) (w := 0) (b := 0) (na := 3077) (C2 := xC238) (as := [(2, 43), vi c, vi a, vi b, vi e]) (s := []) rfl rfl rfl rfl rfl rfl rfl (sp238 (c := c) (a := a) (b := b) (e := e) hI4 ⟨by omega, by omega⟩ ⟨by omega, by omega⟩ ⟨by omega, by omega⟩ ⟨by omega, by omega⟩   (by omega)) (fun r11 S12 hq13 => ?_)
    obtain ⟨z14, rfl, h15, h16, h17, mc18, mr19, hI20, hF21, hR22⟩ := hq13
    have hF23 := hF6.trans hF21 rfl rfl
    have hR24 := hR7.trans hR22 rfl
    have e25 := CRx.fr e8 hF21 rfl rfl
    refine Or.inr (Or.inl ⟨rfl, ?_⟩)
    refine r_store (i := 58) (u := 6) (w := 0) (L1 := [some ((2, 43)), some (vi c), some (vi a), some (vi b), some (vi e), some (vi g0), some (vi z14), none, none, none]) rfl rfl rfl rfl ?_
    refine r_load (i := 59) (u := 6) (w := 0) rfl rfl rfl ?_
    refine z_le (i := 60) (v := 63) rfl ⟨by omega, by omega⟩ (fun h26 => ?_) (fun h27 => ?_)
    · have mc7 := mc18 (by omega)
      refine r_load (i := 63) (u := 0) (w := 2) rfl rfl rfl ?_
      refine r_const (i := 64) (u := 1) (z := 1) rfl rfl ?_
      refine r_putZ (i := 65) (v := 19) (w := 11) rfl ly43 rfl (by omega) (by omega) ?_
      have hI29 := hI20.setf (b := 43) (w := 19) (z := 1) tf43_19 rfl (by omega) (by omega)
      have hF31 := hF23.setf (b := 43) (w := 19) (z := 1) rfl
      have hR32 := hR24.setf (b := 43) (w := 19) (z := 1)
      have e33 := CRx.setf e25 (b := 43) (w := 19) (z := 1) rfl
      have e34 := MCx.setf mc7 (b := 43) (w := 19) (z := 1) rfl
      refine yT_gen (fun S28 hS30 => ?_)
      rw [hS30] at hI29 hF31 hR32 e33 e34
      refine r_load (i := 66) (u := 0) (w := 2) rfl rfl rfl ?_
      refine r_load (i := 67) (u := 1) (w := 0) rfl rfl rfl ?_
      refine r_putI (i := 68) (v := 21) (w := 11) rfl ly43 rfl ⟨by omega, by omega⟩ ?_
      have hI36 := hI29.setf (b := 43) (w := 21) (z := c) tf43_21 rfl (by omega) (by omega)
      have hF38 := hF31.setf (b := 43) (w := 21) (z := c) rfl
      have hR39 := hR32.setf (b := 43) (w := 21) (z := c)
      have e40 := CRx.setf e33 (b := 43) (w := 21) (z := c) rfl
      have e41 := MCx.setf e34 (b := 43) (w := 21) (z := c) rfl
      refine yT_gen (fun S35 hS37 => ?_)
      rw [hS37] at hI36 hF38 hR39 e40 e41
      refine r_load (i := 69) (u := 0) (w := 2) rfl rfl rfl ?_
      refine r_load (i := 70) (u := 2) (w := 0) rfl rfl rfl ?_
      refine z_ge (i := 71) (v := 74) rfl ⟨by omega, by omega⟩ (fun h42 => ?_) (fun h43 => ?_)
      · refine r_load (i := 74) (u := 3) (w := 0) rfl rfl rfl ?_
        refine z_ge (i := 75) (v := 78) rfl ⟨by omega, by omega⟩ (fun h44 => ?_) (fun h45 => ?_)
        · refine r_load (i := 78) (u := 4) (w := 0) rfl rfl rfl ?_
          refine z_ge (i := 79) (v := 82) rfl ⟨by omega, by omega⟩ (fun h46 => ?_) (fun h47 => ?_)
          · refine r_const (i := 82) (u := 3) (z := 3) rfl rfl ?_
            refine yT_drop (L1 := [some ((2, 43)), some (vi c), some (vi a), some (vi b), some (vi e), none, none, none, none, none]) rfl ?_
            have h48 : nfa S35 = nfa S28 := by rw [← hS37]; exact nfaX.setf rfl
            have h49 : nfa S28 = nfa S12 := by rw [← hS30]; exact nfaX.setf rfl
            have h50 := hI36.f tf43_0
            have h51 : S35.f 43 0 = S28.f 43 0 := by rw [← hS37]; exact ysf_ne (by decide)
            have h52 : S28.f 43 0 = S12.f 43 0 := by rw [← hS30]; exact ysf_ne (by decide)
            have h53 : S12.f 43 0 = S3.f 43 0 := hF21.f rfl
            have h54 : S3.f 43 0 = c0 := by rw [← hS5]; exact ysf_eq
            exact lp203_83 h_c h_a h_b h_e  hd S35 hI36 hF38 hR39 e40 e41 3 ⟨by omega, by omega⟩ (by omega) (by omega) (by omega) (by exact ⟨q_2 (by omega), S3, S12, (by rw [← hS5]; exact (show sMa S0 S from sMa_fr hF rfl rfl)), mr0 mr19 (by omega), (sU_tr (sU_f hS30 (by decide)) (sU_f hS37 (by decide)))⟩) (by omega) 
          · refine r_const (i := 80) (u := 2) (z := 2) rfl rfl ?_
            refine r_goto (i := 81) (v := 83) rfl ?_
            refine yT_drop (L1 := [some ((2, 43)), some (vi c), some (vi a), some (vi b), some (vi e), none, none, none, none, none]) rfl ?_
            have h55 : nfa S35 = nfa S28 := by rw [← hS37]; exact nfaX.setf rfl
            have h56 : nfa S28 = nfa S12 := by rw [← hS30]; exact nfaX.setf rfl
            have h57 := hI36.f tf43_0
            have h58 : S35.f 43 0 = S28.f 43 0 := by rw [← hS37]; exact ysf_ne (by decide)
            have h59 : S28.f 43 0 = S12.f 43 0 := by rw [← hS30]; exact ysf_ne (by decide)
            have h60 : S12.f 43 0 = S3.f 43 0 := hF21.f rfl
            have h61 : S3.f 43 0 = c0 := by rw [← hS5]; exact ysf_eq
            exact lp203_83 h_c h_a h_b h_e  hd S35 hI36 hF38 hR39 e40 e41 2 ⟨by omega, by omega⟩ (by omega) (by omega) (by omega) (by exact ⟨q_2 (by omega), S3, S12, (by rw [← hS5]; exact (show sMa S0 S from sMa_fr hF rfl rfl)), mr0 mr19 (by omega), (sU_tr (sU_f hS30 (by decide)) (sU_f hS37 (by decide)))⟩) (by omega) 
        · refine r_const (i := 76) (u := 1) (z := 1) rfl rfl ?_
          refine r_goto (i := 77) (v := 83) rfl ?_
          refine yT_drop (L1 := [some ((2, 43)), some (vi c), some (vi a), some (vi b), some (vi e), none, none, none, none, none]) rfl ?_
          have h62 : nfa S35 = nfa S28 := by rw [← hS37]; exact nfaX.setf rfl
          have h63 : nfa S28 = nfa S12 := by rw [← hS30]; exact nfaX.setf rfl
          have h64 := hI36.f tf43_0
          have h65 : S35.f 43 0 = S28.f 43 0 := by rw [← hS37]; exact ysf_ne (by decide)
          have h66 : S28.f 43 0 = S12.f 43 0 := by rw [← hS30]; exact ysf_ne (by decide)
          have h67 : S12.f 43 0 = S3.f 43 0 := hF21.f rfl
          have h68 : S3.f 43 0 = c0 := by rw [← hS5]; exact ysf_eq
          exact lp203_83 h_c h_a h_b h_e  hd S35 hI36 hF38 hR39 e40 e41 1 ⟨by omega, by omega⟩ (by omega) (by omega) (by omega) (by exact ⟨q_2 (by omega), S3, S12, (by rw [← hS5]; exact (show sMa S0 S from sMa_fr hF rfl rfl)), mr0 mr19 (by omega), (sU_tr (sU_f hS30 (by decide)) (sU_f hS37 (by decide)))⟩) (by omega) 
      · refine r_const (i := 72) (u := 0) (z := 0) rfl rfl ?_
        refine r_goto (i := 73) (v := 83) rfl ?_
        refine yT_drop (L1 := [some ((2, 43)), some (vi c), some (vi a), some (vi b), some (vi e), none, none, none, none, none]) rfl ?_
        have h69 : nfa S35 = nfa S28 := by rw [← hS37]; exact nfaX.setf rfl
        have h70 : nfa S28 = nfa S12 := by rw [← hS30]; exact nfaX.setf rfl
        have h71 := hI36.f tf43_0
        have h72 : S35.f 43 0 = S28.f 43 0 := by rw [← hS37]; exact ysf_ne (by decide)
        have h73 : S28.f 43 0 = S12.f 43 0 := by rw [← hS30]; exact ysf_ne (by decide)
        have h74 : S12.f 43 0 = S3.f 43 0 := hF21.f rfl
        have h75 : S3.f 43 0 = c0 := by rw [← hS5]; exact ysf_eq
        exact lp203_83 h_c h_a h_b h_e  hd S35 hI36 hF38 hR39 e40 e41 0 ⟨by omega, by omega⟩ (by omega) (by omega) (by omega) (by exact ⟨q_2 (by omega), S3, S12, (by rw [← hS5]; exact (show sMa S0 S from sMa_fr hF rfl rfl)), mr0 mr19 (by omega), (sU_tr (sU_f hS30 (by decide)) (sU_f hS37 (by decide)))⟩) (by omega) 
    · refine r_load (i := 61) (u := 6) (w := 0) rfl rfl rfl ?_
      have h76 := hI20.f tf43_0
      have h77 : S12.f 43 0 = S3.f 43 0 := hF21.f rfl
      have h78 : S3.f 43 0 = c0 := by rw [← hS5]; exact ysf_eq
      exact r_retI (i := 62) rfl ⟨z14, rfl, by omega, by omega, (by exact Or.inr ⟨by omega, q_2 (by omega), S3, S12, (by rw [← hS5]; exact (show sMa S0 S from sMa_fr hF rfl rfl)), mr19, fun _ => sSm_tr q_4 (sSm_tr (sSm_f hS5 (by decide)) (sSm_fr hF21 rfl rfl)), fun q9 => absurd q9 (by omega)⟩), (by exact ⟨fun _ => sKm_tr q_5 (sKm_tr (sKm_f hS5 (by decide)) (sKm_fr hF21 rfl rfl)), fun h9 => absurd h9 (by omega)⟩), e25, hI20, hF23, hR24⟩
  · refine r_const (i := 50) (u := 0) (z := 0) rfl rfl ?_
    have h79 := hI4.f tf43_0
    have h80 : S3.f 43 0 = c0 := by rw [← hS5]; exact ysf_eq
    exact r_retI (i := 51) rfl ⟨0, rfl, by omega, by omega, (by exact Or.inl ⟨by omega, q_3 (by omega), sSm_tr q_4 (sSm_f hS5 (by decide))⟩), (by exact ⟨fun _ => sKm_tr q_5 (sKm_f hS5 (by decide)), fun _ h9 => absurd h9 (by omega)⟩), e8, hI4, hF6, hR7⟩
theorem lp203_40 {G : xk} {d : Nat} {S0 : yS} {c : Int} (h_c : -2147483648 ≤ c ∧ c ≤ 2147483647) {a : Int} (h_a : -2147483648 ≤ a ∧ a ≤ 2147483647) {b : Int} (h_b : -2147483648 ≤ b ∧ b ≤ 2147483647) {e : Int} (h_e : -2147483648 ≤ e ∧ e ≤ 2147483647) (hd : 12 ≤ d + 1) : ∀ (S : yS) (hI : yI S) (hF : yFr [(43, 0), (43, 19), (43, 20), (43, 21), (43, 22), (43, 31), (43, 42), (43, 43), (43, 49), (43, 50), (43, 51), (43, 52), (43, 53)] [60, 61, 62, 63, 64, 65, 66, 67, 68, 71, 72, 73, 74, 75, 76, 77, 78, 79] S0 S) (hR : yRm [] S0 S) (e_CR : CR S) (g0 : Int) (h_g0 : 0 ≤ g0 ∧ g0 ≤ 1) (q_0 : g0 = 1 → (0 ≤ c ∧ c < S.f 43 1) ∧ (a = -1 ∨ (0 ≤ a ∧ a < S.f 43 1)) ∧ (b = -1 ∨ (0 ≤ b ∧ b < S.f 43 1)) ∧ (e = -1 ∨ (0 ≤ e ∧ e < S.f 43 1)) ∧ (a ≠ -1 ∨ b = -1) ∧ (b ≠ -1 ∨ e = -1)) (q_1 : (g0 = 1 → goM S0 c a b e) ∧ (g0 = 0 → ¬ goM S0 c a b e)) (q_2 : sSm S0 S) (q_3 : sKm S0 S), yT xPr G LY xC203 40 [some ((2, 43)), some (vi c), some (vi a), some (vi b), some (vi e), none, none, none, none, none] [vi g0] S (d + 1) (fun r S' => ∃ z : Int, r = (1, vi z) ∧ 0 ≤ z ∧ z ≤ 6 ∧ mfZ S0 S' z c a b e ∧ mkQ S0 S' z ∧ CR S' ∧ yI S' ∧ yFr [(43, 0), (43, 19), (43, 20), (43, 21), (43, 22), (43, 31), (43, 42), (43, 43), (43, 49), (43, 50), (43, 51), (43, 52), (43, 53)] [60, 61, 62, 63, 64, 65, 66, 67, 68, 71, 72, 73, 74, 75, 76, 77, 78, 79] S0 S' ∧ yRm [] S0 S') := by
  intro S hI hF hR e_CR g0 h_g0 q_0 q_1 q_2 q_3
  have h1 := hI.f tf43_1
  have h2 : S.f 43 1 = S0.f 43 1 := hF.f rfl
  refine r_store (i := 40) (u := 5) (w := 0) (L1 := [some ((2, 43)), some (vi c), some (vi a), some (vi b), some (vi e), some (vi g0), none, none, none, none]) rfl rfl rfl rfl ?_
  refine r_load (i := 41) (u := 0) (w := 2) rfl rfl rfl ?_
  refine r_load (i := 42) (u := 5) (w := 0) rfl rfl rfl ?_
  refine z_eq (i := 43) (v := 46) rfl ⟨by omega, by omega⟩ (fun h3 => ?_) (fun h4 => ?_)
  · refine r_const (i := 46) (u := 1) (z := 1) rfl rfl ?_
    exact lp203_47 h_c h_a h_b h_e  hd S hI hF hR e_CR g0 1 ⟨by omega, by omega⟩ ⟨by omega, by omega⟩ (by omega) (by omega) (by exact q_1.1) (by exact q_1.2) (by exact q_2) (by exact q_3) 
  · refine r_const (i := 44) (u := 0) (z := 0) rfl rfl ?_
    refine r_goto (i := 45) (v := 47) rfl ?_
    exact lp203_47 h_c h_a h_b h_e  hd S hI hF hR e_CR g0 0 ⟨by omega, by omega⟩ ⟨by omega, by omega⟩ (by omega) (by omega) (by exact q_1.1) (by exact q_1.2) (by exact q_2) (by exact q_3) 
/-- ProxyForgeModel.forge -/
theorem sp203 {G : xk} {S : yS} {d : Nat} (hI : yI S) {c : Int} (h_c : -2147483648 ≤ c ∧ c ≤ 2147483647) {a : Int} (h_a : -2147483648 ≤ a ∧ a ≤ 2147483647) {b : Int} (h_b : -2147483648 ≤ b ∧ b ≤ 2147483647) {e : Int} (h_e : -2147483648 ≤ e ∧ e ≤ 2147483647) (e_CR : CR S) (hd : 12 ≤ d) : yT xPr G LY xC203 0 [some ((2, 43)), some (vi c), some (vi a), some (vi b), some (vi e)] [] S d (fun r S' => ∃ z : Int, r = (1, vi z) ∧ 0 ≤ z ∧ z ≤ 6 ∧ mfZ S S' z c a b e ∧ mkQ S S' z ∧ CR S' ∧ yI S' ∧ yFr [(43, 0), (43, 19), (43, 20), (43, 21), (43, 22), (43, 31), (43, 42), (43, 43), (43, 49), (43, 50), (43, 51), (43, 52), (43, 53)] [60, 61, 62, 63, 64, 65, 66, 67, 68, 71, 72, 73, 74, 75, 76, 77, 78, 79] S S' ∧ yRm [] S S') := by
  refine yT_pad 5 ?_
  show yT xPr G LY xC203 0 [some ((2, 43)), some (vi c), some (vi a), some (vi b), some (vi e), none, none, none, none, none] [] S d _
  obtain ⟨d, rfl⟩ : ∃ q, d = q + 1 := ⟨d - 1, by omega⟩
  have hF : yFr [(43, 0), (43, 19), (43, 20), (43, 21), (43, 22), (43, 31), (43, 42), (43, 43), (43, 49), (43, 50), (43, 51), (43, 52), (43, 53)] [60, 61, 62, 63, 64, 65, 66, 67, 68, 71, 72, 73, 74, 75, 76, 77, 78, 79] S S := yFr.refl S
  have hR : yRm [] S S := yRm.refl S
  refine r_load (i := 0) (u := 0) (w := 2) rfl rfl rfl ?_
  refine r_load (i := 1) (u := 1) (w := 0) rfl rfl rfl ?_
  have h1 := hI.f tf43_1
  refine r_call (i := 2) (u := 11) (v := 213) (w := 0) (b := 0) (na := 514) (C2 := xC213) (as := [(2, 43), vi c]) (s := []) rfl rfl rfl rfl rfl rfl rfl (sp213 (t := c) hI ⟨by omega, by omega⟩   (by omega)) (fun r2 S3 hq4 => ?_)
  obtain ⟨z5, rfl, h6, h7, h8, h9, rfl⟩ := hq4
  refine Or.inr (Or.inl ⟨rfl, ?_⟩)
  refine z_eq (i := 3) (v := 39) rfl ⟨by omega, by omega⟩ (fun h10 => ?_) (fun h11 => ?_)
  · refine r_const (i := 39) (u := 0) (z := 0) rfl rfl ?_
    exact lp203_40 h_c h_a h_b h_e  hd S hI hF hR e_CR 0 ⟨by omega, by omega⟩ (by omega) (by unfold goM; omega) (by exact sSm_rfl) (by exact sKm_rfl) 
  · refine r_load (i := 4) (u := 2) (w := 0) rfl rfl rfl ?_
    refine r_const (i := 5) (u := 4294967295) (z := -1) rfl rfl ?_
    refine c_eq (i := 6) (v := 11) rfl ⟨by omega, by omega⟩ ⟨by omega, by omega⟩ (fun h12 => ?_) (fun h13 => ?_)
    · refine r_load (i := 11) (u := 3) (w := 0) rfl rfl rfl ?_
      refine r_const (i := 12) (u := 4294967295) (z := -1) rfl rfl ?_
      refine c_eq (i := 13) (v := 18) rfl ⟨by omega, by omega⟩ ⟨by omega, by omega⟩ (fun h14 => ?_) (fun h15 => ?_)
      · refine r_load (i := 18) (u := 4) (w := 0) rfl rfl rfl ?_
        refine r_const (i := 19) (u := 4294967295) (z := -1) rfl rfl ?_
        refine c_eq (i := 20) (v := 25) rfl ⟨by omega, by omega⟩ ⟨by omega, by omega⟩ (fun h16 => ?_) (fun h17 => ?_)
        · refine r_load (i := 25) (u := 2) (w := 0) rfl rfl rfl ?_
          refine r_const (i := 26) (u := 4294967295) (z := -1) rfl rfl ?_
          refine c_ne (i := 27) (v := 31) rfl ⟨by omega, by omega⟩ ⟨by omega, by omega⟩ (fun h18 => absurd h18 (by omega)) (fun h19 => ?_)
          refine r_load (i := 28) (u := 3) (w := 0) rfl rfl rfl ?_
          refine r_const (i := 29) (u := 4294967295) (z := -1) rfl rfl ?_
          refine c_ne (i := 30) (v := 39) rfl ⟨by omega, by omega⟩ ⟨by omega, by omega⟩ (fun h20 => absurd h20 (by omega)) (fun h21 => ?_)
          refine r_load (i := 31) (u := 3) (w := 0) rfl rfl rfl ?_
          refine r_const (i := 32) (u := 4294967295) (z := -1) rfl rfl ?_
          refine c_ne (i := 33) (v := 37) rfl ⟨by omega, by omega⟩ ⟨by omega, by omega⟩ (fun h22 => absurd h22 (by omega)) (fun h23 => ?_)
          refine r_load (i := 34) (u := 4) (w := 0) rfl rfl rfl ?_
          refine r_const (i := 35) (u := 4294967295) (z := -1) rfl rfl ?_
          refine c_ne (i := 36) (v := 39) rfl ⟨by omega, by omega⟩ ⟨by omega, by omega⟩ (fun h24 => absurd h24 (by omega)) (fun h25 => ?_)
          refine r_const (i := 37) (u := 1) (z := 1) rfl rfl ?_
          refine r_goto (i := 38) (v := 40) rfl ?_
          exact lp203_40 h_c h_a h_b h_e  hd S hI hF hR e_CR 1 ⟨by omega, by omega⟩ (by omega) (by unfold goM; omega) (by exact sSm_rfl) (by exact sKm_rfl) 
        · refine r_load (i := 21) (u := 0) (w := 2) rfl rfl rfl ?_
          refine r_load (i := 22) (u := 4) (w := 0) rfl rfl rfl ?_
          refine r_call (i := 23) (u := 11) (v := 213) (w := 0) (b := 0) (na := 514) (C2 := xC213) (as := [(2, 43), vi e]) (s := []) rfl rfl rfl rfl rfl rfl rfl (sp213 (t := e) hI ⟨by omega, by omega⟩   (by omega)) (fun r26 S27 hq28 => ?_)
          obtain ⟨z29, rfl, h30, h31, h32, h33, rfl⟩ := hq28
          refine Or.inr (Or.inl ⟨rfl, ?_⟩)
          refine z_eq (i := 24) (v := 39) rfl ⟨by omega, by omega⟩ (fun h34 => ?_) (fun h35 => ?_)
          · refine r_const (i := 39) (u := 0) (z := 0) rfl rfl ?_
            exact lp203_40 h_c h_a h_b h_e  hd S hI hF hR e_CR 0 ⟨by omega, by omega⟩ (by omega) (by unfold goM; omega) (by exact sSm_rfl) (by exact sKm_rfl) 
          · refine r_load (i := 25) (u := 2) (w := 0) rfl rfl rfl ?_
            refine r_const (i := 26) (u := 4294967295) (z := -1) rfl rfl ?_
            refine c_ne (i := 27) (v := 31) rfl ⟨by omega, by omega⟩ ⟨by omega, by omega⟩ (fun h36 => absurd h36 (by omega)) (fun h37 => ?_)
            refine r_load (i := 28) (u := 3) (w := 0) rfl rfl rfl ?_
            refine r_const (i := 29) (u := 4294967295) (z := -1) rfl rfl ?_
            refine c_ne (i := 30) (v := 39) rfl ⟨by omega, by omega⟩ ⟨by omega, by omega⟩ (fun h38 => absurd h38 (by omega)) (fun h39 => ?_)
            refine r_load (i := 31) (u := 3) (w := 0) rfl rfl rfl ?_
            refine r_const (i := 32) (u := 4294967295) (z := -1) rfl rfl ?_
            refine c_ne (i := 33) (v := 37) rfl ⟨by omega, by omega⟩ ⟨by omega, by omega⟩ (fun h40 => absurd h40 (by omega)) (fun h41 => ?_)
            refine r_load (i := 34) (u := 4) (w := 0) rfl rfl rfl ?_
            refine r_const (i := 35) (u := 4294967295) (z := -1) rfl rfl ?_
            refine c_ne (i := 36) (v := 39) rfl ⟨by omega, by omega⟩ ⟨by omega, by omega⟩ (fun h42 => ?_) (fun h43 => absurd h43 (by omega))
            refine r_const (i := 39) (u := 0) (z := 0) rfl rfl ?_
            exact lp203_40 h_c h_a h_b h_e  hd S hI hF hR e_CR 0 ⟨by omega, by omega⟩ (by omega) (by unfold goM; omega) (by exact sSm_rfl) (by exact sKm_rfl) 
      · refine r_load (i := 14) (u := 0) (w := 2) rfl rfl rfl ?_
        refine r_load (i := 15) (u := 3) (w := 0) rfl rfl rfl ?_
        refine r_call (i := 16) (u := 11) (v := 213) (w := 0) (b := 0) (na := 514) (C2 := xC213) (as := [(2, 43), vi b]) (s := []) rfl rfl rfl rfl rfl rfl rfl (sp213 (t := b) hI ⟨by omega, by omega⟩   (by omega)) (fun r44 S45 hq46 => ?_)
        obtain ⟨z47, rfl, h48, h49, h50, h51, rfl⟩ := hq46
        refine Or.inr (Or.inl ⟨rfl, ?_⟩)
        refine z_eq (i := 17) (v := 39) rfl ⟨by omega, by omega⟩ (fun h52 => ?_) (fun h53 => ?_)
        · refine r_const (i := 39) (u := 0) (z := 0) rfl rfl ?_
          exact lp203_40 h_c h_a h_b h_e  hd S hI hF hR e_CR 0 ⟨by omega, by omega⟩ (by omega) (by unfold goM; omega) (by exact sSm_rfl) (by exact sKm_rfl) 
        · refine r_load (i := 18) (u := 4) (w := 0) rfl rfl rfl ?_
          refine r_const (i := 19) (u := 4294967295) (z := -1) rfl rfl ?_
          refine c_eq (i := 20) (v := 25) rfl ⟨by omega, by omega⟩ ⟨by omega, by omega⟩ (fun h54 => ?_) (fun h55 => ?_)
          · refine r_load (i := 25) (u := 2) (w := 0) rfl rfl rfl ?_
            refine r_const (i := 26) (u := 4294967295) (z := -1) rfl rfl ?_
            refine c_ne (i := 27) (v := 31) rfl ⟨by omega, by omega⟩ ⟨by omega, by omega⟩ (fun h56 => absurd h56 (by omega)) (fun h57 => ?_)
            refine r_load (i := 28) (u := 3) (w := 0) rfl rfl rfl ?_
            refine r_const (i := 29) (u := 4294967295) (z := -1) rfl rfl ?_
            refine c_ne (i := 30) (v := 39) rfl ⟨by omega, by omega⟩ ⟨by omega, by omega⟩ (fun h58 => ?_) (fun h59 => absurd h59 (by omega))
            refine r_const (i := 39) (u := 0) (z := 0) rfl rfl ?_
            exact lp203_40 h_c h_a h_b h_e  hd S hI hF hR e_CR 0 ⟨by omega, by omega⟩ (by omega) (by unfold goM; omega) (by exact sSm_rfl) (by exact sKm_rfl) 
          · refine r_load (i := 21) (u := 0) (w := 2) rfl rfl rfl ?_
            refine r_load (i := 22) (u := 4) (w := 0) rfl rfl rfl ?_
            refine r_call (i := 23) (u := 11) (v := 213) (w := 0) (b := 0) (na := 514) (C2 := xC213) (as := [(2, 43), vi e]) (s := []) rfl rfl rfl rfl rfl rfl rfl (sp213 (t := e) hI ⟨by omega, by omega⟩   (by omega)) (fun r60 S61 hq62 => ?_)
            obtain ⟨z63, rfl, h64, h65, h66, h67, rfl⟩ := hq62
            refine Or.inr (Or.inl ⟨rfl, ?_⟩)
            refine z_eq (i := 24) (v := 39) rfl ⟨by omega, by omega⟩ (fun h68 => ?_) (fun h69 => ?_)
            · refine r_const (i := 39) (u := 0) (z := 0) rfl rfl ?_
              exact lp203_40 h_c h_a h_b h_e  hd S hI hF hR e_CR 0 ⟨by omega, by omega⟩ (by omega) (by unfold goM; omega) (by exact sSm_rfl) (by exact sKm_rfl) 
            · refine r_load (i := 25) (u := 2) (w := 0) rfl rfl rfl ?_
              refine r_const (i := 26) (u := 4294967295) (z := -1) rfl rfl ?_
              refine c_ne (i := 27) (v := 31) rfl ⟨by omega, by omega⟩ ⟨by omega, by omega⟩ (fun h70 => absurd h70 (by omega)) (fun h71 => ?_)
              refine r_load (i := 28) (u := 3) (w := 0) rfl rfl rfl ?_
              refine r_const (i := 29) (u := 4294967295) (z := -1) rfl rfl ?_
              refine c_ne (i := 30) (v := 39) rfl ⟨by omega, by omega⟩ ⟨by omega, by omega⟩ (fun h72 => ?_) (fun h73 => absurd h73 (by omega))
              refine r_const (i := 39) (u := 0) (z := 0) rfl rfl ?_
              exact lp203_40 h_c h_a h_b h_e  hd S hI hF hR e_CR 0 ⟨by omega, by omega⟩ (by omega) (by unfold goM; omega) (by exact sSm_rfl) (by exact sKm_rfl) 
    · refine r_load (i := 7) (u := 0) (w := 2) rfl rfl rfl ?_
      refine r_load (i := 8) (u := 2) (w := 0) rfl rfl rfl ?_
      refine r_call (i := 9) (u := 11) (v := 213) (w := 0) (b := 0) (na := 514) (C2 := xC213) (as := [(2, 43), vi a]) (s := []) rfl rfl rfl rfl rfl rfl rfl (sp213 (t := a) hI ⟨by omega, by omega⟩   (by omega)) (fun r74 S75 hq76 => ?_)
      obtain ⟨z77, rfl, h78, h79, h80, h81, rfl⟩ := hq76
      refine Or.inr (Or.inl ⟨rfl, ?_⟩)
      refine z_eq (i := 10) (v := 39) rfl ⟨by omega, by omega⟩ (fun h82 => ?_) (fun h83 => ?_)
      · refine r_const (i := 39) (u := 0) (z := 0) rfl rfl ?_
        exact lp203_40 h_c h_a h_b h_e  hd S hI hF hR e_CR 0 ⟨by omega, by omega⟩ (by omega) (by unfold goM; omega) (by exact sSm_rfl) (by exact sKm_rfl) 
      · refine r_load (i := 11) (u := 3) (w := 0) rfl rfl rfl ?_
        refine r_const (i := 12) (u := 4294967295) (z := -1) rfl rfl ?_
        refine c_eq (i := 13) (v := 18) rfl ⟨by omega, by omega⟩ ⟨by omega, by omega⟩ (fun h84 => ?_) (fun h85 => ?_)
        · refine r_load (i := 18) (u := 4) (w := 0) rfl rfl rfl ?_
          refine r_const (i := 19) (u := 4294967295) (z := -1) rfl rfl ?_
          refine c_eq (i := 20) (v := 25) rfl ⟨by omega, by omega⟩ ⟨by omega, by omega⟩ (fun h86 => ?_) (fun h87 => ?_)
          · refine r_load (i := 25) (u := 2) (w := 0) rfl rfl rfl ?_
            refine r_const (i := 26) (u := 4294967295) (z := -1) rfl rfl ?_
            refine c_ne (i := 27) (v := 31) rfl ⟨by omega, by omega⟩ ⟨by omega, by omega⟩ (fun h88 => ?_) (fun h89 => absurd h89 (by omega))
            refine r_load (i := 31) (u := 3) (w := 0) rfl rfl rfl ?_
            refine r_const (i := 32) (u := 4294967295) (z := -1) rfl rfl ?_
            refine c_ne (i := 33) (v := 37) rfl ⟨by omega, by omega⟩ ⟨by omega, by omega⟩ (fun h90 => absurd h90 (by omega)) (fun h91 => ?_)
            refine r_load (i := 34) (u := 4) (w := 0) rfl rfl rfl ?_
            refine r_const (i := 35) (u := 4294967295) (z := -1) rfl rfl ?_
            refine c_ne (i := 36) (v := 39) rfl ⟨by omega, by omega⟩ ⟨by omega, by omega⟩ (fun h92 => absurd h92 (by omega)) (fun h93 => ?_)
            refine r_const (i := 37) (u := 1) (z := 1) rfl rfl ?_
            refine r_goto (i := 38) (v := 40) rfl ?_
            exact lp203_40 h_c h_a h_b h_e  hd S hI hF hR e_CR 1 ⟨by omega, by omega⟩ (by omega) (by unfold goM; omega) (by exact sSm_rfl) (by exact sKm_rfl) 
          · refine r_load (i := 21) (u := 0) (w := 2) rfl rfl rfl ?_
            refine r_load (i := 22) (u := 4) (w := 0) rfl rfl rfl ?_
            refine r_call (i := 23) (u := 11) (v := 213) (w := 0) (b := 0) (na := 514) (C2 := xC213) (as := [(2, 43), vi e]) (s := []) rfl rfl rfl rfl rfl rfl rfl (sp213 (t := e) hI ⟨by omega, by omega⟩   (by omega)) (fun r94 S95 hq96 => ?_)
            obtain ⟨z97, rfl, h98, h99, h100, h101, rfl⟩ := hq96
            refine Or.inr (Or.inl ⟨rfl, ?_⟩)
            refine z_eq (i := 24) (v := 39) rfl ⟨by omega, by omega⟩ (fun h102 => ?_) (fun h103 => ?_)
            · refine r_const (i := 39) (u := 0) (z := 0) rfl rfl ?_
              exact lp203_40 h_c h_a h_b h_e  hd S hI hF hR e_CR 0 ⟨by omega, by omega⟩ (by omega) (by unfold goM; omega) (by exact sSm_rfl) (by exact sKm_rfl) 
            · refine r_load (i := 25) (u := 2) (w := 0) rfl rfl rfl ?_
              refine r_const (i := 26) (u := 4294967295) (z := -1) rfl rfl ?_
              refine c_ne (i := 27) (v := 31) rfl ⟨by omega, by omega⟩ ⟨by omega, by omega⟩ (fun h104 => ?_) (fun h105 => absurd h105 (by omega))
              refine r_load (i := 31) (u := 3) (w := 0) rfl rfl rfl ?_
              refine r_const (i := 32) (u := 4294967295) (z := -1) rfl rfl ?_
              refine c_ne (i := 33) (v := 37) rfl ⟨by omega, by omega⟩ ⟨by omega, by omega⟩ (fun h106 => absurd h106 (by omega)) (fun h107 => ?_)
              refine r_load (i := 34) (u := 4) (w := 0) rfl rfl rfl ?_
              refine r_const (i := 35) (u := 4294967295) (z := -1) rfl rfl ?_
              refine c_ne (i := 36) (v := 39) rfl ⟨by omega, by omega⟩ ⟨by omega, by omega⟩ (fun h108 => ?_) (fun h109 => absurd h109 (by omega))
              refine r_const (i := 39) (u := 0) (z := 0) rfl rfl ?_
              exact lp203_40 h_c h_a h_b h_e  hd S hI hF hR e_CR 0 ⟨by omega, by omega⟩ (by omega) (by unfold goM; omega) (by exact sSm_rfl) (by exact sKm_rfl) 
        · refine r_load (i := 14) (u := 0) (w := 2) rfl rfl rfl ?_
          refine r_load (i := 15) (u := 3) (w := 0) rfl rfl rfl ?_
          refine r_call (i := 16) (u := 11) (v := 213) (w := 0) (b := 0) (na := 514) (C2 := xC213) (as := [(2, 43), vi b]) (s := []) rfl rfl rfl rfl rfl rfl rfl (sp213 (t := b) hI ⟨by omega, by omega⟩   (by omega)) (fun r110 S111 hq112 => ?_)
          obtain ⟨z113, rfl, h114, h115, h116, h117, rfl⟩ := hq112
          refine Or.inr (Or.inl ⟨rfl, ?_⟩)
          refine z_eq (i := 17) (v := 39) rfl ⟨by omega, by omega⟩ (fun h118 => ?_) (fun h119 => ?_)
          · refine r_const (i := 39) (u := 0) (z := 0) rfl rfl ?_
            exact lp203_40 h_c h_a h_b h_e  hd S hI hF hR e_CR 0 ⟨by omega, by omega⟩ (by omega) (by unfold goM; omega) (by exact sSm_rfl) (by exact sKm_rfl) 
          · refine r_load (i := 18) (u := 4) (w := 0) rfl rfl rfl ?_
            refine r_const (i := 19) (u := 4294967295) (z := -1) rfl rfl ?_
            refine c_eq (i := 20) (v := 25) rfl ⟨by omega, by omega⟩ ⟨by omega, by omega⟩ (fun h120 => ?_) (fun h121 => ?_)
            · refine r_load (i := 25) (u := 2) (w := 0) rfl rfl rfl ?_
              refine r_const (i := 26) (u := 4294967295) (z := -1) rfl rfl ?_
              refine c_ne (i := 27) (v := 31) rfl ⟨by omega, by omega⟩ ⟨by omega, by omega⟩ (fun h122 => ?_) (fun h123 => absurd h123 (by omega))
              refine r_load (i := 31) (u := 3) (w := 0) rfl rfl rfl ?_
              refine r_const (i := 32) (u := 4294967295) (z := -1) rfl rfl ?_
              refine c_ne (i := 33) (v := 37) rfl ⟨by omega, by omega⟩ ⟨by omega, by omega⟩ (fun h124 => ?_) (fun h125 => absurd h125 (by omega))
              refine r_const (i := 37) (u := 1) (z := 1) rfl rfl ?_
              refine r_goto (i := 38) (v := 40) rfl ?_
              exact lp203_40 h_c h_a h_b h_e  hd S hI hF hR e_CR 1 ⟨by omega, by omega⟩ (by omega) (by unfold goM; omega) (by exact sSm_rfl) (by exact sKm_rfl) 
            · refine r_load (i := 21) (u := 0) (w := 2) rfl rfl rfl ?_
              refine r_load (i := 22) (u := 4) (w := 0) rfl rfl rfl ?_
              refine r_call (i := 23) (u := 11) (v := 213) (w := 0) (b := 0) (na := 514) (C2 := xC213) (as := [(2, 43), vi e]) (s := []) rfl rfl rfl rfl rfl rfl rfl (sp213 (t := e) hI ⟨by omega, by omega⟩   (by omega)) (fun r126 S127 hq128 => ?_)
              obtain ⟨z129, rfl, h130, h131, h132, h133, rfl⟩ := hq128
              refine Or.inr (Or.inl ⟨rfl, ?_⟩)
              refine z_eq (i := 24) (v := 39) rfl ⟨by omega, by omega⟩ (fun h134 => ?_) (fun h135 => ?_)
              · refine r_const (i := 39) (u := 0) (z := 0) rfl rfl ?_
                exact lp203_40 h_c h_a h_b h_e  hd S hI hF hR e_CR 0 ⟨by omega, by omega⟩ (by omega) (by unfold goM; omega) (by exact sSm_rfl) (by exact sKm_rfl) 
              · refine r_load (i := 25) (u := 2) (w := 0) rfl rfl rfl ?_
                refine r_const (i := 26) (u := 4294967295) (z := -1) rfl rfl ?_
                refine c_ne (i := 27) (v := 31) rfl ⟨by omega, by omega⟩ ⟨by omega, by omega⟩ (fun h136 => ?_) (fun h137 => absurd h137 (by omega))
                refine r_load (i := 31) (u := 3) (w := 0) rfl rfl rfl ?_
                refine r_const (i := 32) (u := 4294967295) (z := -1) rfl rfl ?_
                refine c_ne (i := 33) (v := 37) rfl ⟨by omega, by omega⟩ ⟨by omega, by omega⟩ (fun h138 => ?_) (fun h139 => absurd h139 (by omega))
                refine r_const (i := 37) (u := 1) (z := 1) rfl rfl ?_
                refine r_goto (i := 38) (v := 40) rfl ?_
                exact lp203_40 h_c h_a h_b h_e  hd S hI hF hR e_CR 1 ⟨by omega, by omega⟩ (by omega) (by unfold goM; omega) (by exact sSm_rfl) (by exact sKm_rfl) 
end XNC
