set_option linter.unusedVariables false
set_option maxRecDepth 4000
noncomputable section XNC
theorem lp203_159 {G : xk} {d : Nat} {S0 : yS} {c : Int} (h_c : -2147483648 ≤ c ∧ c ≤ 2147483647) {a : Int} (h_a : -2147483648 ≤ a ∧ a ≤ 2147483647) {b : Int} (h_b : -2147483648 ≤ b ∧ b ≤ 2147483647) {e : Int} (h_e : -2147483648 ≤ e ∧ e ≤ 2147483647) (hd : 12 ≤ d + 1) {k : Int} (h_k : 0 ≤ k ∧ k ≤ 59) (no : Nat) (K : ∀ (S : yS) (hI : yI S) (hF : yFr [(43, 0), (43, 19), (43, 20), (43, 21), (43, 22), (43, 31), (43, 42), (43, 43), (43, 49), (43, 50), (43, 51), (43, 52), (43, 53)] [60, 61, 62, 63, 64, 65, 66, 67, 68, 71, 72, 73, 74, 75, 76, 77, 78, 79] S0 S) (hR : yRm [] S0 S) (e_CR : CR S) (e_MC : MC S) (e_wAS : wAS S) (k : Int) (h_k : 0 ≤ k ∧ k ≤ 60) (q_0 : wSC k S) (q_1 : S.f 43 20 = nf S k) (q_2 : nfa S ≤ 24) (q_3 : k ≤ S.f 43 31) (q_4 : mfY S0 S c a b e) (q_5 : S.f 43 0 = 0) (q_6 : mS1 S k) (q_7 : mK S (S.f 43 20)) (q_8 : mcG S0 S c a b e) (q_9 : akM S c a b e) (q_10 : sgQ S k) (hn : 60 - k < (no : Nat)), yT xPr G LY xC203 104 [some ((2, 43)), some (vi c), some (vi a), some (vi b), some (vi e), none, none, some (vi k), none, none] [] S (d + 1) (fun r S' => ∃ z : Int, r = (1, vi z) ∧ 0 ≤ z ∧ z ≤ 6 ∧ mfZ S0 S' z c a b e ∧ mkQ S0 S' z ∧ fmZ S0 S' z c a b e ∧ CR S' ∧ yI S' ∧ yFr [(43, 0), (43, 19), (43, 20), (43, 21), (43, 22), (43, 31), (43, 42), (43, 43), (43, 49), (43, 50), (43, 51), (43, 52), (43, 53)] [60, 61, 62, 63, 64, 65, 66, 67, 68, 71, 72, 73, 74, 75, 76, 77, 78, 79] S0 S' ∧ yRm [] S0 S')) (hm : 60 - k < ((no + 1 : Nat) : Int)) : ∀ (n : Nat), ∀ (S : yS) (hI : yI S) (hF : yFr [(43, 0), (43, 19), (43, 20), (43, 21), (43, 22), (43, 31), (43, 42), (43, 43), (43, 49), (43, 50), (43, 51), (43, 52), (43, 53)] [60, 61, 62, 63, 64, 65, 66, 67, 68, 71, 72, 73, 74, 75, 76, 77, 78, 79] S0 S) (hR : yRm [] S0 S) (e_CR : CR S) (e_MC : MC S) (e_wAS : wAS S) (m j : Int) (h_m : 0 ≤ m ∧ m ≤ 59) (h_j : 0 ≤ j ∧ j ≤ 3) (q_0 : wSC k S) (q_1 : S.f 43 20 = nf S k) (q_2 : nfa S ≤ 24) (q_3 : k < S.f 43 31) (q_4 : nf S (k + 1) = nf S k + 1) (q_5 : nf S k + 1 ≤ nfa S) (q_6 : wtop S = S.a 66 k.toNat) (q_7 : mfY S0 S c a b e) (q_8 : S.f 43 0 = 0) (q_9 : mS2 S k) (q_10 : mK2 S m j) (q_11 : mcG S0 S c a b e) (q_12 : akM S c a b e) (q_13 : sgQ S k) (q_14 : sl9 S k) (hn : 3 - j < (n : Nat)), yT xPr G LY xC203 159 [some ((2, 43)), some (vi c), some (vi a), some (vi b), some (vi e), none, none, some (vi k), some (vi m), some (vi j)] [] S (d + 1) (fun r S' => ∃ z : Int, r = (1, vi z) ∧ 0 ≤ z ∧ z ≤ 6 ∧ mfZ S0 S' z c a b e ∧ mkQ S0 S' z ∧ fmZ S0 S' z c a b e ∧ CR S' ∧ yI S' ∧ yFr [(43, 0), (43, 19), (43, 20), (43, 21), (43, 22), (43, 31), (43, 42), (43, 43), (43, 49), (43, 50), (43, 51), (43, 52), (43, 53)] [60, 61, 62, 63, 64, 65, 66, 67, 68, 71, 72, 73, 74, 75, 76, 77, 78, 79] S0 S' ∧ yRm [] S0 S') := by
  intro n
  induction n with
  | zero => intro S hI hF hR e_CR e_MC e_wAS m j h_m h_j q_0 q_1 q_2 q_3 q_4 q_5 q_6 q_7 q_8 q_9 q_10 q_11 q_12 q_13 q_14 hn; exact absurd hn (by omega)
  | succ n ih =>
    intro S hI hF hR e_CR e_MC e_wAS m j h_m h_j q_0 q_1 q_2 q_3 q_4 q_5 q_6 q_7 q_8 q_9 q_10 q_11 q_12 q_13 q_14 hn
    have h1 := hI.f tf43_20
    have h2 := nfz_0 (S := S)
    have h3 := hI.f tf43_31
    have h4 := hI.a ta66 k.toNat
    have h5 := hI.f tf43_0
    refine r_load (i := 159) (u := 9) (w := 0) rfl rfl rfl ?_
    refine r_load (i := 160) (u := 0) (w := 2) rfl rfl rfl ?_
    refine r_getf (i := 161) (v := 17) (w := 11) (x := (2, 58)) rfl ly43 rfl rfl fun _ => ?_
    refine r_load (i := 162) (u := 8) (w := 0) rfl rfl rfl ?_
    refine a_int (i := 163) rfl ly58 rfl (by omega) (by omega) fun h7 => ?_
    have h8 := hI.a ta58 m.toNat
    have h9 : S.a 58 m.toNat = S0.a 58 m.toNat := hF.a rfl _
    refine c_ge (i := 164) (v := 184) rfl ⟨by omega, by omega⟩ ⟨by omega, by omega⟩ (fun h10 => ?_) (fun h11 => ?_)
    · refine r_load (i := 184) (u := 0) (w := 2) rfl rfl rfl ?_
      refine r_dup (i := 185) rfl rfl ?_
      refine r_getf (i := 186) (v := 20) (w := 11) (x := vi (S.f 43 20)) rfl ly43 rfl rfl fun h12 => ?_
      have h12 : Rg (S.f 43 20) := h12
      refine r_const (i := 187) (u := 1) (z := 1) rfl rfl ?_
      refine r_iadd (i := 188) rfl ?_
      refine r_putI (i := 189) (v := 20) (w := 11) rfl ly43 rfl ⟨by omega, by omega⟩ ?_
      have hI14 := hI.setf (b := 43) (w := 20) (z := (S.f 43 20) + 1) tf43_20 rfl (by omega) (by omega)
      have hF16 := hF.setf (b := 43) (w := 20) (z := (S.f 43 20) + 1) rfl
      have hR17 := hR.setf (b := 43) (w := 20) (z := (S.f 43 20) + 1)
      have e18 := CRx.setf e_CR (b := 43) (w := 20) (z := (S.f 43 20) + 1) rfl
      have e19 := MCx.setf e_MC (b := 43) (w := 20) (z := (S.f 43 20) + 1) rfl
      have e20 := wASx.setf e_wAS (b := 43) (w := 20) (z := (S.f 43 20) + 1) rfl
      refine yT_gen (fun S13 hS15 => ?_)
      rw [hS15] at hI14 hF16 hR17 e18 e19 e20
      refine r_iinc (i := 190) (u := 1) (v := 7) (s := 1) (L1 := [some ((2, 43)), some (vi c), some (vi a), some (vi b), some (vi e), none, none, some (vi (k + 1)), some (vi m), some (vi j)]) rfl rfl rfl rfl rfl ?_
      refine r_goto (i := 191) (v := 104) rfl ?_
      refine yT_drop (L1 := [some ((2, 43)), some (vi c), some (vi a), some (vi b), some (vi e), none, none, some (vi (k + 1)), none, none]) rfl ?_
      have h21 := hI14.f tf43_20
      have h22 : S13.f 43 20 = (S.f 43 20) + 1 := by rw [← hS15]; exact ysf_eq
      have h23 := nfz_0 (S := S13)
      have h24 : nf S13 = nf S := by rw [← hS15]; exact nfX.setf rfl
      have h25 : nf S13 k = nf S k := congrFun h24 _
      have h26 : nf S13 (k + 1) = nf S (k + 1) := congrFun h24 _
      have h27 : nfa S13 = nfa S := by rw [← hS15]; exact nfaX.setf rfl
      have h28 := hI14.f tf43_31
      have h29 : S13.f 43 31 = S.f 43 31 := by rw [← hS15]; exact ysf_ne (by decide)
      have h30 := hI14.f tf43_0
      have h31 : S13.f 43 0 = S.f 43 0 := by rw [← hS15]; exact ysf_ne (by decide)
      exact K S13 hI14 hF16 hR17 e18 e19 e20 (k + 1) ⟨by omega, by omega⟩ (by first | exact wSC_0 (by omega) | exact wSC_skip q_0 | exact wSC_push q_0 e_MC (by omega) (by omega) (by omega) (show wtop S = _ from by omega) (by subst_vars; rfl) (fun j => by subst_vars; rfl) (fun j => by subst_vars; rfl)) (by omega) (by omega) (by omega) (by exact mfY_up q_7 (sU_f hS15 (by decide))) (by omega) (by exact mS1_y q_9 (by omega) (by omega) (by subst hS15; rfl) (fun j => by subst hS15; rfl) (fun j => by subst hS15; rfl) (fun j => by subst hS15; rfl)) (by exact mK_y q_10 (by omega) (by omega) ⟨(fun j => by subst hS15; rfl), (fun j => by subst hS15; rfl), (fun j => by subst hS15; rfl), (fun j => by subst hS15; rfl)⟩ (by subst hS15; rfl) (fun j => by subst hS15; rfl) (fun j => by subst hS15; rfl) (fun j => by subst hS15; rfl) (fun j => by subst hS15; rfl)) (by exact mcG_up q_11 (show S13.f 43 31 = S.f 43 31 by rw [← hS15]; exact ysf_ne (by decide)) (fun j => (congrFun (show S13.a 66 = S.a 66 by rw [← hS15]; rfl) j)) (fun j => (congrFun (show S13.a 67 = S.a 67 by rw [← hS15]; rfl) j))) (by exact akM_e q_12 (sAk_f hS15 (by decide))) (by exact sgQ_y q_13 q_14 (by omega) (hI.f tf43_20).1 (by subst hS15; rfl) (fun j => by subst hS15; rfl) (fun j => by subst hS15; rfl) (fun j => by subst hS15; rfl) (fun j => by subst hS15; rfl)) (by omega)
    · refine r_load (i := 165) (u := 0) (w := 2) rfl rfl rfl ?_
      refine r_getf (i := 166) (v := 25) (w := 11) (x := (2, 62)) rfl ly43 rfl rfl fun _ => ?_
      refine r_const (i := 167) (u := 3) (z := 3) rfl rfl ?_
      refine r_load (i := 168) (u := 0) (w := 2) rfl rfl rfl ?_
      refine r_getf (i := 169) (v := 20) (w := 11) (x := vi (S.f 43 20)) rfl ly43 rfl rfl fun h33 => ?_
      have h33 : Rg (S.f 43 20) := h33
      refine r_imul (i := 170) rfl ?_
      refine r_load (i := 171) (u := 9) (w := 0) rfl rfl rfl ?_
      refine r_iadd (i := 172) rfl ?_
      refine r_load (i := 173) (u := 0) (w := 2) rfl rfl rfl ?_
      refine r_getf (i := 174) (v := 16) (w := 11) (x := (2, 57)) rfl ly43 rfl rfl fun _ => ?_
      refine r_const (i := 175) (u := 3) (z := 3) rfl rfl ?_
      refine r_load (i := 176) (u := 8) (w := 0) rfl rfl rfl ?_
      refine r_imul (i := 177) rfl ?_
      refine r_load (i := 178) (u := 9) (w := 0) rfl rfl rfl ?_
      refine r_iadd (i := 179) rfl ?_
      refine a_int (i := 180) rfl ly57 rfl (by omega) (by omega) fun h35 => ?_
      have h36 := hI.a ta57 ((3 * m) + j).toNat
      have h37 : S.a 57 ((3 * m) + j).toNat = S0.a 57 ((3 * m) + j).toNat := hF.a rfl _
      refine s_int (i := 181) rfl ly62 rfl (by omega) (by omega) ⟨by omega, by omega⟩ ?_
      have hI39 := hI.seta (b := 62) (j := ((3 * (S.f 43 20)) + j).toNat) (z := S.a 57 ((3 * m) + j).toNat) ta62 rfl (by omega) (by omega)
      have hF41 := hF.seta (b := 62) (j := ((3 * (S.f 43 20)) + j).toNat) (z := S.a 57 ((3 * m) + j).toNat) rfl
      have hR42 := hR.seta (b := 62) (j := ((3 * (S.f 43 20)) + j).toNat) (z := S.a 57 ((3 * m) + j).toNat)
      have e43 := CRx.seta e_CR (b := 62) (j := ((3 * (S.f 43 20)) + j).toNat) (z := S.a 57 ((3 * m) + j).toNat) rfl
      have e44 := MCx.seta e_MC (b := 62) (j := ((3 * (S.f 43 20)) + j).toNat) (z := S.a 57 ((3 * m) + j).toNat) rfl
      have e45 := wASx.seta e_wAS (b := 62) (j := ((3 * (S.f 43 20)) + j).toNat) (z := S.a 57 ((3 * m) + j).toNat) rfl
      have e46 := (wSCx k).seta q_0 (b := 62) (j := ((3 * (S.f 43 20)) + j).toNat) (z := S.a 57 ((3 * m) + j).toNat) rfl
      refine yT_gen (fun S38 hS40 => ?_)
      rw [hS40] at hI39 hF41 hR42 e43 e44 e45 e46
      refine r_iinc (i := 182) (u := 1) (v := 9) (s := 1) (L1 := [some ((2, 43)), some (vi c), some (vi a), some (vi b), some (vi e), none, none, some (vi k), some (vi m), some (vi (j + 1))]) rfl rfl rfl rfl rfl ?_
      refine r_goto (i := 183) (v := 159) rfl ?_
      have h47 := hI39.f tf43_20
      have h48 : S38.f 43 20 = S.f 43 20 := by rw [← hS40]; rfl
      have h49 := nfz_0 (S := S38)
      have h50 : nf S38 = nf S := by rw [← hS40]; exact nfX.seta rfl
      have h51 : nf S38 k = nf S k := congrFun h50 _
      have h52 : nf S38 (k + 1) = nf S (k + 1) := congrFun h50 _
      have h53 : nfa S38 = nfa S := by rw [← hS40]; exact nfaX.seta rfl
      have h54 := hI39.f tf43_31
      have h55 : S38.f 43 31 = S.f 43 31 := by rw [← hS40]; rfl
      have h56 : wtop S38 = wtop S := by rw [← hS40]; exact wtopX.seta rfl
      have h57 := hI39.a ta66 k.toNat
      have h58 : S38.a 66 k.toNat = S.a 66 k.toNat := by rw [← hS40]; rfl
      have h59 := hI39.f tf43_0
      have h60 : S38.f 43 0 = S.f 43 0 := by rw [← hS40]; rfl
      exact ih S38 hI39 hF41 hR42 e43 e44 e45 m (j + 1) ⟨by omega, by omega⟩ ⟨by omega, by omega⟩ (by exact e46) (by omega) (by omega) (by omega) (by omega) (by omega) (by omega) (by exact mfY_up q_7 (sU_a hS40 (by decide) (by decide))) (by omega) (by exact mS2_up q_9 (sSm_a hS40 (by decide)) (fun j => by subst hS40; rfl) (fun j => by subst hS40; rfl)) (by exact mK2_s q_10 (by omega) (by omega) (fun j => (hI.a ta63 j).2) ⟨(fun j => by subst hS40; rfl), (fun j => by subst hS40; rfl), (fun j => by subst hS40; rfl), (fun j => by subst hS40; rfl)⟩ (by subst hS40; rfl) (fun j => by subst hS40; rfl) (fun j => by subst hS40; rfl) (fun j => by subst hS40; rfl) (fun j => by subst hS40; rfl)) (by exact mcG_up q_11 (show S38.f 43 31 = S.f 43 31 by rw [← hS40]; rfl) (fun j => (congrFun (show S38.a 66 = S.a 66 by rw [← hS40]; rfl) j)) (fun j => (congrFun (show S38.a 67 = S.a 67 by rw [← hS40]; rfl) j))) (by exact akM_e q_12 (sAk_a hS40 (by decide))) (by exact sgQ_k q_13 (by subst hS40; rfl) (fun j => by subst hS40; rfl) (fun j => by subst hS40; rfl) (fun j => by subst hS40; rfl) (fun j => by subst hS40; rfl)) (by exact sl9_k q_14 (by subst hS40; rfl) (fun j => by subst hS40; rfl) (fun j => by subst hS40; rfl) (fun j => by subst hS40; rfl) (fun j => by subst hS40; rfl)) (by omega)
theorem lp203_104 {G : xk} {d : Nat} {S0 : yS} {c : Int} (h_c : -2147483648 ≤ c ∧ c ≤ 2147483647) {a : Int} (h_a : -2147483648 ≤ a ∧ a ≤ 2147483647) {b : Int} (h_b : -2147483648 ≤ b ∧ b ≤ 2147483647) {e : Int} (h_e : -2147483648 ≤ e ∧ e ≤ 2147483647) (hd : 12 ≤ d + 1) : ∀ (n : Nat), ∀ (S : yS) (hI : yI S) (hF : yFr [(43, 0), (43, 19), (43, 20), (43, 21), (43, 22), (43, 31), (43, 42), (43, 43), (43, 49), (43, 50), (43, 51), (43, 52), (43, 53)] [60, 61, 62, 63, 64, 65, 66, 67, 68, 71, 72, 73, 74, 75, 76, 77, 78, 79] S0 S) (hR : yRm [] S0 S) (e_CR : CR S) (e_MC : MC S) (e_wAS : wAS S) (k : Int) (h_k : 0 ≤ k ∧ k ≤ 60) (q_0 : wSC k S) (q_1 : S.f 43 20 = nf S k) (q_2 : nfa S ≤ 24) (q_3 : k ≤ S.f 43 31) (q_4 : mfY S0 S c a b e) (q_5 : S.f 43 0 = 0) (q_6 : mS1 S k) (q_7 : mK S (S.f 43 20)) (q_8 : mcG S0 S c a b e) (q_9 : akM S c a b e) (q_10 : sgQ S k) (hn : 60 - k < (n : Nat)), yT xPr G LY xC203 104 [some ((2, 43)), some (vi c), some (vi a), some (vi b), some (vi e), none, none, some (vi k), none, none] [] S (d + 1) (fun r S' => ∃ z : Int, r = (1, vi z) ∧ 0 ≤ z ∧ z ≤ 6 ∧ mfZ S0 S' z c a b e ∧ mkQ S0 S' z ∧ fmZ S0 S' z c a b e ∧ CR S' ∧ yI S' ∧ yFr [(43, 0), (43, 19), (43, 20), (43, 21), (43, 22), (43, 31), (43, 42), (43, 43), (43, 49), (43, 50), (43, 51), (43, 52), (43, 53)] [60, 61, 62, 63, 64, 65, 66, 67, 68, 71, 72, 73, 74, 75, 76, 77, 78, 79] S0 S' ∧ yRm [] S0 S') := by
  intro n
  induction n with
  | zero => intro S hI hF hR e_CR e_MC e_wAS k h_k q_0 q_1 q_2 q_3 q_4 q_5 q_6 q_7 q_8 q_9 q_10 hn; exact absurd hn (by omega)
  | succ n ih =>
    intro S hI hF hR e_CR e_MC e_wAS k h_k q_0 q_1 q_2 q_3 q_4 q_5 q_6 q_7 q_8 q_9 q_10 hn
    have h1 := hI.f tf43_20
    have h2 := nfz_0 (S := S)
    have h3 := hI.f tf43_31
    have h4 := hI.f tf43_0
    refine r_load (i := 104) (u := 7) (w := 0) rfl rfl rfl ?_
    refine r_load (i := 105) (u := 0) (w := 2) rfl rfl rfl ?_
    refine r_getf (i := 106) (v := 31) (w := 11) (x := vi (S.f 43 31)) rfl ly43 rfl rfl fun h5 => ?_
    have h5 : Rg (S.f 43 31) := h5
    refine c_ge (i := 107) (v := 192) rfl ⟨by omega, by omega⟩ ⟨by omega, by omega⟩ (fun h6 => ?_) (fun h7 => ?_)
    · have sd9 := wSD_of q_0 e_MC (by omega)
      refine r_load (i := 192) (u := 0) (w := 2) rfl rfl rfl ?_
      refine r_call (i := 193) (u := 11) (v := 265) (w := 0) (b := 0) (na := 1025) (C2 := xC265) (as := [(2, 43)]) (s := []) rfl rfl rfl rfl rfl rfl rfl (sp265  hI   e_wAS sd9 e_CR (by omega)) (fun r8 S9 hq10 => ?_)
      obtain ⟨rfl, fiq11, e12, e13, e14, hI15, hF16, hR17⟩ := hq10
      have hF18 := hF.trans hF16 rfl rfl
      have hR19 := hR.trans hR17 rfl
      have e20 := MCx.fr e_MC hF16 rfl rfl
      have e21 := (wSCx k).fr q_0 hF16 rfl rfl
      refine Or.inl ⟨rfl, ?_⟩
      refine r_const (i := 194) (u := 0) (z := 0) rfl rfl ?_
      have h22 := hI15.f tf43_0
      have h23 : S9.f 43 0 = S.f 43 0 := hF16.f rfl
      exact r_retI (i := 195) rfl ⟨0, rfl, by omega, by omega, (by exact Or.inr ⟨by omega, mfX_of q_4 q_6 (by omega) (sSm_fr hF16 rfl rfl)⟩), (by exact ⟨fun h9 => absurd h9 (by omega), fun _ _ => mK_fr q_7 hF16 rfl rfl⟩), (by exact fmZ_e q_8 q_9 q_10 (by omega) (by omega) fiq11 (hM_bk hF16 rfl rfl) (sZm_fr hF16 rfl rfl) (sAk_fr hF16 rfl rfl) (hF16.f rfl) (hF16.f rfl) (hF16.a rfl) (hF16.a rfl)), e14, hI15, hF18, hR19⟩
    · refine r_load (i := 108) (u := 0) (w := 2) rfl rfl rfl ?_
      refine r_getf (i := 109) (v := 29) (w := 11) (x := (2, 66)) rfl ly43 rfl rfl fun _ => ?_
      refine r_load (i := 110) (u := 7) (w := 0) rfl rfl rfl ?_
      refine a_int (i := 111) rfl ly66 rfl (by omega) (by omega) fun h25 => ?_
      have h26 := hI.a ta66 k.toNat
      refine r_store (i := 112) (u := 8) (w := 0) (L1 := [some ((2, 43)), some (vi c), some (vi a), some (vi b), some (vi e), none, none, some (vi k), some (vi (S.a 66 k.toNat)), none]) rfl rfl rfl rfl ?_
      refine r_load (i := 113) (u := 0) (w := 2) rfl rfl rfl ?_
      refine r_getf (i := 114) (v := 13) (w := 11) (x := (2, 54)) rfl ly43 rfl rfl fun _ => ?_
      refine r_load (i := 115) (u := 8) (w := 0) rfl rfl rfl ?_
      refine a_int (i := 116) rfl ly54 rfl (by omega) (by omega) fun h28 => ?_
      have h29 := hI.a ta54 (S.a 66 k.toNat).toNat
      have h30 : S.a 54 (S.a 66 k.toNat).toNat = S0.a 54 (S.a 66 k.toNat).toNat := hF.a rfl _
      refine r_const (i := 117) (u := 16) (z := 16) rfl rfl ?_
      refine r_iand (i := 118) rfl ?_
      have h31 := @yand_c (S.a 54 (S.a 66 k.toNat).toNat) 16 (by decide) (by decide)
      refine z_le (i := 119) (v := 121) rfl ⟨by omega, by omega⟩ (fun h32 => ?_) (fun h33 => ?_)
      · have nn9 := nf_y (S := S) (k := k) (by omega) (by omega)
        have nr9 := nf_room (S := S) (k := k) (by omega) (by omega) (by omega)
        have mc9 := e_MC.2 k.toNat (by omega)
        have mc8 := hF.a (b := 53) rfl (S.a 66 k.toNat).toNat
        refine r_load (i := 121) (u := 0) (w := 2) rfl rfl rfl ?_
        refine r_getf (i := 122) (v := 23) (w := 11) (x := (2, 60)) rfl ly43 rfl rfl fun _ => ?_
        refine r_load (i := 123) (u := 0) (w := 2) rfl rfl rfl ?_
        refine r_getf (i := 124) (v := 20) (w := 11) (x := vi (S.f 43 20)) rfl ly43 rfl rfl fun h35 => ?_
        have h35 : Rg (S.f 43 20) := h35
        refine r_load (i := 125) (u := 8) (w := 0) rfl rfl rfl ?_
        refine s_int (i := 126) rfl ly60 rfl (by omega) (by omega) ⟨by omega, by omega⟩ ?_
        have hI37 := hI.seta (b := 60) (j := (S.f 43 20).toNat) (z := S.a 66 k.toNat) ta60 rfl (by omega) (by omega)
        have hF39 := hF.seta (b := 60) (j := (S.f 43 20).toNat) (z := S.a 66 k.toNat) rfl
        have hR40 := hR.seta (b := 60) (j := (S.f 43 20).toNat) (z := S.a 66 k.toNat)
        have e41 := CRx.seta e_CR (b := 60) (j := (S.f 43 20).toNat) (z := S.a 66 k.toNat) rfl
        have e42 := MCx.seta e_MC (b := 60) (j := (S.f 43 20).toNat) (z := S.a 66 k.toNat) rfl
        have e43 := wASx.seta e_wAS (b := 60) (j := (S.f 43 20).toNat) (z := S.a 66 k.toNat) rfl
        have e44 := wSC_put q_0 (j := (S.f 43 20).toNat) (z := S.a 66 k.toNat) (by omega)
        refine yT_gen (fun S36 hS38 => ?_)
        rw [hS38] at hI37 hF39 hR40 e41 e42 e43 e44
        refine r_load (i := 127) (u := 0) (w := 2) rfl rfl rfl ?_
        refine r_getf (i := 128) (v := 24) (w := 11) (x := (2, 61)) rfl ly43 rfl rfl fun _ => ?_
        refine r_load (i := 129) (u := 0) (w := 2) rfl rfl rfl ?_
        have h46 := hI37.f tf43_20
        have h47 : S36.f 43 20 = S.f 43 20 := by rw [← hS38]; rfl
        refine r_getf (i := 130) (v := 20) (w := 11) (x := vi (S36.f 43 20)) rfl ly43 rfl rfl fun h48 => ?_
        have h48 : Rg (S36.f 43 20) := h48
        refine r_load (i := 131) (u := 0) (w := 2) rfl rfl rfl ?_
        refine r_getf (i := 132) (v := 18) (w := 11) (x := (2, 59)) rfl ly43 rfl rfl fun _ => ?_
        refine r_load (i := 133) (u := 0) (w := 2) rfl rfl rfl ?_
        refine r_getf (i := 134) (v := 12) (w := 11) (x := (2, 53)) rfl ly43 rfl rfl fun _ => ?_
        refine r_load (i := 135) (u := 8) (w := 0) rfl rfl rfl ?_
        refine a_int (i := 136) rfl ly53 rfl (by omega) (by omega) fun h51 => ?_
        have h52 := hI37.a ta53 (S.a 66 k.toNat).toNat
        have h53 : S36.a 53 (S.a 66 k.toNat).toNat = S0.a 53 (S.a 66 k.toNat).toNat := hF39.a rfl _
        refine a_int (i := 137) rfl ly59 rfl (by omega) (by omega) fun h54 => ?_
        have h55 := hI37.a ta59 (S36.a 53 (S.a 66 k.toNat).toNat).toNat
        have h56 : S36.a 59 (S36.a 53 (S.a 66 k.toNat).toNat).toNat = S0.a 59 (S36.a 53 (S.a 66 k.toNat).toNat).toNat := hF39.a rfl _
        refine s_int (i := 138) rfl ly61 rfl (by omega) (by omega) ⟨by omega, by omega⟩ ?_
        have hI58 := hI37.seta (b := 61) (j := (S36.f 43 20).toNat) (z := S36.a 59 (S36.a 53 (S.a 66 k.toNat).toNat).toNat) ta61 rfl (by omega) (by omega)
        have hF60 := hF39.seta (b := 61) (j := (S36.f 43 20).toNat) (z := S36.a 59 (S36.a 53 (S.a 66 k.toNat).toNat).toNat) rfl
        have hR61 := hR40.seta (b := 61) (j := (S36.f 43 20).toNat) (z := S36.a 59 (S36.a 53 (S.a 66 k.toNat).toNat).toNat)
        have e62 := CRx.seta e41 (b := 61) (j := (S36.f 43 20).toNat) (z := S36.a 59 (S36.a 53 (S.a 66 k.toNat).toNat).toNat) rfl
        have e63 := MCx.seta e42 (b := 61) (j := (S36.f 43 20).toNat) (z := S36.a 59 (S36.a 53 (S.a 66 k.toNat).toNat).toNat) rfl
        have e64 := wASx.seta e43 (b := 61) (j := (S36.f 43 20).toNat) (z := S36.a 59 (S36.a 53 (S.a 66 k.toNat).toNat).toNat) rfl
        have e65 := (wSCx k).seta e44 (b := 61) (j := (S36.f 43 20).toNat) (z := S36.a 59 (S36.a 53 (S.a 66 k.toNat).toNat).toNat) rfl
        refine yT_gen (fun S57 hS59 => ?_)
        rw [hS59] at hI58 hF60 hR61 e62 e63 e64 e65
        refine r_load (i := 139) (u := 0) (w := 2) rfl rfl rfl ?_
        refine r_getf (i := 140) (v := 28) (w := 11) (x := (2, 65)) rfl ly43 rfl rfl fun _ => ?_
        refine r_load (i := 141) (u := 0) (w := 2) rfl rfl rfl ?_
        have h67 := hI58.f tf43_20
        have h68 : S57.f 43 20 = S36.f 43 20 := by rw [← hS59]; rfl
        have h69 : S36.f 43 20 = S.f 43 20 := by rw [← hS38]; rfl
        refine r_getf (i := 142) (v := 20) (w := 11) (x := vi (S57.f 43 20)) rfl ly43 rfl rfl fun h70 => ?_
        have h70 : Rg (S57.f 43 20) := h70
        refine r_load (i := 143) (u := 0) (w := 2) rfl rfl rfl ?_
        refine r_getf (i := 144) (v := 30) (w := 11) (x := (2, 67)) rfl ly43 rfl rfl fun _ => ?_
        refine r_load (i := 145) (u := 7) (w := 0) rfl rfl rfl ?_
        refine a_bool (i := 146) rfl ly67 rfl (by omega) (by omega) fun h72 => ?_
        have h73 : S57.a 67 k.toNat = S36.a 67 k.toNat := by rw [← hS59]; rfl
        have h74 : S36.a 67 k.toNat = S.a 67 k.toNat := by rw [← hS38]; rfl
        refine s_bool (i := 147) rfl ly65 rfl (by omega) (by omega) (by omega) (by omega) ?_
        have hI76 := hI58.seta0 (b := 65) (j := (S57.f 43 20).toNat) (z := S57.a 67 k.toNat) rfl rfl
        have hF78 := hF60.seta (b := 65) (j := (S57.f 43 20).toNat) (z := S57.a 67 k.toNat) rfl
        have hR79 := hR61.seta (b := 65) (j := (S57.f 43 20).toNat) (z := S57.a 67 k.toNat)
        have e80 := CRx.seta e62 (b := 65) (j := (S57.f 43 20).toNat) (z := S57.a 67 k.toNat) rfl
        have e81 := MCx.seta e63 (b := 65) (j := (S57.f 43 20).toNat) (z := S57.a 67 k.toNat) rfl
        have e82 := wASx.seta e64 (b := 65) (j := (S57.f 43 20).toNat) (z := S57.a 67 k.toNat) rfl
        have e83 := (wSCx k).seta e65 (b := 65) (j := (S57.f 43 20).toNat) (z := S57.a 67 k.toNat) rfl
        refine yT_gen (fun S75 hS77 => ?_)
        rw [hS77] at hI76 hF78 hR79 e80 e81 e82 e83
        refine r_load (i := 148) (u := 0) (w := 2) rfl rfl rfl ?_
        refine r_getf (i := 149) (v := 26) (w := 11) (x := (2, 63)) rfl ly43 rfl rfl fun _ => ?_
        refine r_load (i := 150) (u := 0) (w := 2) rfl rfl rfl ?_
        have h85 := hI76.f tf43_20
        have h86 : S75.f 43 20 = S57.f 43 20 := by rw [← hS77]; rfl
        have h87 : S57.f 43 20 = S36.f 43 20 := by rw [← hS59]; rfl
        have h88 : S36.f 43 20 = S.f 43 20 := by rw [← hS38]; rfl
        refine r_getf (i := 151) (v := 20) (w := 11) (x := vi (S75.f 43 20)) rfl ly43 rfl rfl fun h89 => ?_
        have h89 : Rg (S75.f 43 20) := h89
        refine r_load (i := 152) (u := 0) (w := 2) rfl rfl rfl ?_
        refine r_getf (i := 153) (v := 17) (w := 11) (x := (2, 58)) rfl ly43 rfl rfl fun _ => ?_
        refine r_load (i := 154) (u := 8) (w := 0) rfl rfl rfl ?_
        refine a_int (i := 155) rfl ly58 rfl (by omega) (by omega) fun h91 => ?_
        have h92 := hI76.a ta58 (S.a 66 k.toNat).toNat
        have h93 : S75.a 58 (S.a 66 k.toNat).toNat = S0.a 58 (S.a 66 k.toNat).toNat := hF78.a rfl _
        refine s_int (i := 156) rfl ly63 rfl (by omega) (by omega) ⟨by omega, by omega⟩ ?_
        have hI95 := hI76.seta (b := 63) (j := (S75.f 43 20).toNat) (z := S75.a 58 (S.a 66 k.toNat).toNat) ta63 rfl (by omega) (by omega)
        have hF97 := hF78.seta (b := 63) (j := (S75.f 43 20).toNat) (z := S75.a 58 (S.a 66 k.toNat).toNat) rfl
        have hR98 := hR79.seta (b := 63) (j := (S75.f 43 20).toNat) (z := S75.a 58 (S.a 66 k.toNat).toNat)
        have e99 := CRx.seta e80 (b := 63) (j := (S75.f 43 20).toNat) (z := S75.a 58 (S.a 66 k.toNat).toNat) rfl
        have e100 := MCx.seta e81 (b := 63) (j := (S75.f 43 20).toNat) (z := S75.a 58 (S.a 66 k.toNat).toNat) rfl
        have e101 := wASx.seta e82 (b := 63) (j := (S75.f 43 20).toNat) (z := S75.a 58 (S.a 66 k.toNat).toNat) rfl
        have e102 := (wSCx k).seta e83 (b := 63) (j := (S75.f 43 20).toNat) (z := S75.a 58 (S.a 66 k.toNat).toNat) rfl
        refine yT_gen (fun S94 hS96 => ?_)
        rw [hS96] at hI95 hF97 hR98 e99 e100 e101 e102
        refine r_const (i := 157) (u := 0) (z := 0) rfl rfl ?_
        refine r_store (i := 158) (u := 9) (w := 0) (L1 := [some ((2, 43)), some (vi c), some (vi a), some (vi b), some (vi e), none, none, some (vi k), some (vi (S.a 66 k.toNat)), some (vi 0)]) rfl rfl rfl rfl ?_
        have h103 := hI95.f tf43_20
        have h104 : S94.f 43 20 = S75.f 43 20 := by rw [← hS96]; rfl
        have h105 : S75.f 43 20 = S57.f 43 20 := by rw [← hS77]; rfl
        have h106 : S57.f 43 20 = S36.f 43 20 := by rw [← hS59]; rfl
        have h107 : S36.f 43 20 = S.f 43 20 := by rw [← hS38]; rfl
        have h108 := nfz_0 (S := S94)
        have h109 : nf S94 = nf S75 := by rw [← hS96]; exact nfX.seta rfl
        have h110 : nf S94 k = nf S75 k := congrFun h109 _
        have h111 : nf S94 (k + 1) = nf S75 (k + 1) := congrFun h109 _
        have h112 : nf S75 = nf S57 := by rw [← hS77]; exact nfX.seta rfl
        have h113 : nf S75 k = nf S57 k := congrFun h112 _
        have h114 : nf S75 (k + 1) = nf S57 (k + 1) := congrFun h112 _
        have h115 : nf S57 = nf S36 := by rw [← hS59]; exact nfX.seta rfl
        have h116 : nf S57 k = nf S36 k := congrFun h115 _
        have h117 : nf S57 (k + 1) = nf S36 (k + 1) := congrFun h115 _
        have h118 : nf S36 = nf S := by rw [← hS38]; exact nfX.seta rfl
        have h119 : nf S36 k = nf S k := congrFun h118 _
        have h120 : nf S36 (k + 1) = nf S (k + 1) := congrFun h118 _
        have h121 : nfa S94 = nfa S75 := by rw [← hS96]; exact nfaX.seta rfl
        have h122 : nfa S75 = nfa S57 := by rw [← hS77]; exact nfaX.seta rfl
        have h123 : nfa S57 = nfa S36 := by rw [← hS59]; exact nfaX.seta rfl
        have h124 : nfa S36 = nfa S := by rw [← hS38]; exact nfaX.seta rfl
        have h125 := hI95.f tf43_31
        have h126 : S94.f 43 31 = S75.f 43 31 := by rw [← hS96]; rfl
        have h127 : S75.f 43 31 = S57.f 43 31 := by rw [← hS77]; rfl
        have h128 : S57.f 43 31 = S36.f 43 31 := by rw [← hS59]; rfl
        have h129 : S36.f 43 31 = S.f 43 31 := by rw [← hS38]; rfl
        have h130 : wtop S94 = wtop S75 := by rw [← hS96]; exact wtopX.seta rfl
        have h131 : wtop S75 = wtop S57 := by rw [← hS77]; exact wtopX.seta rfl
        have h132 : wtop S57 = wtop S36 := by rw [← hS59]; exact wtopX.seta rfl
        have h133 : wtop S36 = S.a 66 k.toNat := by rw [← hS38]; exact wtop_set
        have h134 := hI95.a ta66 k.toNat
        have h135 : S94.a 66 k.toNat = S75.a 66 k.toNat := by rw [← hS96]; rfl
        have h136 : S75.a 66 k.toNat = S57.a 66 k.toNat := by rw [← hS77]; rfl
        have h137 : S57.a 66 k.toNat = S36.a 66 k.toNat := by rw [← hS59]; rfl
        have h138 : S36.a 66 k.toNat = S.a 66 k.toNat := by rw [← hS38]; rfl
        have h139 := hI95.f tf43_0
        have h140 : S94.f 43 0 = S75.f 43 0 := by rw [← hS96]; rfl
        have h141 : S75.f 43 0 = S57.f 43 0 := by rw [← hS77]; rfl
        have h142 : S57.f 43 0 = S36.f 43 0 := by rw [← hS59]; rfl
        have h143 : S36.f 43 0 = S.f 43 0 := by rw [← hS38]; rfl
        exact lp203_159 h_c h_a h_b h_e  hd (k := k) ⟨by omega, by omega⟩ n ih (by omega) _ S94 hI95 hF97 hR98 e99 e100 e101 (S.a 66 k.toNat) 0 ⟨by omega, by omega⟩ ⟨by omega, by omega⟩ (by exact e102) (by omega) (by omega) (by omega) (by omega) (by omega) (by omega) (by exact mfY_up q_4 (sU_tr (sU_tr (sU_tr (sU_a hS38 (by decide) (by decide)) (sU_a hS59 (by decide) (by decide))) (sU_a hS77 (by decide) (by decide))) (sU_a hS96 (by decide) (by decide)))) (by omega) (by exact mS2_0 q_6 (by omega) (by subst hS38 hS59 hS77 hS96; rfl) (fun j => by subst hS38 hS59 hS77 hS96; rfl) (fun j => by subst hS38 hS59 hS77 hS96; rfl) (fun j => by subst hS38 hS59 hS77 hS96; rfl) (by omega)) (by exact mK2_0 q_7 (by omega) ⟨(fun j => by subst hS38 hS59 hS77 hS96; rfl), (fun j => by subst hS38 hS59 hS77 hS96; rfl), (fun j => by subst hS38 hS59 hS77 hS96; rfl), (fun j => by subst hS38 hS59 hS77 hS96; rfl)⟩ (by subst hS38 hS59 hS77 hS96; rfl) (fun j => by subst hS38 hS59 hS77 hS96; rfl) (fun j => by subst hS38 hS59 hS77 hS96; rfl) (fun j => by subst hS38 hS59 hS77 hS96; rfl) (fun j => by subst hS38 hS59 hS77 hS96; rfl)) (by exact mcG_up q_8 ((show S94.f 43 31 = S75.f 43 31 by rw [← hS96]; rfl).trans ((show S75.f 43 31 = S57.f 43 31 by rw [← hS77]; rfl).trans ((show S57.f 43 31 = S36.f 43 31 by rw [← hS59]; rfl).trans (show S36.f 43 31 = S.f 43 31 by rw [← hS38]; rfl)))) (fun j => ((congrFun (show S94.a 66 = S75.a 66 by rw [← hS96]; rfl) j).trans ((congrFun (show S75.a 66 = S57.a 66 by rw [← hS77]; rfl) j).trans ((congrFun (show S57.a 66 = S36.a 66 by rw [← hS59]; rfl) j).trans (congrFun (show S36.a 66 = S.a 66 by rw [← hS38]; rfl) j))))) (fun j => ((congrFun (show S94.a 67 = S75.a 67 by rw [← hS96]; rfl) j).trans ((congrFun (show S75.a 67 = S57.a 67 by rw [← hS77]; rfl) j).trans ((congrFun (show S57.a 67 = S36.a 67 by rw [← hS59]; rfl) j).trans (congrFun (show S36.a 67 = S.a 67 by rw [← hS38]; rfl) j)))))) (by exact akM_e q_9 (sAk_tr (sAk_tr (sAk_tr (sAk_a hS38 (by decide)) (sAk_a hS59 (by decide))) (sAk_a hS77 (by decide))) (sAk_a hS96 (by decide)))) (by exact sgQ_p (x := S.a 66 k.toNat) (y := S57.a 67 k.toNat) q_10 (hI.f tf43_20).1 (by subst hS38 hS59 hS77 hS96; rfl) (fun j => by subst hS38 hS59 hS77 hS96; rfl) (fun j => by subst hS38 hS59 hS77 hS96; rfl) (fun j => by subst hS38 hS59 hS77 hS96; rfl) (fun j => by subst hS38 hS59 hS77 hS96; rfl)) (by exact sl9_0 (S := S) (x := S.a 66 k.toNat) (y := S57.a 67 k.toNat) (by subst hS38 hS59 hS77 hS96; rfl) (fun j => by subst hS38 hS59 hS77 hS96; rfl) (fun j => by subst hS38 hS59 hS77 hS96; rfl) (fun j => by subst hS38 hS59 hS77 hS96; rfl) (fun j => by subst hS38 hS59 hS77 hS96; rfl) (by omega) (by omega)) (Int.lt_succ_toNat _)
      · have nn9 := nf_n (S := S) (k := k) (by omega) (by omega)
        refine r_goto (i := 120) (v := 190) rfl ?_
        refine r_iinc (i := 190) (u := 1) (v := 7) (s := 1) (L1 := [some ((2, 43)), some (vi c), some (vi a), some (vi b), some (vi e), none, none, some (vi (k + 1)), some (vi (S.a 66 k.toNat)), none]) rfl rfl rfl rfl rfl ?_
        refine r_goto (i := 191) (v := 104) rfl ?_
        refine yT_drop (L1 := [some ((2, 43)), some (vi c), some (vi a), some (vi b), some (vi e), none, none, some (vi (k + 1)), none, none]) rfl ?_
        exact ih S hI hF hR e_CR e_MC e_wAS (k + 1) ⟨by omega, by omega⟩ (by first | exact wSC_0 (by omega) | exact wSC_skip q_0 | exact wSC_push q_0 e_MC (by omega) (by omega) (by omega) (show wtop S = _ from by omega) (by subst_vars; rfl) (fun j => by subst_vars; rfl) (fun j => by subst_vars; rfl)) (by omega) (by omega) (by omega) (by exact mfY_up q_4 sU_rfl) (by omega) (by exact mS1_n q_6 (by omega) (by omega)) (by exact q_7) (by exact q_8) (by exact q_9) (by exact sgQ_n q_10) (by omega)
theorem lp203_83 {G : xk} {d : Nat} {S0 : yS} {c : Int} (h_c : -2147483648 ≤ c ∧ c ≤ 2147483647) {a : Int} (h_a : -2147483648 ≤ a ∧ a ≤ 2147483647) {b : Int} (h_b : -2147483648 ≤ b ∧ b ≤ 2147483647) {e : Int} (h_e : -2147483648 ≤ e ∧ e ≤ 2147483647) (hd : 12 ≤ d + 1) : ∀ (S : yS) (hI : yI S) (hF : yFr [(43, 0), (43, 19), (43, 20), (43, 21), (43, 22), (43, 31), (43, 42), (43, 43), (43, 49), (43, 50), (43, 51), (43, 52), (43, 53)] [60, 61, 62, 63, 64, 65, 66, 67, 68, 71, 72, 73, 74, 75, 76, 77, 78, 79] S0 S) (hR : yRm [] S0 S) (e_CR : CR S) (e_MC : MC S) (gv : Int) (h_gv : 0 ≤ gv ∧ gv ≤ 3) (q_0 : (0 ≤ c ∧ c ≤ 19) ∧ (-1 ≤ a ∧ a ≤ 19) ∧ (-1 ≤ b ∧ b ≤ 19) ∧ (-1 ≤ e ∧ e ≤ 19)) (q_1 : (1 ≤ gv → 0 ≤ a) ∧ (2 ≤ gv → 0 ≤ b) ∧ (3 ≤ gv → 0 ≤ e)) (q_2 : nfa S ≤ 24) (q_3 : mfY S0 S c a b e) (q_4 : S.f 43 0 = 0) (q_5 : mcG S0 S c a b e) (q_6 : S.f 43 21 = c) (q_7 : gv = gvn a b e), yT xPr G LY xC203 83 [some ((2, 43)), some (vi c), some (vi a), some (vi b), some (vi e), none, none, none, none, none] [vi gv, (2, 43)] S (d + 1) (fun r S' => ∃ z : Int, r = (1, vi z) ∧ 0 ≤ z ∧ z ≤ 6 ∧ mfZ S0 S' z c a b e ∧ mkQ S0 S' z ∧ fmZ S0 S' z c a b e ∧ CR S' ∧ yI S' ∧ yFr [(43, 0), (43, 19), (43, 20), (43, 21), (43, 22), (43, 31), (43, 42), (43, 43), (43, 49), (43, 50), (43, 51), (43, 52), (43, 53)] [60, 61, 62, 63, 64, 65, 66, 67, 68, 71, 72, 73, 74, 75, 76, 77, 78, 79] S0 S' ∧ yRm [] S0 S') := by
  intro S hI hF hR e_CR e_MC gv h_gv q_0 q_1 q_2 q_3 q_4 q_5 q_6 q_7
  have h1 := hI.f tf43_0
  have h2 := hI.f tf43_21
  refine r_putI (i := 83) (v := 22) (w := 11) rfl ly43 rfl ⟨by omega, by omega⟩ ?_
  have hI4 := hI.setf (b := 43) (w := 22) (z := gv) tf43_22 rfl (by omega) (by omega)
  have hF6 := hF.setf (b := 43) (w := 22) (z := gv) rfl
  have hR7 := hR.setf (b := 43) (w := 22) (z := gv)
  have e8 := CRx.setf e_CR (b := 43) (w := 22) (z := gv) rfl
  have e9 := MCx.setf e_MC (b := 43) (w := 22) (z := gv) rfl
  refine yT_gen (fun S3 hS5 => ?_)
  rw [hS5] at hI4 hF6 hR7 e8 e9
  refine r_load (i := 84) (u := 0) (w := 2) rfl rfl rfl ?_
  refine r_getf (i := 85) (v := 27) (w := 11) (x := (2, 64)) rfl ly43 rfl rfl fun _ => ?_
  refine r_const (i := 86) (u := 0) (z := 0) rfl rfl ?_
  refine r_load (i := 87) (u := 2) (w := 0) rfl rfl rfl ?_
  refine s_int (i := 88) rfl ly64 rfl (by omega) (by omega) ⟨by omega, by omega⟩ ?_
  have hI12 := hI4.seta (b := 64) (j := (0 : Int).toNat) (z := a) ta64 rfl (by omega) (by omega)
  have hF14 := hF6.seta (b := 64) (j := (0 : Int).toNat) (z := a) rfl
  have hR15 := hR7.seta (b := 64) (j := (0 : Int).toNat) (z := a)
  have e16 := CRx.seta e8 (b := 64) (j := (0 : Int).toNat) (z := a) rfl
  have e17 := MCx.seta e9 (b := 64) (j := (0 : Int).toNat) (z := a) rfl
  refine yT_gen (fun S11 hS13 => ?_)
  rw [hS13] at hI12 hF14 hR15 e16 e17
  refine r_load (i := 89) (u := 0) (w := 2) rfl rfl rfl ?_
  refine r_getf (i := 90) (v := 27) (w := 11) (x := (2, 64)) rfl ly43 rfl rfl fun _ => ?_
  refine r_const (i := 91) (u := 1) (z := 1) rfl rfl ?_
  refine r_load (i := 92) (u := 3) (w := 0) rfl rfl rfl ?_
  refine s_int (i := 93) rfl ly64 rfl (by omega) (by omega) ⟨by omega, by omega⟩ ?_
  have hI20 := hI12.seta (b := 64) (j := (1 : Int).toNat) (z := b) ta64 rfl (by omega) (by omega)
  have hF22 := hF14.seta (b := 64) (j := (1 : Int).toNat) (z := b) rfl
  have hR23 := hR15.seta (b := 64) (j := (1 : Int).toNat) (z := b)
  have e24 := CRx.seta e16 (b := 64) (j := (1 : Int).toNat) (z := b) rfl
  have e25 := MCx.seta e17 (b := 64) (j := (1 : Int).toNat) (z := b) rfl
  refine yT_gen (fun S19 hS21 => ?_)
  rw [hS21] at hI20 hF22 hR23 e24 e25
  refine r_load (i := 94) (u := 0) (w := 2) rfl rfl rfl ?_
  refine r_getf (i := 95) (v := 27) (w := 11) (x := (2, 64)) rfl ly43 rfl rfl fun _ => ?_
  refine r_const (i := 96) (u := 2) (z := 2) rfl rfl ?_
  refine r_load (i := 97) (u := 4) (w := 0) rfl rfl rfl ?_
  refine s_int (i := 98) rfl ly64 rfl (by omega) (by omega) ⟨by omega, by omega⟩ ?_
  have hI28 := hI20.seta (b := 64) (j := (2 : Int).toNat) (z := e) ta64 rfl (by omega) (by omega)
  have hF30 := hF22.seta (b := 64) (j := (2 : Int).toNat) (z := e) rfl
  have hR31 := hR23.seta (b := 64) (j := (2 : Int).toNat) (z := e)
  have e32 := CRx.seta e24 (b := 64) (j := (2 : Int).toNat) (z := e) rfl
  have e33 := MCx.seta e25 (b := 64) (j := (2 : Int).toNat) (z := e) rfl
  refine yT_gen (fun S27 hS29 => ?_)
  rw [hS29] at hI28 hF30 hR31 e32 e33
  have at0 : S27.a 64 0 = a ∧ S27.a 64 1 = b ∧ S27.a 64 2 = e ∧ S27.f 43 22 = gv := by subst_vars; exact ⟨rfl, rfl, rfl, rfl⟩
  have as9 := wAS_of (S := S27) (by omega) ⟨by omega, by omega, by omega⟩
  refine r_load (i := 99) (u := 0) (w := 2) rfl rfl rfl ?_
  refine r_const (i := 100) (u := 0) (z := 0) rfl rfl ?_
  refine r_putI (i := 101) (v := 20) (w := 11) rfl ly43 rfl ⟨by omega, by omega⟩ ?_
  have hI35 := hI28.setf (b := 43) (w := 20) (z := 0) tf43_20 rfl (by omega) (by omega)
  have hF37 := hF30.setf (b := 43) (w := 20) (z := 0) rfl
  have hR38 := hR31.setf (b := 43) (w := 20) (z := 0)
  have e39 := CRx.setf e32 (b := 43) (w := 20) (z := 0) rfl
  have e40 := MCx.setf e33 (b := 43) (w := 20) (z := 0) rfl
  have e41 := wASx.setf as9 (b := 43) (w := 20) (z := 0) rfl
  refine yT_gen (fun S34 hS36 => ?_)
  rw [hS36] at hI35 hF37 hR38 e39 e40 e41
  refine r_const (i := 102) (u := 0) (z := 0) rfl rfl ?_
  refine r_store (i := 103) (u := 7) (w := 0) (L1 := [some ((2, 43)), some (vi c), some (vi a), some (vi b), some (vi e), none, none, some (vi 0), none, none]) rfl rfl rfl rfl ?_
  have h42 := hI35.f tf43_20
  have h43 : S34.f 43 20 = 0 := by rw [← hS36]; exact ysf_eq
  have h44 := nfz_0 (S := S34)
  have h45 : nf S34 = nf S27 := by rw [← hS36]; exact nfX.setf rfl
  have h46 : nf S27 = nf S19 := by rw [← hS29]; exact nfX.seta rfl
  have h47 : nf S19 = nf S11 := by rw [← hS21]; exact nfX.seta rfl
  have h48 : nf S11 = nf S3 := by rw [← hS13]; exact nfX.seta rfl
  have h49 : nf S3 = nf S := by rw [← hS5]; exact nfX.setf rfl
  have h50 : nfa S34 = nfa S27 := by rw [← hS36]; exact nfaX.setf rfl
  have h51 : nfa S27 = nfa S19 := by rw [← hS29]; exact nfaX.seta rfl
  have h52 : nfa S19 = nfa S11 := by rw [← hS21]; exact nfaX.seta rfl
  have h53 : nfa S11 = nfa S3 := by rw [← hS13]; exact nfaX.seta rfl
  have h54 : nfa S3 = nfa S := by rw [← hS5]; exact nfaX.setf rfl
  have h55 := hI35.f tf43_31
  have h56 : S34.f 43 31 = S27.f 43 31 := by rw [← hS36]; exact ysf_ne (by decide)
  have h57 : S27.f 43 31 = S19.f 43 31 := by rw [← hS29]; rfl
  have h58 : S19.f 43 31 = S11.f 43 31 := by rw [← hS21]; rfl
  have h59 : S11.f 43 31 = S3.f 43 31 := by rw [← hS13]; rfl
  have h60 : S3.f 43 31 = S.f 43 31 := by rw [← hS5]; exact ysf_ne (by decide)
  have h61 := hI35.f tf43_0
  have h62 : S34.f 43 0 = S27.f 43 0 := by rw [← hS36]; exact ysf_ne (by decide)
  have h63 : S27.f 43 0 = S19.f 43 0 := by rw [← hS29]; rfl
  have h64 : S19.f 43 0 = S11.f 43 0 := by rw [← hS21]; rfl
  have h65 : S11.f 43 0 = S3.f 43 0 := by rw [← hS13]; rfl
  have h66 : S3.f 43 0 = S.f 43 0 := by rw [← hS5]; exact ysf_ne (by decide)
  exact lp203_104 h_c h_a h_b h_e  hd _ S34 hI35 hF37 hR38 e39 e40 e41 0 ⟨by omega, by omega⟩ (by first | exact wSC_0 (by omega) | exact wSC_skip q_0 | exact wSC_push q_0 e_MC (by omega) (by omega) (by omega) (show wtop S = _ from by omega) (by subst_vars; rfl) (fun j => by subst_vars; rfl) (fun j => by subst_vars; rfl)) (by omega) (by omega) (by omega) (by exact mfY_up q_3 (sU_tr (sU_tr (sU_tr (sU_tr (sU_f hS5 (by decide)) (sU_a hS13 (by decide) (by decide))) (sU_a hS21 (by decide) (by decide))) (sU_a hS29 (by decide) (by decide))) (sU_f hS36 (by decide)))) (by omega) (by exact mS1_0 (by omega)) (by exact mK_00 (by omega)) (by exact mcG_up q_5 ((show S34.f 43 31 = S27.f 43 31 by rw [← hS36]; exact ysf_ne (by decide)).trans ((show S27.f 43 31 = S19.f 43 31 by rw [← hS29]; rfl).trans ((show S19.f 43 31 = S11.f 43 31 by rw [← hS21]; rfl).trans ((show S11.f 43 31 = S3.f 43 31 by rw [← hS13]; rfl).trans (show S3.f 43 31 = S.f 43 31 by rw [← hS5]; exact ysf_ne (by decide)))))) (fun j => ((congrFun (show S34.a 66 = S27.a 66 by rw [← hS36]; rfl) j).trans ((congrFun (show S27.a 66 = S19.a 66 by rw [← hS29]; rfl) j).trans ((congrFun (show S19.a 66 = S11.a 66 by rw [← hS21]; rfl) j).trans ((congrFun (show S11.a 66 = S3.a 66 by rw [← hS13]; rfl) j).trans (congrFun (show S3.a 66 = S.a 66 by rw [← hS5]; rfl) j)))))) (fun j => ((congrFun (show S34.a 67 = S27.a 67 by rw [← hS36]; rfl) j).trans ((congrFun (show S27.a 67 = S19.a 67 by rw [← hS29]; rfl) j).trans ((congrFun (show S19.a 67 = S11.a 67 by rw [← hS21]; rfl) j).trans ((congrFun (show S11.a 67 = S3.a 67 by rw [← hS13]; rfl) j).trans (congrFun (show S3.a 67 = S.a 67 by rw [← hS5]; rfl) j))))))) (by exact akM_e (show akM S27 c a b e from ⟨by subst hS5 hS13 hS21 hS29; exact q_6, at0.1, at0.2.1, at0.2.2.1, at0.2.2.2.trans q_7⟩) (sAk_f hS36 (by decide))) (by exact sgQ_0 (by omega)) (Int.lt_succ_toNat _)
theorem lp203_47 {G : xk} {d : Nat} {S0 : yS} {c : Int} (h_c : -2147483648 ≤ c ∧ c ≤ 2147483647) {a : Int} (h_a : -2147483648 ≤ a ∧ a ≤ 2147483647) {b : Int} (h_b : -2147483648 ≤ b ∧ b ≤ 2147483647) {e : Int} (h_e : -2147483648 ≤ e ∧ e ≤ 2147483647) (hd : 12 ≤ d + 1) : ∀ (S : yS) (hI : yI S) (hF : yFr [(43, 0), (43, 19), (43, 20), (43, 21), (43, 22), (43, 31), (43, 42), (43, 43), (43, 49), (43, 50), (43, 51), (43, 52), (43, 53)] [60, 61, 62, 63, 64, 65, 66, 67, 68, 71, 72, 73, 74, 75, 76, 77, 78, 79] S0 S) (hR : yRm [] S0 S) (e_CR : CR S) (g0 c0 : Int) (h_g0 : 0 ≤ g0 ∧ g0 ≤ 1) (h_c0 : 0 ≤ c0 ∧ c0 ≤ 1) (q_0 : g0 = 1 → (0 ≤ c ∧ c < S.f 43 1) ∧ (a = -1 ∨ (0 ≤ a ∧ a < S.f 43 1)) ∧ (b = -1 ∨ (0 ≤ b ∧ b < S.f 43 1)) ∧ (e = -1 ∨ (0 ≤ e ∧ e < S.f 43 1)) ∧ (a ≠ -1 ∨ b = -1) ∧ (b ≠ -1 ∨ e = -1)) (q_1 : c0 = 1 - g0) (q_2 : g0 = 1 → goM S0 c a b e) (q_3 : g0 = 0 → ¬ goM S0 c a b e) (q_4 : sSm S0 S) (q_5 : sKm S0 S) (q_6 : sF2 S0 S), yT xPr G LY xC203 47 [some ((2, 43)), some (vi c), some (vi a), some (vi b), some (vi e), some (vi g0), none, none, none, none] [vi c0, (2, 43)] S (d + 1) (fun r S' => ∃ z : Int, r = (1, vi z) ∧ 0 ≤ z ∧ z ≤ 6 ∧ mfZ S0 S' z c a b e ∧ mkQ S0 S' z ∧ fmZ S0 S' z c a b e ∧ CR S' ∧ yI S' ∧ yFr [(43, 0), (43, 19), (43, 20), (43, 21), (43, 22), (43, 31), (43, 42), (43, 43), (43, 49), (43, 50), (43, 51), (43, 52), (43, 53)] [60, 61, 62, 63, 64, 65, 66, 67, 68, 71, 72, 73, 74, 75, 76, 77, 78, 79] S0 S' ∧ yRm [] S0 S') := by
  intro S hI hF hR e_CR g0 c0 h_g0 h_c0 q_0 q_1 q_2 q_3 q_4 q_5 q_6
  have h1 := hI.f tf43_1
  have h2 : S.f 43 1 = S0.f 43 1 := hF.f rfl
  refine r_putI (i := 47) (v := 0) (w := 11) rfl ly43 rfl ⟨by omega, by omega⟩ ?_
  have hI4 := hI.setf (b := 43) (w := 0) (z := c0) tf43_0 rfl (by omega) (by omega)
  have hF6 := hF.setf (b := 43) (w := 0) (z := c0) rfl
  have hR7 := hR.setf (b := 43) (w := 0) (z := c0)
  have e8 := CRx.setf e_CR (b := 43) (w := 0) (z := c0) rfl
  refine yT_gen (fun S3 hS5 => ?_)
  rw [hS5] at hI4 hF6 hR7 e8
  refine r_load (i := 48) (u := 5) (w := 0) rfl rfl rfl ?_
  refine z_ne (i := 49) (v := 52) rfl ⟨by omega, by omega⟩ (fun h9 => ?_) (fun h10 => ?_)
  · refine r_load (i := 52) (u := 0) (w := 2) rfl rfl rfl ?_
    refine r_load (i := 53) (u := 1) (w := 0) rfl rfl rfl ?_
    refine r_load (i := 54) (u := 2) (w := 0) rfl rfl rfl ?_
    refine r_load (i := 55) (u := 3) (w := 0) rfl rfl rfl ?_
    refine r_load (i := 56) (u := 4) (w := 0) rfl rfl rfl ?_
    refine r_call (i := 57) (u := 11) (v := 238) (w := 0) (b := 0) (na := 3077) (C2 := xC238) (as := [(2, 43), vi c, vi a, vi b, vi e]) (s := []) rfl rfl rfl rfl rfl rfl rfl (sp238 (c := c) (a := a) (b := b) (e := e) hI4 ⟨by omega, by omega⟩ ⟨by omega, by omega⟩ ⟨by omega, by omega⟩ ⟨by omega, by omega⟩   (by omega)) (fun r11 S12 hq13 => ?_)
    obtain ⟨z14, rfl, h15, h16, h17, mc18, mr19, mcr20, hI21, hF22, hR23⟩ := hq13
    have hF24 := hF6.trans hF22 rfl rfl
    have hR25 := hR7.trans hR23 rfl
    have e26 := CRx.fr e8 hF22 rfl rfl
    refine Or.inr (Or.inl ⟨rfl, ?_⟩)
    refine r_store (i := 58) (u := 6) (w := 0) (L1 := [some ((2, 43)), some (vi c), some (vi a), some (vi b), some (vi e), some (vi g0), some (vi z14), none, none, none]) rfl rfl rfl rfl ?_
    refine r_load (i := 59) (u := 6) (w := 0) rfl rfl rfl ?_
    refine z_le (i := 60) (v := 63) rfl ⟨by omega, by omega⟩ (fun h27 => ?_) (fun h28 => ?_)
    · have mc7 := mc18 (by omega)
      refine r_load (i := 63) (u := 0) (w := 2) rfl rfl rfl ?_
      refine r_const (i := 64) (u := 1) (z := 1) rfl rfl ?_
      refine r_putZ (i := 65) (v := 19) (w := 11) rfl ly43 rfl (by omega) (by omega) ?_
      have hI30 := hI21.setf (b := 43) (w := 19) (z := 1) tf43_19 rfl (by omega) (by omega)
      have hF32 := hF24.setf (b := 43) (w := 19) (z := 1) rfl
      have hR33 := hR25.setf (b := 43) (w := 19) (z := 1)
      have e34 := CRx.setf e26 (b := 43) (w := 19) (z := 1) rfl
      have e35 := MCx.setf mc7 (b := 43) (w := 19) (z := 1) rfl
      refine yT_gen (fun S29 hS31 => ?_)
      rw [hS31] at hI30 hF32 hR33 e34 e35
      refine r_load (i := 66) (u := 0) (w := 2) rfl rfl rfl ?_
      refine r_load (i := 67) (u := 1) (w := 0) rfl rfl rfl ?_
      refine r_putI (i := 68) (v := 21) (w := 11) rfl ly43 rfl ⟨by omega, by omega⟩ ?_
      have hI37 := hI30.setf (b := 43) (w := 21) (z := c) tf43_21 rfl (by omega) (by omega)
      have hF39 := hF32.setf (b := 43) (w := 21) (z := c) rfl
      have hR40 := hR33.setf (b := 43) (w := 21) (z := c)
      have e41 := CRx.setf e34 (b := 43) (w := 21) (z := c) rfl
      have e42 := MCx.setf e35 (b := 43) (w := 21) (z := c) rfl
      refine yT_gen (fun S36 hS38 => ?_)
      rw [hS38] at hI37 hF39 hR40 e41 e42
      refine r_load (i := 69) (u := 0) (w := 2) rfl rfl rfl ?_
      refine r_load (i := 70) (u := 2) (w := 0) rfl rfl rfl ?_
      refine z_ge (i := 71) (v := 74) rfl ⟨by omega, by omega⟩ (fun h43 => ?_) (fun h44 => ?_)
      · refine r_load (i := 74) (u := 3) (w := 0) rfl rfl rfl ?_
        refine z_ge (i := 75) (v := 78) rfl ⟨by omega, by omega⟩ (fun h45 => ?_) (fun h46 => ?_)
        · refine r_load (i := 78) (u := 4) (w := 0) rfl rfl rfl ?_
          refine z_ge (i := 79) (v := 82) rfl ⟨by omega, by omega⟩ (fun h47 => ?_) (fun h48 => ?_)
          · refine r_const (i := 82) (u := 3) (z := 3) rfl rfl ?_
            refine yT_drop (L1 := [some ((2, 43)), some (vi c), some (vi a), some (vi b), some (vi e), none, none, none, none, none]) rfl ?_
            have h49 : nfa S36 = nfa S29 := by rw [← hS38]; exact nfaX.setf rfl
            have h50 : nfa S29 = nfa S12 := by rw [← hS31]; exact nfaX.setf rfl
            have h51 := hI37.f tf43_0
            have h52 : S36.f 43 0 = S29.f 43 0 := by rw [← hS38]; exact ysf_ne (by decide)
            have h53 : S29.f 43 0 = S12.f 43 0 := by rw [← hS31]; exact ysf_ne (by decide)
            have h54 : S12.f 43 0 = S3.f 43 0 := hF22.f rfl
            have h55 : S3.f 43 0 = c0 := by rw [← hS5]; exact ysf_eq
            have h56 := hI37.f tf43_21
            have h57 : S36.f 43 21 = c := by rw [← hS38]; exact ysf_eq
            exact lp203_83 h_c h_a h_b h_e  hd S36 hI37 hF39 hR40 e41 e42 3 ⟨by omega, by omega⟩ (by omega) (by omega) (by omega) (by exact ⟨q_2 (by omega), S3, S12, (by rw [← hS5]; exact (show sMa S0 S from sMa_fr hF rfl rfl)), mr0 mr19 (by omega), (sU_tr (sU_f hS31 (by decide)) (sU_f hS38 (by decide)))⟩) (by omega) (by exact mcG_up (mcG_0 (sMg_tr (sMg_fr hF rfl rfl) (show sMg S S3 from by rw [← hS5]; exact ⟨fun _ => rfl, fun _ => rfl, fun _ => rfl, fun _ => rfl⟩)) (mcr20 (by omega))) ((show S36.f 43 31 = S29.f 43 31 by rw [← hS38]; exact ysf_ne (by decide)).trans (show S29.f 43 31 = S12.f 43 31 by rw [← hS31]; exact ysf_ne (by decide))) (fun j => ((congrFun (show S36.a 66 = S29.a 66 by rw [← hS38]; rfl) j).trans (congrFun (show S29.a 66 = S12.a 66 by rw [← hS31]; rfl) j))) (fun j => ((congrFun (show S36.a 67 = S29.a 67 by rw [← hS38]; rfl) j).trans (congrFun (show S29.a 67 = S12.a 67 by rw [← hS31]; rfl) j)))) (by omega) (by first | exact (if_pos (by omega)).symm | exact ((if_neg (by omega)).trans (if_pos (by omega))).symm | exact ((if_neg (by omega)).trans ((if_neg (by omega)).trans (if_pos (by omega)))).symm | exact ((if_neg (by omega)).trans ((if_neg (by omega)).trans (if_neg (by omega)))).symm) 
          · refine r_const (i := 80) (u := 2) (z := 2) rfl rfl ?_
            refine r_goto (i := 81) (v := 83) rfl ?_
            refine yT_drop (L1 := [some ((2, 43)), some (vi c), some (vi a), some (vi b), some (vi e), none, none, none, none, none]) rfl ?_
            have h58 : nfa S36 = nfa S29 := by rw [← hS38]; exact nfaX.setf rfl
            have h59 : nfa S29 = nfa S12 := by rw [← hS31]; exact nfaX.setf rfl
            have h60 := hI37.f tf43_0
            have h61 : S36.f 43 0 = S29.f 43 0 := by rw [← hS38]; exact ysf_ne (by decide)
            have h62 : S29.f 43 0 = S12.f 43 0 := by rw [← hS31]; exact ysf_ne (by decide)
            have h63 : S12.f 43 0 = S3.f 43 0 := hF22.f rfl
            have h64 : S3.f 43 0 = c0 := by rw [← hS5]; exact ysf_eq
            have h65 := hI37.f tf43_21
            have h66 : S36.f 43 21 = c := by rw [← hS38]; exact ysf_eq
            exact lp203_83 h_c h_a h_b h_e  hd S36 hI37 hF39 hR40 e41 e42 2 ⟨by omega, by omega⟩ (by omega) (by omega) (by omega) (by exact ⟨q_2 (by omega), S3, S12, (by rw [← hS5]; exact (show sMa S0 S from sMa_fr hF rfl rfl)), mr0 mr19 (by omega), (sU_tr (sU_f hS31 (by decide)) (sU_f hS38 (by decide)))⟩) (by omega) (by exact mcG_up (mcG_0 (sMg_tr (sMg_fr hF rfl rfl) (show sMg S S3 from by rw [← hS5]; exact ⟨fun _ => rfl, fun _ => rfl, fun _ => rfl, fun _ => rfl⟩)) (mcr20 (by omega))) ((show S36.f 43 31 = S29.f 43 31 by rw [← hS38]; exact ysf_ne (by decide)).trans (show S29.f 43 31 = S12.f 43 31 by rw [← hS31]; exact ysf_ne (by decide))) (fun j => ((congrFun (show S36.a 66 = S29.a 66 by rw [← hS38]; rfl) j).trans (congrFun (show S29.a 66 = S12.a 66 by rw [← hS31]; rfl) j))) (fun j => ((congrFun (show S36.a 67 = S29.a 67 by rw [← hS38]; rfl) j).trans (congrFun (show S29.a 67 = S12.a 67 by rw [← hS31]; rfl) j)))) (by omega) (by first | exact (if_pos (by omega)).symm | exact ((if_neg (by omega)).trans (if_pos (by omega))).symm | exact ((if_neg (by omega)).trans ((if_neg (by omega)).trans (if_pos (by omega)))).symm | exact ((if_neg (by omega)).trans ((if_neg (by omega)).trans (if_neg (by omega)))).symm) 
        · refine r_const (i := 76) (u := 1) (z := 1) rfl rfl ?_
          refine r_goto (i := 77) (v := 83) rfl ?_
          refine yT_drop (L1 := [some ((2, 43)), some (vi c), some (vi a), some (vi b), some (vi e), none, none, none, none, none]) rfl ?_
          have h67 : nfa S36 = nfa S29 := by rw [← hS38]; exact nfaX.setf rfl
          have h68 : nfa S29 = nfa S12 := by rw [← hS31]; exact nfaX.setf rfl
          have h69 := hI37.f tf43_0
          have h70 : S36.f 43 0 = S29.f 43 0 := by rw [← hS38]; exact ysf_ne (by decide)
          have h71 : S29.f 43 0 = S12.f 43 0 := by rw [← hS31]; exact ysf_ne (by decide)
          have h72 : S12.f 43 0 = S3.f 43 0 := hF22.f rfl
          have h73 : S3.f 43 0 = c0 := by rw [← hS5]; exact ysf_eq
          have h74 := hI37.f tf43_21
          have h75 : S36.f 43 21 = c := by rw [← hS38]; exact ysf_eq
          exact lp203_83 h_c h_a h_b h_e  hd S36 hI37 hF39 hR40 e41 e42 1 ⟨by omega, by omega⟩ (by omega) (by omega) (by omega) (by exact ⟨q_2 (by omega), S3, S12, (by rw [← hS5]; exact (show sMa S0 S from sMa_fr hF rfl rfl)), mr0 mr19 (by omega), (sU_tr (sU_f hS31 (by decide)) (sU_f hS38 (by decide)))⟩) (by omega) (by exact mcG_up (mcG_0 (sMg_tr (sMg_fr hF rfl rfl) (show sMg S S3 from by rw [← hS5]; exact ⟨fun _ => rfl, fun _ => rfl, fun _ => rfl, fun _ => rfl⟩)) (mcr20 (by omega))) ((show S36.f 43 31 = S29.f 43 31 by rw [← hS38]; exact ysf_ne (by decide)).trans (show S29.f 43 31 = S12.f 43 31 by rw [← hS31]; exact ysf_ne (by decide))) (fun j => ((congrFun (show S36.a 66 = S29.a 66 by rw [← hS38]; rfl) j).trans (congrFun (show S29.a 66 = S12.a 66 by rw [← hS31]; rfl) j))) (fun j => ((congrFun (show S36.a 67 = S29.a 67 by rw [← hS38]; rfl) j).trans (congrFun (show S29.a 67 = S12.a 67 by rw [← hS31]; rfl) j)))) (by omega) (by first | exact (if_pos (by omega)).symm | exact ((if_neg (by omega)).trans (if_pos (by omega))).symm | exact ((if_neg (by omega)).trans ((if_neg (by omega)).trans (if_pos (by omega)))).symm | exact ((if_neg (by omega)).trans ((if_neg (by omega)).trans (if_neg (by omega)))).symm) 
      · refine r_const (i := 72) (u := 0) (z := 0) rfl rfl ?_
        refine r_goto (i := 73) (v := 83) rfl ?_
        refine yT_drop (L1 := [some ((2, 43)), some (vi c), some (vi a), some (vi b), some (vi e), none, none, none, none, none]) rfl ?_
        have h76 : nfa S36 = nfa S29 := by rw [← hS38]; exact nfaX.setf rfl
        have h77 : nfa S29 = nfa S12 := by rw [← hS31]; exact nfaX.setf rfl
        have h78 := hI37.f tf43_0
        have h79 : S36.f 43 0 = S29.f 43 0 := by rw [← hS38]; exact ysf_ne (by decide)
        have h80 : S29.f 43 0 = S12.f 43 0 := by rw [← hS31]; exact ysf_ne (by decide)
        have h81 : S12.f 43 0 = S3.f 43 0 := hF22.f rfl
        have h82 : S3.f 43 0 = c0 := by rw [← hS5]; exact ysf_eq
        have h83 := hI37.f tf43_21
        have h84 : S36.f 43 21 = c := by rw [← hS38]; exact ysf_eq
        exact lp203_83 h_c h_a h_b h_e  hd S36 hI37 hF39 hR40 e41 e42 0 ⟨by omega, by omega⟩ (by omega) (by omega) (by omega) (by exact ⟨q_2 (by omega), S3, S12, (by rw [← hS5]; exact (show sMa S0 S from sMa_fr hF rfl rfl)), mr0 mr19 (by omega), (sU_tr (sU_f hS31 (by decide)) (sU_f hS38 (by decide)))⟩) (by omega) (by exact mcG_up (mcG_0 (sMg_tr (sMg_fr hF rfl rfl) (show sMg S S3 from by rw [← hS5]; exact ⟨fun _ => rfl, fun _ => rfl, fun _ => rfl, fun _ => rfl⟩)) (mcr20 (by omega))) ((show S36.f 43 31 = S29.f 43 31 by rw [← hS38]; exact ysf_ne (by decide)).trans (show S29.f 43 31 = S12.f 43 31 by rw [← hS31]; exact ysf_ne (by decide))) (fun j => ((congrFun (show S36.a 66 = S29.a 66 by rw [← hS38]; rfl) j).trans (congrFun (show S29.a 66 = S12.a 66 by rw [← hS31]; rfl) j))) (fun j => ((congrFun (show S36.a 67 = S29.a 67 by rw [← hS38]; rfl) j).trans (congrFun (show S29.a 67 = S12.a 67 by rw [← hS31]; rfl) j)))) (by omega) (by first | exact (if_pos (by omega)).symm | exact ((if_neg (by omega)).trans (if_pos (by omega))).symm | exact ((if_neg (by omega)).trans ((if_neg (by omega)).trans (if_pos (by omega)))).symm | exact ((if_neg (by omega)).trans ((if_neg (by omega)).trans (if_neg (by omega)))).symm) 
    · refine r_load (i := 61) (u := 6) (w := 0) rfl rfl rfl ?_
      have h85 := hI21.f tf43_0
      have h86 : S12.f 43 0 = S3.f 43 0 := hF22.f rfl
      have h87 : S3.f 43 0 = c0 := by rw [← hS5]; exact ysf_eq
      exact r_retI (i := 62) rfl ⟨z14, rfl, by omega, by omega, (by exact Or.inr ⟨by omega, q_2 (by omega), S3, S12, (by rw [← hS5]; exact (show sMa S0 S from sMa_fr hF rfl rfl)), mr19, fun _ => sSm_tr q_4 (sSm_tr (sSm_f hS5 (by decide)) (sSm_fr hF22 rfl rfl)), fun q9 => absurd q9 (by omega)⟩), (by exact ⟨fun _ => sKm_tr q_5 (sKm_tr (sKm_f hS5 (by decide)) (sKm_fr hF22 rfl rfl)), fun h9 => absurd h9 (by omega)⟩), (by exact ⟨fun _ => sF2_tr q_6 (sF2_tr (sF2_f hS5 (by decide)) (sF2_fr hF22 rfl rfl)), fun _ => sF2_tr q_6 (sF2_tr (sF2_f hS5 (by decide)) (sF2_fr hF22 rfl rfl)), fun q8 q9 => by first | exact absurd q9 (by omega) | exact absurd q8 (by omega)⟩), e26, hI21, hF24, hR25⟩
  · refine r_const (i := 50) (u := 0) (z := 0) rfl rfl ?_
    have h88 := hI4.f tf43_0
    have h89 : S3.f 43 0 = c0 := by rw [← hS5]; exact ysf_eq
    exact r_retI (i := 51) rfl ⟨0, rfl, by omega, by omega, (by exact Or.inl ⟨by omega, q_3 (by omega), sSm_tr q_4 (sSm_f hS5 (by decide))⟩), (by exact ⟨fun _ => sKm_tr q_5 (sKm_f hS5 (by decide)), fun _ h9 => absurd h9 (by omega)⟩), (by exact ⟨fun _ => sF2_tr q_6 (sF2_f hS5 (by decide)), fun _ => sF2_tr q_6 (sF2_f hS5 (by decide)), fun q8 q9 => by first | exact absurd q9 (by omega) | exact absurd q8 (by omega)⟩), e8, hI4, hF6, hR7⟩
theorem lp203_40 {G : xk} {d : Nat} {S0 : yS} {c : Int} (h_c : -2147483648 ≤ c ∧ c ≤ 2147483647) {a : Int} (h_a : -2147483648 ≤ a ∧ a ≤ 2147483647) {b : Int} (h_b : -2147483648 ≤ b ∧ b ≤ 2147483647) {e : Int} (h_e : -2147483648 ≤ e ∧ e ≤ 2147483647) (hd : 12 ≤ d + 1) : ∀ (S : yS) (hI : yI S) (hF : yFr [(43, 0), (43, 19), (43, 20), (43, 21), (43, 22), (43, 31), (43, 42), (43, 43), (43, 49), (43, 50), (43, 51), (43, 52), (43, 53)] [60, 61, 62, 63, 64, 65, 66, 67, 68, 71, 72, 73, 74, 75, 76, 77, 78, 79] S0 S) (hR : yRm [] S0 S) (e_CR : CR S) (g0 : Int) (h_g0 : 0 ≤ g0 ∧ g0 ≤ 1) (q_0 : g0 = 1 → (0 ≤ c ∧ c < S.f 43 1) ∧ (a = -1 ∨ (0 ≤ a ∧ a < S.f 43 1)) ∧ (b = -1 ∨ (0 ≤ b ∧ b < S.f 43 1)) ∧ (e = -1 ∨ (0 ≤ e ∧ e < S.f 43 1)) ∧ (a ≠ -1 ∨ b = -1) ∧ (b ≠ -1 ∨ e = -1)) (q_1 : (g0 = 1 → goM S0 c a b e) ∧ (g0 = 0 → ¬ goM S0 c a b e)) (q_2 : sSm S0 S) (q_3 : sKm S0 S) (q_4 : sF2 S0 S), yT xPr G LY xC203 40 [some ((2, 43)), some (vi c), some (vi a), some (vi b), some (vi e), none, none, none, none, none] [vi g0] S (d + 1) (fun r S' => ∃ z : Int, r = (1, vi z) ∧ 0 ≤ z ∧ z ≤ 6 ∧ mfZ S0 S' z c a b e ∧ mkQ S0 S' z ∧ fmZ S0 S' z c a b e ∧ CR S' ∧ yI S' ∧ yFr [(43, 0), (43, 19), (43, 20), (43, 21), (43, 22), (43, 31), (43, 42), (43, 43), (43, 49), (43, 50), (43, 51), (43, 52), (43, 53)] [60, 61, 62, 63, 64, 65, 66, 67, 68, 71, 72, 73, 74, 75, 76, 77, 78, 79] S0 S' ∧ yRm [] S0 S') := by
  intro S hI hF hR e_CR g0 h_g0 q_0 q_1 q_2 q_3 q_4
  have h1 := hI.f tf43_1
  have h2 : S.f 43 1 = S0.f 43 1 := hF.f rfl
  refine r_store (i := 40) (u := 5) (w := 0) (L1 := [some ((2, 43)), some (vi c), some (vi a), some (vi b), some (vi e), some (vi g0), none, none, none, none]) rfl rfl rfl rfl ?_
  refine r_load (i := 41) (u := 0) (w := 2) rfl rfl rfl ?_
  refine r_load (i := 42) (u := 5) (w := 0) rfl rfl rfl ?_
  refine z_eq (i := 43) (v := 46) rfl ⟨by omega, by omega⟩ (fun h3 => ?_) (fun h4 => ?_)
  · refine r_const (i := 46) (u := 1) (z := 1) rfl rfl ?_
    exact lp203_47 h_c h_a h_b h_e  hd S hI hF hR e_CR g0 1 ⟨by omega, by omega⟩ ⟨by omega, by omega⟩ (by omega) (by omega) (by exact q_1.1) (by exact q_1.2) (by exact q_2) (by exact q_3) (by exact q_4) 
  · refine r_const (i := 44) (u := 0) (z := 0) rfl rfl ?_
    refine r_goto (i := 45) (v := 47) rfl ?_
    exact lp203_47 h_c h_a h_b h_e  hd S hI hF hR e_CR g0 0 ⟨by omega, by omega⟩ ⟨by omega, by omega⟩ (by omega) (by omega) (by exact q_1.1) (by exact q_1.2) (by exact q_2) (by exact q_3) (by exact q_4) 
/-- ProxyForgeModel.forge -/
theorem sp203 {G : xk} {S : yS} {d : Nat} (hI : yI S) {c : Int} (h_c : -2147483648 ≤ c ∧ c ≤ 2147483647) {a : Int} (h_a : -2147483648 ≤ a ∧ a ≤ 2147483647) {b : Int} (h_b : -2147483648 ≤ b ∧ b ≤ 2147483647) {e : Int} (h_e : -2147483648 ≤ e ∧ e ≤ 2147483647) (e_CR : CR S) (hd : 12 ≤ d) : yT xPr G LY xC203 0 [some ((2, 43)), some (vi c), some (vi a), some (vi b), some (vi e)] [] S d (fun r S' => ∃ z : Int, r = (1, vi z) ∧ 0 ≤ z ∧ z ≤ 6 ∧ mfZ S S' z c a b e ∧ mkQ S S' z ∧ fmZ S S' z c a b e ∧ CR S' ∧ yI S' ∧ yFr [(43, 0), (43, 19), (43, 20), (43, 21), (43, 22), (43, 31), (43, 42), (43, 43), (43, 49), (43, 50), (43, 51), (43, 52), (43, 53)] [60, 61, 62, 63, 64, 65, 66, 67, 68, 71, 72, 73, 74, 75, 76, 77, 78, 79] S S' ∧ yRm [] S S') := by
  refine yT_pad 5 ?_
  show yT xPr G LY xC203 0 [some ((2, 43)), some (vi c), some (vi a), some (vi b), some (vi e), none, none, none, none, none] [] S d _
  obtain ⟨d, rfl⟩ : ∃ q, d = q + 1 := ⟨d - 1, by omega⟩
  have hF : yFr [(43, 0), (43, 19), (43, 20), (43, 21), (43, 22), (43, 31), (43, 42), (43, 43), (43, 49), (43, 50), (43, 51), (43, 52), (43, 53)] [60, 61, 62, 63, 64, 65, 66, 67, 68, 71, 72, 73, 74, 75, 76, 77, 78, 79] S S := yFr.refl S
  have hR : yRm [] S S := yRm.refl S
  refine r_load (i := 0) (u := 0) (w := 2) rfl rfl rfl ?_
  refine r_load (i := 1) (u := 1) (w := 0) rfl rfl rfl ?_
  have h1 := hI.f tf43_1
  refine r_call (i := 2) (u := 11) (v := 213) (w := 0) (b := 0) (na := 514) (C2 := xC213) (as := [(2, 43), vi c]) (s := []) rfl rfl rfl rfl rfl rfl rfl (sp213 (t := c) hI ⟨by omega, by omega⟩   (by omega)) (fun r2 S3 hq4 => ?_)
  obtain ⟨z5, rfl, h6, h7, h8, h9, rfl⟩ := hq4
  refine Or.inr (Or.inl ⟨rfl, ?_⟩)
  refine z_eq (i := 3) (v := 39) rfl ⟨by omega, by omega⟩ (fun h10 => ?_) (fun h11 => ?_)
  · refine r_const (i := 39) (u := 0) (z := 0) rfl rfl ?_
    exact lp203_40 h_c h_a h_b h_e  hd S hI hF hR e_CR 0 ⟨by omega, by omega⟩ (by omega) (by unfold goM; omega) (by exact sSm_rfl) (by exact sKm_rfl) (by exact sF2_rfl) 
  · refine r_load (i := 4) (u := 2) (w := 0) rfl rfl rfl ?_
    refine r_const (i := 5) (u := 4294967295) (z := -1) rfl rfl ?_
    refine c_eq (i := 6) (v := 11) rfl ⟨by omega, by omega⟩ ⟨by omega, by omega⟩ (fun h12 => ?_) (fun h13 => ?_)
    · refine r_load (i := 11) (u := 3) (w := 0) rfl rfl rfl ?_
      refine r_const (i := 12) (u := 4294967295) (z := -1) rfl rfl ?_
      refine c_eq (i := 13) (v := 18) rfl ⟨by omega, by omega⟩ ⟨by omega, by omega⟩ (fun h14 => ?_) (fun h15 => ?_)
      · refine r_load (i := 18) (u := 4) (w := 0) rfl rfl rfl ?_
        refine r_const (i := 19) (u := 4294967295) (z := -1) rfl rfl ?_
        refine c_eq (i := 20) (v := 25) rfl ⟨by omega, by omega⟩ ⟨by omega, by omega⟩ (fun h16 => ?_) (fun h17 => ?_)
        · refine r_load (i := 25) (u := 2) (w := 0) rfl rfl rfl ?_
          refine r_const (i := 26) (u := 4294967295) (z := -1) rfl rfl ?_
          refine c_ne (i := 27) (v := 31) rfl ⟨by omega, by omega⟩ ⟨by omega, by omega⟩ (fun h18 => absurd h18 (by omega)) (fun h19 => ?_)
          refine r_load (i := 28) (u := 3) (w := 0) rfl rfl rfl ?_
          refine r_const (i := 29) (u := 4294967295) (z := -1) rfl rfl ?_
          refine c_ne (i := 30) (v := 39) rfl ⟨by omega, by omega⟩ ⟨by omega, by omega⟩ (fun h20 => absurd h20 (by omega)) (fun h21 => ?_)
          refine r_load (i := 31) (u := 3) (w := 0) rfl rfl rfl ?_
          refine r_const (i := 32) (u := 4294967295) (z := -1) rfl rfl ?_
          refine c_ne (i := 33) (v := 37) rfl ⟨by omega, by omega⟩ ⟨by omega, by omega⟩ (fun h22 => absurd h22 (by omega)) (fun h23 => ?_)
          refine r_load (i := 34) (u := 4) (w := 0) rfl rfl rfl ?_
          refine r_const (i := 35) (u := 4294967295) (z := -1) rfl rfl ?_
          refine c_ne (i := 36) (v := 39) rfl ⟨by omega, by omega⟩ ⟨by omega, by omega⟩ (fun h24 => absurd h24 (by omega)) (fun h25 => ?_)
          refine r_const (i := 37) (u := 1) (z := 1) rfl rfl ?_
          refine r_goto (i := 38) (v := 40) rfl ?_
          exact lp203_40 h_c h_a h_b h_e  hd S hI hF hR e_CR 1 ⟨by omega, by omega⟩ (by omega) (by unfold goM; omega) (by exact sSm_rfl) (by exact sKm_rfl) (by exact sF2_rfl) 
        · refine r_load (i := 21) (u := 0) (w := 2) rfl rfl rfl ?_
          refine r_load (i := 22) (u := 4) (w := 0) rfl rfl rfl ?_
          refine r_call (i := 23) (u := 11) (v := 213) (w := 0) (b := 0) (na := 514) (C2 := xC213) (as := [(2, 43), vi e]) (s := []) rfl rfl rfl rfl rfl rfl rfl (sp213 (t := e) hI ⟨by omega, by omega⟩   (by omega)) (fun r26 S27 hq28 => ?_)
          obtain ⟨z29, rfl, h30, h31, h32, h33, rfl⟩ := hq28
          refine Or.inr (Or.inl ⟨rfl, ?_⟩)
          refine z_eq (i := 24) (v := 39) rfl ⟨by omega, by omega⟩ (fun h34 => ?_) (fun h35 => ?_)
          · refine r_const (i := 39) (u := 0) (z := 0) rfl rfl ?_
            exact lp203_40 h_c h_a h_b h_e  hd S hI hF hR e_CR 0 ⟨by omega, by omega⟩ (by omega) (by unfold goM; omega) (by exact sSm_rfl) (by exact sKm_rfl) (by exact sF2_rfl) 
          · refine r_load (i := 25) (u := 2) (w := 0) rfl rfl rfl ?_
            refine r_const (i := 26) (u := 4294967295) (z := -1) rfl rfl ?_
            refine c_ne (i := 27) (v := 31) rfl ⟨by omega, by omega⟩ ⟨by omega, by omega⟩ (fun h36 => absurd h36 (by omega)) (fun h37 => ?_)
            refine r_load (i := 28) (u := 3) (w := 0) rfl rfl rfl ?_
            refine r_const (i := 29) (u := 4294967295) (z := -1) rfl rfl ?_
            refine c_ne (i := 30) (v := 39) rfl ⟨by omega, by omega⟩ ⟨by omega, by omega⟩ (fun h38 => absurd h38 (by omega)) (fun h39 => ?_)
            refine r_load (i := 31) (u := 3) (w := 0) rfl rfl rfl ?_
            refine r_const (i := 32) (u := 4294967295) (z := -1) rfl rfl ?_
            refine c_ne (i := 33) (v := 37) rfl ⟨by omega, by omega⟩ ⟨by omega, by omega⟩ (fun h40 => absurd h40 (by omega)) (fun h41 => ?_)
            refine r_load (i := 34) (u := 4) (w := 0) rfl rfl rfl ?_
            refine r_const (i := 35) (u := 4294967295) (z := -1) rfl rfl ?_
            refine c_ne (i := 36) (v := 39) rfl ⟨by omega, by omega⟩ ⟨by omega, by omega⟩ (fun h42 => ?_) (fun h43 => absurd h43 (by omega))
            refine r_const (i := 39) (u := 0) (z := 0) rfl rfl ?_
            exact lp203_40 h_c h_a h_b h_e  hd S hI hF hR e_CR 0 ⟨by omega, by omega⟩ (by omega) (by unfold goM; omega) (by exact sSm_rfl) (by exact sKm_rfl) (by exact sF2_rfl) 
      · refine r_load (i := 14) (u := 0) (w := 2) rfl rfl rfl ?_
        refine r_load (i := 15) (u := 3) (w := 0) rfl rfl rfl ?_
        refine r_call (i := 16) (u := 11) (v := 213) (w := 0) (b := 0) (na := 514) (C2 := xC213) (as := [(2, 43), vi b]) (s := []) rfl rfl rfl rfl rfl rfl rfl (sp213 (t := b) hI ⟨by omega, by omega⟩   (by omega)) (fun r44 S45 hq46 => ?_)
        obtain ⟨z47, rfl, h48, h49, h50, h51, rfl⟩ := hq46
        refine Or.inr (Or.inl ⟨rfl, ?_⟩)
        refine z_eq (i := 17) (v := 39) rfl ⟨by omega, by omega⟩ (fun h52 => ?_) (fun h53 => ?_)
        · refine r_const (i := 39) (u := 0) (z := 0) rfl rfl ?_
          exact lp203_40 h_c h_a h_b h_e  hd S hI hF hR e_CR 0 ⟨by omega, by omega⟩ (by omega) (by unfold goM; omega) (by exact sSm_rfl) (by exact sKm_rfl) (by exact sF2_rfl) 
        · refine r_load (i := 18) (u := 4) (w := 0) rfl rfl rfl ?_
          refine r_const (i := 19) (u := 4294967295) (z := -1) rfl rfl ?_
          refine c_eq (i := 20) (v := 25) rfl ⟨by omega, by omega⟩ ⟨by omega, by omega⟩ (fun h54 => ?_) (fun h55 => ?_)
          · refine r_load (i := 25) (u := 2) (w := 0) rfl rfl rfl ?_
            refine r_const (i := 26) (u := 4294967295) (z := -1) rfl rfl ?_
            refine c_ne (i := 27) (v := 31) rfl ⟨by omega, by omega⟩ ⟨by omega, by omega⟩ (fun h56 => absurd h56 (by omega)) (fun h57 => ?_)
            refine r_load (i := 28) (u := 3) (w := 0) rfl rfl rfl ?_
            refine r_const (i := 29) (u := 4294967295) (z := -1) rfl rfl ?_
            refine c_ne (i := 30) (v := 39) rfl ⟨by omega, by omega⟩ ⟨by omega, by omega⟩ (fun h58 => ?_) (fun h59 => absurd h59 (by omega))
            refine r_const (i := 39) (u := 0) (z := 0) rfl rfl ?_
            exact lp203_40 h_c h_a h_b h_e  hd S hI hF hR e_CR 0 ⟨by omega, by omega⟩ (by omega) (by unfold goM; omega) (by exact sSm_rfl) (by exact sKm_rfl) (by exact sF2_rfl) 
          · refine r_load (i := 21) (u := 0) (w := 2) rfl rfl rfl ?_
            refine r_load (i := 22) (u := 4) (w := 0) rfl rfl rfl ?_
            refine r_call (i := 23) (u := 11) (v := 213) (w := 0) (b := 0) (na := 514) (C2 := xC213) (as := [(2, 43), vi e]) (s := []) rfl rfl rfl rfl rfl rfl rfl (sp213 (t := e) hI ⟨by omega, by omega⟩   (by omega)) (fun r60 S61 hq62 => ?_)
            obtain ⟨z63, rfl, h64, h65, h66, h67, rfl⟩ := hq62
            refine Or.inr (Or.inl ⟨rfl, ?_⟩)
            refine z_eq (i := 24) (v := 39) rfl ⟨by omega, by omega⟩ (fun h68 => ?_) (fun h69 => ?_)
            · refine r_const (i := 39) (u := 0) (z := 0) rfl rfl ?_
              exact lp203_40 h_c h_a h_b h_e  hd S hI hF hR e_CR 0 ⟨by omega, by omega⟩ (by omega) (by unfold goM; omega) (by exact sSm_rfl) (by exact sKm_rfl) (by exact sF2_rfl) 
            · refine r_load (i := 25) (u := 2) (w := 0) rfl rfl rfl ?_
              refine r_const (i := 26) (u := 4294967295) (z := -1) rfl rfl ?_
              refine c_ne (i := 27) (v := 31) rfl ⟨by omega, by omega⟩ ⟨by omega, by omega⟩ (fun h70 => absurd h70 (by omega)) (fun h71 => ?_)
              refine r_load (i := 28) (u := 3) (w := 0) rfl rfl rfl ?_
              refine r_const (i := 29) (u := 4294967295) (z := -1) rfl rfl ?_
              refine c_ne (i := 30) (v := 39) rfl ⟨by omega, by omega⟩ ⟨by omega, by omega⟩ (fun h72 => ?_) (fun h73 => absurd h73 (by omega))
              refine r_const (i := 39) (u := 0) (z := 0) rfl rfl ?_
              exact lp203_40 h_c h_a h_b h_e  hd S hI hF hR e_CR 0 ⟨by omega, by omega⟩ (by omega) (by unfold goM; omega) (by exact sSm_rfl) (by exact sKm_rfl) (by exact sF2_rfl) 
    · refine r_load (i := 7) (u := 0) (w := 2) rfl rfl rfl ?_
      refine r_load (i := 8) (u := 2) (w := 0) rfl rfl rfl ?_
      refine r_call (i := 9) (u := 11) (v := 213) (w := 0) (b := 0) (na := 514) (C2 := xC213) (as := [(2, 43), vi a]) (s := []) rfl rfl rfl rfl rfl rfl rfl (sp213 (t := a) hI ⟨by omega, by omega⟩   (by omega)) (fun r74 S75 hq76 => ?_)
      obtain ⟨z77, rfl, h78, h79, h80, h81, rfl⟩ := hq76
      refine Or.inr (Or.inl ⟨rfl, ?_⟩)
      refine z_eq (i := 10) (v := 39) rfl ⟨by omega, by omega⟩ (fun h82 => ?_) (fun h83 => ?_)
      · refine r_const (i := 39) (u := 0) (z := 0) rfl rfl ?_
        exact lp203_40 h_c h_a h_b h_e  hd S hI hF hR e_CR 0 ⟨by omega, by omega⟩ (by omega) (by unfold goM; omega) (by exact sSm_rfl) (by exact sKm_rfl) (by exact sF2_rfl) 
      · refine r_load (i := 11) (u := 3) (w := 0) rfl rfl rfl ?_
        refine r_const (i := 12) (u := 4294967295) (z := -1) rfl rfl ?_
        refine c_eq (i := 13) (v := 18) rfl ⟨by omega, by omega⟩ ⟨by omega, by omega⟩ (fun h84 => ?_) (fun h85 => ?_)
        · refine r_load (i := 18) (u := 4) (w := 0) rfl rfl rfl ?_
          refine r_const (i := 19) (u := 4294967295) (z := -1) rfl rfl ?_
          refine c_eq (i := 20) (v := 25) rfl ⟨by omega, by omega⟩ ⟨by omega, by omega⟩ (fun h86 => ?_) (fun h87 => ?_)
          · refine r_load (i := 25) (u := 2) (w := 0) rfl rfl rfl ?_
            refine r_const (i := 26) (u := 4294967295) (z := -1) rfl rfl ?_
            refine c_ne (i := 27) (v := 31) rfl ⟨by omega, by omega⟩ ⟨by omega, by omega⟩ (fun h88 => ?_) (fun h89 => absurd h89 (by omega))
            refine r_load (i := 31) (u := 3) (w := 0) rfl rfl rfl ?_
            refine r_const (i := 32) (u := 4294967295) (z := -1) rfl rfl ?_
            refine c_ne (i := 33) (v := 37) rfl ⟨by omega, by omega⟩ ⟨by omega, by omega⟩ (fun h90 => absurd h90 (by omega)) (fun h91 => ?_)
            refine r_load (i := 34) (u := 4) (w := 0) rfl rfl rfl ?_
            refine r_const (i := 35) (u := 4294967295) (z := -1) rfl rfl ?_
            refine c_ne (i := 36) (v := 39) rfl ⟨by omega, by omega⟩ ⟨by omega, by omega⟩ (fun h92 => absurd h92 (by omega)) (fun h93 => ?_)
            refine r_const (i := 37) (u := 1) (z := 1) rfl rfl ?_
            refine r_goto (i := 38) (v := 40) rfl ?_
            exact lp203_40 h_c h_a h_b h_e  hd S hI hF hR e_CR 1 ⟨by omega, by omega⟩ (by omega) (by unfold goM; omega) (by exact sSm_rfl) (by exact sKm_rfl) (by exact sF2_rfl) 
          · refine r_load (i := 21) (u := 0) (w := 2) rfl rfl rfl ?_
            refine r_load (i := 22) (u := 4) (w := 0) rfl rfl rfl ?_
            refine r_call (i := 23) (u := 11) (v := 213) (w := 0) (b := 0) (na := 514) (C2 := xC213) (as := [(2, 43), vi e]) (s := []) rfl rfl rfl rfl rfl rfl rfl (sp213 (t := e) hI ⟨by omega, by omega⟩   (by omega)) (fun r94 S95 hq96 => ?_)
            obtain ⟨z97, rfl, h98, h99, h100, h101, rfl⟩ := hq96
            refine Or.inr (Or.inl ⟨rfl, ?_⟩)
            refine z_eq (i := 24) (v := 39) rfl ⟨by omega, by omega⟩ (fun h102 => ?_) (fun h103 => ?_)
            · refine r_const (i := 39) (u := 0) (z := 0) rfl rfl ?_
              exact lp203_40 h_c h_a h_b h_e  hd S hI hF hR e_CR 0 ⟨by omega, by omega⟩ (by omega) (by unfold goM; omega) (by exact sSm_rfl) (by exact sKm_rfl) (by exact sF2_rfl) 
            · refine r_load (i := 25) (u := 2) (w := 0) rfl rfl rfl ?_
              refine r_const (i := 26) (u := 4294967295) (z := -1) rfl rfl ?_
              refine c_ne (i := 27) (v := 31) rfl ⟨by omega, by omega⟩ ⟨by omega, by omega⟩ (fun h104 => ?_) (fun h105 => absurd h105 (by omega))
              refine r_load (i := 31) (u := 3) (w := 0) rfl rfl rfl ?_
              refine r_const (i := 32) (u := 4294967295) (z := -1) rfl rfl ?_
              refine c_ne (i := 33) (v := 37) rfl ⟨by omega, by omega⟩ ⟨by omega, by omega⟩ (fun h106 => absurd h106 (by omega)) (fun h107 => ?_)
              refine r_load (i := 34) (u := 4) (w := 0) rfl rfl rfl ?_
              refine r_const (i := 35) (u := 4294967295) (z := -1) rfl rfl ?_
              refine c_ne (i := 36) (v := 39) rfl ⟨by omega, by omega⟩ ⟨by omega, by omega⟩ (fun h108 => ?_) (fun h109 => absurd h109 (by omega))
              refine r_const (i := 39) (u := 0) (z := 0) rfl rfl ?_
              exact lp203_40 h_c h_a h_b h_e  hd S hI hF hR e_CR 0 ⟨by omega, by omega⟩ (by omega) (by unfold goM; omega) (by exact sSm_rfl) (by exact sKm_rfl) (by exact sF2_rfl) 
        · refine r_load (i := 14) (u := 0) (w := 2) rfl rfl rfl ?_
          refine r_load (i := 15) (u := 3) (w := 0) rfl rfl rfl ?_
          refine r_call (i := 16) (u := 11) (v := 213) (w := 0) (b := 0) (na := 514) (C2 := xC213) (as := [(2, 43), vi b]) (s := []) rfl rfl rfl rfl rfl rfl rfl (sp213 (t := b) hI ⟨by omega, by omega⟩   (by omega)) (fun r110 S111 hq112 => ?_)
          obtain ⟨z113, rfl, h114, h115, h116, h117, rfl⟩ := hq112
          refine Or.inr (Or.inl ⟨rfl, ?_⟩)
          refine z_eq (i := 17) (v := 39) rfl ⟨by omega, by omega⟩ (fun h118 => ?_) (fun h119 => ?_)
          · refine r_const (i := 39) (u := 0) (z := 0) rfl rfl ?_
            exact lp203_40 h_c h_a h_b h_e  hd S hI hF hR e_CR 0 ⟨by omega, by omega⟩ (by omega) (by unfold goM; omega) (by exact sSm_rfl) (by exact sKm_rfl) (by exact sF2_rfl) 
          · refine r_load (i := 18) (u := 4) (w := 0) rfl rfl rfl ?_
            refine r_const (i := 19) (u := 4294967295) (z := -1) rfl rfl ?_
            refine c_eq (i := 20) (v := 25) rfl ⟨by omega, by omega⟩ ⟨by omega, by omega⟩ (fun h120 => ?_) (fun h121 => ?_)
            · refine r_load (i := 25) (u := 2) (w := 0) rfl rfl rfl ?_
              refine r_const (i := 26) (u := 4294967295) (z := -1) rfl rfl ?_
              refine c_ne (i := 27) (v := 31) rfl ⟨by omega, by omega⟩ ⟨by omega, by omega⟩ (fun h122 => ?_) (fun h123 => absurd h123 (by omega))
              refine r_load (i := 31) (u := 3) (w := 0) rfl rfl rfl ?_
              refine r_const (i := 32) (u := 4294967295) (z := -1) rfl rfl ?_
              refine c_ne (i := 33) (v := 37) rfl ⟨by omega, by omega⟩ ⟨by omega, by omega⟩ (fun h124 => ?_) (fun h125 => absurd h125 (by omega))
              refine r_const (i := 37) (u := 1) (z := 1) rfl rfl ?_
              refine r_goto (i := 38) (v := 40) rfl ?_
              exact lp203_40 h_c h_a h_b h_e  hd S hI hF hR e_CR 1 ⟨by omega, by omega⟩ (by omega) (by unfold goM; omega) (by exact sSm_rfl) (by exact sKm_rfl) (by exact sF2_rfl) 
            · refine r_load (i := 21) (u := 0) (w := 2) rfl rfl rfl ?_
              refine r_load (i := 22) (u := 4) (w := 0) rfl rfl rfl ?_
              refine r_call (i := 23) (u := 11) (v := 213) (w := 0) (b := 0) (na := 514) (C2 := xC213) (as := [(2, 43), vi e]) (s := []) rfl rfl rfl rfl rfl rfl rfl (sp213 (t := e) hI ⟨by omega, by omega⟩   (by omega)) (fun r126 S127 hq128 => ?_)
              obtain ⟨z129, rfl, h130, h131, h132, h133, rfl⟩ := hq128
              refine Or.inr (Or.inl ⟨rfl, ?_⟩)
              refine z_eq (i := 24) (v := 39) rfl ⟨by omega, by omega⟩ (fun h134 => ?_) (fun h135 => ?_)
              · refine r_const (i := 39) (u := 0) (z := 0) rfl rfl ?_
                exact lp203_40 h_c h_a h_b h_e  hd S hI hF hR e_CR 0 ⟨by omega, by omega⟩ (by omega) (by unfold goM; omega) (by exact sSm_rfl) (by exact sKm_rfl) (by exact sF2_rfl) 
              · refine r_load (i := 25) (u := 2) (w := 0) rfl rfl rfl ?_
                refine r_const (i := 26) (u := 4294967295) (z := -1) rfl rfl ?_
                refine c_ne (i := 27) (v := 31) rfl ⟨by omega, by omega⟩ ⟨by omega, by omega⟩ (fun h136 => ?_) (fun h137 => absurd h137 (by omega))
                refine r_load (i := 31) (u := 3) (w := 0) rfl rfl rfl ?_
                refine r_const (i := 32) (u := 4294967295) (z := -1) rfl rfl ?_
                refine c_ne (i := 33) (v := 37) rfl ⟨by omega, by omega⟩ ⟨by omega, by omega⟩ (fun h138 => ?_) (fun h139 => absurd h139 (by omega))
                refine r_const (i := 37) (u := 1) (z := 1) rfl rfl ?_
                refine r_goto (i := 38) (v := 40) rfl ?_
                exact lp203_40 h_c h_a h_b h_e  hd S hI hF hR e_CR 1 ⟨by omega, by omega⟩ (by omega) (by unfold goM; omega) (by exact sSm_rfl) (by exact sKm_rfl) (by exact sF2_rfl) 
end XNC
