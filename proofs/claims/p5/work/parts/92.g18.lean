set_option linter.unusedVariables false
set_option maxRecDepth 4000
noncomputable section XNC
theorem lp203_159 {G : xk} {d : Nat} {S0 : yS} {c : Int} (h_c : -2147483648 ≤ c ∧ c ≤ 2147483647) {a : Int} (h_a : -2147483648 ≤ a ∧ a ≤ 2147483647) {b : Int} (h_b : -2147483648 ≤ b ∧ b ≤ 2147483647) {e : Int} (h_e : -2147483648 ≤ e ∧ e ≤ 2147483647) (hd : 12 ≤ d + 1) {k : Int} (h_k : 0 ≤ k ∧ k ≤ 59) (no : Nat) (K : ∀ (S : yS) (hI : yI S) (hF : yFr [(43, 0), (43, 19), (43, 20), (43, 21), (43, 22), (43, 31), (43, 42), (43, 43), (43, 49), (43, 50), (43, 51), (43, 52), (43, 53)] [60, 61, 62, 63, 64, 65, 66, 67, 68, 71, 72, 73, 74, 75, 76, 77, 78, 79] S0 S) (hR : yRm [] S0 S) (e_CR : CR S) (e_MC : MC S) (e_wAS : wAS S) (k : Int) (h_k : 0 ≤ k ∧ k ≤ 60) (q_0 : wSC k S) (q_1 : S.f 43 20 = nf S k) (q_2 : nfa S ≤ 24) (q_3 : k ≤ S.f 43 31) (hn : 60 - k < (no : Nat)), yT xPr G LY xC203 104 [some ((2, 43)), some (vi c), some (vi a), some (vi b), some (vi e), none, none, some (vi k), none, none] [] S (d + 1) (fun r S' => ∃ z : Int, r = (1, vi z) ∧ 0 ≤ z ∧ z ≤ 6 ∧ CR S' ∧ yI S' ∧ yFr [(43, 0), (43, 19), (43, 20), (43, 21), (43, 22), (43, 31), (43, 42), (43, 43), (43, 49), (43, 50), (43, 51), (43, 52), (43, 53)] [60, 61, 62, 63, 64, 65, 66, 67, 68, 71, 72, 73, 74, 75, 76, 77, 78, 79] S0 S' ∧ yRm [] S0 S')) (hm : 60 - k < ((no + 1 : Nat) : Int)) : ∀ (n : Nat), ∀ (S : yS) (hI : yI S) (hF : yFr [(43, 0), (43, 19), (43, 20), (43, 21), (43, 22), (43, 31), (43, 42), (43, 43), (43, 49), (43, 50), (43, 51), (43, 52), (43, 53)] [60, 61, 62, 63, 64, 65, 66, 67, 68, 71, 72, 73, 74, 75, 76, 77, 78, 79] S0 S) (hR : yRm [] S0 S) (e_CR : CR S) (e_MC : MC S) (e_wAS : wAS S) (m j : Int) (h_m : 0 ≤ m ∧ m ≤ 59) (h_j : 0 ≤ j ∧ j ≤ 3) (q_0 : wSC k S) (q_1 : S.f 43 20 = nf S k) (q_2 : nfa S ≤ 24) (q_3 : k < S.f 43 31) (q_4 : nf S (k + 1) = nf S k + 1) (q_5 : nf S k + 1 ≤ nfa S) (q_6 : wtop S = S.a 66 k.toNat) (hn : 3 - j < (n : Nat)), yT xPr G LY xC203 159 [some ((2, 43)), some (vi c), some (vi a), some (vi b), some (vi e), none, none, some (vi k), some (vi m), some (vi j)] [] S (d + 1) (fun r S' => ∃ z : Int, r = (1, vi z) ∧ 0 ≤ z ∧ z ≤ 6 ∧ CR S' ∧ yI S' ∧ yFr [(43, 0), (43, 19), (43, 20), (43, 21), (43, 22), (43, 31), (43, 42), (43, 43), (43, 49), (43, 50), (43, 51), (43, 52), (43, 53)] [60, 61, 62, 63, 64, 65, 66, 67, 68, 71, 72, 73, 74, 75, 76, 77, 78, 79] S0 S' ∧ yRm [] S0 S') := by
  intro n
  induction n with
  | zero => intro S hI hF hR e_CR e_MC e_wAS m j h_m h_j q_0 q_1 q_2 q_3 q_4 q_5 q_6 hn; exact absurd hn (by omega)
  | succ n ih =>
    intro S hI hF hR e_CR e_MC e_wAS m j h_m h_j q_0 q_1 q_2 q_3 q_4 q_5 q_6 hn
    have h1 := hI.f tf43_20
    have h2 := nfz_0 (S := S)
    have h3 := hI.f tf43_31
    have h4 := hI.a ta66 k.toNat
    refine r_load (i := 159) (u := 9) (w := 0) rfl rfl rfl ?_
    refine r_load (i := 160) (u := 0) (w := 2) rfl rfl rfl ?_
    refine r_getf (i := 161) (v := 17) (w := 11) (x := (2, 58)) rfl ly43 rfl rfl fun _ => ?_
    refine r_load (i := 162) (u := 8) (w := 0) rfl rfl rfl ?_
    refine a_int (i := 163) rfl ly58 rfl (by omega) (by omega) fun h6 => ?_
    have h7 := hI.a ta58 m.toNat
    have h8 : S.a 58 m.toNat = S0.a 58 m.toNat := hF.a rfl _
    refine c_ge (i := 164) (v := 184) rfl ⟨by omega, by omega⟩ ⟨by omega, by omega⟩ (fun h9 => ?_) (fun h10 => ?_)
    · refine r_load (i := 184) (u := 0) (w := 2) rfl rfl rfl ?_
      refine r_dup (i := 185) rfl rfl ?_
      refine r_getf (i := 186) (v := 20) (w := 11) (x := vi (S.f 43 20)) rfl ly43 rfl rfl fun h11 => ?_
      have h11 : Rg (S.f 43 20) := h11
      refine r_const (i := 187) (u := 1) (z := 1) rfl rfl ?_
      refine r_iadd (i := 188) rfl ?_
      refine r_putI (i := 189) (v := 20) (w := 11) rfl ly43 rfl ⟨by omega, by omega⟩ ?_
      have hI13 := hI.setf (b := 43) (w := 20) (z := (S.f 43 20) + 1) tf43_20 rfl (by omega) (by omega)
      have hF15 := hF.setf (b := 43) (w := 20) (z := (S.f 43 20) + 1) rfl
      have hR16 := hR.setf (b := 43) (w := 20) (z := (S.f 43 20) + 1)
      have e17 := CRx.setf e_CR (b := 43) (w := 20) (z := (S.f 43 20) + 1) rfl
      have e18 := MCx.setf e_MC (b := 43) (w := 20) (z := (S.f 43 20) + 1) rfl
      have e19 := wASx.setf e_wAS (b := 43) (w := 20) (z := (S.f 43 20) + 1) rfl
      refine yT_gen (fun S12 hS14 => ?_)
      rw [hS14] at hI13 hF15 hR16 e17 e18 e19
      refine r_iinc (i := 190) (u := 1) (v := 7) (s := 1) (L1 := [some ((2, 43)), some (vi c), some (vi a), some (vi b), some (vi e), none, none, some (vi (k + 1)), some (vi m), some (vi j)]) rfl rfl rfl rfl rfl ?_
      refine r_goto (i := 191) (v := 104) rfl ?_
      refine yT_drop (L1 := [some ((2, 43)), some (vi c), some (vi a), some (vi b), some (vi e), none, none, some (vi (k + 1)), none, none]) rfl ?_
      have h20 := hI13.f tf43_20
      have h21 : S12.f 43 20 = (S.f 43 20) + 1 := by rw [← hS14]; exact ysf_eq
      have h22 := nfz_0 (S := S12)
      have h23 : nf S12 = nf S := by rw [← hS14]; exact nfX.setf rfl
      have h24 : nf S12 k = nf S k := congrFun h23 _
      have h25 : nf S12 (k + 1) = nf S (k + 1) := congrFun h23 _
      have h26 : nfa S12 = nfa S := by rw [← hS14]; exact nfaX.setf rfl
      have h27 := hI13.f tf43_31
      have h28 : S12.f 43 31 = S.f 43 31 := by rw [← hS14]; exact ysf_ne (by decide)
      exact K S12 hI13 hF15 hR16 e17 e18 e19 (k + 1) ⟨by omega, by omega⟩ (by first | exact wSC_0 (by omega) | exact wSC_skip q_0 | exact wSC_push q_0 e_MC (by omega) (by omega) (by omega) (show wtop S = _ from by omega) (by subst_vars; rfl) (fun j => by subst_vars; rfl) (fun j => by subst_vars; rfl)) (by omega) (by omega) (by omega) (by omega)
    · refine r_load (i := 165) (u := 0) (w := 2) rfl rfl rfl ?_
      refine r_getf (i := 166) (v := 25) (w := 11) (x := (2, 62)) rfl ly43 rfl rfl fun _ => ?_
      refine r_const (i := 167) (u := 3) (z := 3) rfl rfl ?_
      refine r_load (i := 168) (u := 0) (w := 2) rfl rfl rfl ?_
      refine r_getf (i := 169) (v := 20) (w := 11) (x := vi (S.f 43 20)) rfl ly43 rfl rfl fun h30 => ?_
      have h30 : Rg (S.f 43 20) := h30
      refine r_imul (i := 170) rfl ?_
      refine r_load (i := 171) (u := 9) (w := 0) rfl rfl rfl ?_
      refine r_iadd (i := 172) rfl ?_
      refine r_load (i := 173) (u := 0) (w := 2) rfl rfl rfl ?_
      refine r_getf (i := 174) (v := 16) (w := 11) (x := (2, 57)) rfl ly43 rfl rfl fun _ => ?_
      refine r_const (i := 175) (u := 3) (z := 3) rfl rfl ?_
      refine r_load (i := 176) (u := 8) (w := 0) rfl rfl rfl ?_
      refine r_imul (i := 177) rfl ?_
      refine r_load (i := 178) (u := 9) (w := 0) rfl rfl rfl ?_
      refine r_iadd (i := 179) rfl ?_
      refine a_int (i := 180) rfl ly57 rfl (by omega) (by omega) fun h32 => ?_
      have h33 := hI.a ta57 ((3 * m) + j).toNat
      have h34 : S.a 57 ((3 * m) + j).toNat = S0.a 57 ((3 * m) + j).toNat := hF.a rfl _
      refine s_int (i := 181) rfl ly62 rfl (by omega) (by omega) ⟨by omega, by omega⟩ ?_
      have hI36 := hI.seta (b := 62) (j := ((3 * (S.f 43 20)) + j).toNat) (z := S.a 57 ((3 * m) + j).toNat) ta62 rfl (by omega) (by omega)
      have hF38 := hF.seta (b := 62) (j := ((3 * (S.f 43 20)) + j).toNat) (z := S.a 57 ((3 * m) + j).toNat) rfl
      have hR39 := hR.seta (b := 62) (j := ((3 * (S.f 43 20)) + j).toNat) (z := S.a 57 ((3 * m) + j).toNat)
      have e40 := CRx.seta e_CR (b := 62) (j := ((3 * (S.f 43 20)) + j).toNat) (z := S.a 57 ((3 * m) + j).toNat) rfl
      have e41 := MCx.seta e_MC (b := 62) (j := ((3 * (S.f 43 20)) + j).toNat) (z := S.a 57 ((3 * m) + j).toNat) rfl
      have e42 := wASx.seta e_wAS (b := 62) (j := ((3 * (S.f 43 20)) + j).toNat) (z := S.a 57 ((3 * m) + j).toNat) rfl
      have e43 := (wSCx k).seta q_0 (b := 62) (j := ((3 * (S.f 43 20)) + j).toNat) (z := S.a 57 ((3 * m) + j).toNat) rfl
      refine yT_gen (fun S35 hS37 => ?_)
      rw [hS37] at hI36 hF38 hR39 e40 e41 e42 e43
      refine r_iinc (i := 182) (u := 1) (v := 9) (s := 1) (L1 := [some ((2, 43)), some (vi c), some (vi a), some (vi b), some (vi e), none, none, some (vi k), some (vi m), some (vi (j + 1))]) rfl rfl rfl rfl rfl ?_
      refine r_goto (i := 183) (v := 159) rfl ?_
      have h44 := hI36.f tf43_20
      have h45 : S35.f 43 20 = S.f 43 20 := by rw [← hS37]; rfl
      have h46 := nfz_0 (S := S35)
      have h47 : nf S35 = nf S := by rw [← hS37]; exact nfX.seta rfl
      have h48 : nf S35 k = nf S k := congrFun h47 _
      have h49 : nf S35 (k + 1) = nf S (k + 1) := congrFun h47 _
      have h50 : nfa S35 = nfa S := by rw [← hS37]; exact nfaX.seta rfl
      have h51 := hI36.f tf43_31
      have h52 : S35.f 43 31 = S.f 43 31 := by rw [← hS37]; rfl
      have h53 : wtop S35 = wtop S := by rw [← hS37]; exact wtopX.seta rfl
      have h54 := hI36.a ta66 k.toNat
      have h55 : S35.a 66 k.toNat = S.a 66 k.toNat := by rw [← hS37]; rfl
      exact ih S35 hI36 hF38 hR39 e40 e41 e42 m (j + 1) ⟨by omega, by omega⟩ ⟨by omega, by omega⟩ (by exact e43) (by omega) (by omega) (by omega) (by omega) (by omega) (by omega) (by omega)
theorem lp203_104 {G : xk} {d : Nat} {S0 : yS} {c : Int} (h_c : -2147483648 ≤ c ∧ c ≤ 2147483647) {a : Int} (h_a : -2147483648 ≤ a ∧ a ≤ 2147483647) {b : Int} (h_b : -2147483648 ≤ b ∧ b ≤ 2147483647) {e : Int} (h_e : -2147483648 ≤ e ∧ e ≤ 2147483647) (hd : 12 ≤ d + 1) : ∀ (n : Nat), ∀ (S : yS) (hI : yI S) (hF : yFr [(43, 0), (43, 19), (43, 20), (43, 21), (43, 22), (43, 31), (43, 42), (43, 43), (43, 49), (43, 50), (43, 51), (43, 52), (43, 53)] [60, 61, 62, 63, 64, 65, 66, 67, 68, 71, 72, 73, 74, 75, 76, 77, 78, 79] S0 S) (hR : yRm [] S0 S) (e_CR : CR S) (e_MC : MC S) (e_wAS : wAS S) (k : Int) (h_k : 0 ≤ k ∧ k ≤ 60) (q_0 : wSC k S) (q_1 : S.f 43 20 = nf S k) (q_2 : nfa S ≤ 24) (q_3 : k ≤ S.f 43 31) (hn : 60 - k < (n : Nat)), yT xPr G LY xC203 104 [some ((2, 43)), some (vi c), some (vi a), some (vi b), some (vi e), none, none, some (vi k), none, none] [] S (d + 1) (fun r S' => ∃ z : Int, r = (1, vi z) ∧ 0 ≤ z ∧ z ≤ 6 ∧ CR S' ∧ yI S' ∧ yFr [(43, 0), (43, 19), (43, 20), (43, 21), (43, 22), (43, 31), (43, 42), (43, 43), (43, 49), (43, 50), (43, 51), (43, 52), (43, 53)] [60, 61, 62, 63, 64, 65, 66, 67, 68, 71, 72, 73, 74, 75, 76, 77, 78, 79] S0 S' ∧ yRm [] S0 S') := by
  intro n
  induction n with
  | zero => intro S hI hF hR e_CR e_MC e_wAS k h_k q_0 q_1 q_2 q_3 hn; exact absurd hn (by omega)
  | succ n ih =>
    intro S hI hF hR e_CR e_MC e_wAS k h_k q_0 q_1 q_2 q_3 hn
    have h1 := hI.f tf43_20
    have h2 := nfz_0 (S := S)
    have h3 := hI.f tf43_31
    refine r_load (i := 104) (u := 7) (w := 0) rfl rfl rfl ?_
    refine r_load (i := 105) (u := 0) (w := 2) rfl rfl rfl ?_
    refine r_getf (i := 106) (v := 31) (w := 11) (x := vi (S.f 43 31)) rfl ly43 rfl rfl fun h4 => ?_
    have h4 : Rg (S.f 43 31) := h4
    refine c_ge (i := 107) (v := 192) rfl ⟨by omega, by omega⟩ ⟨by omega, by omega⟩ (fun h5 => ?_) (fun h6 => ?_)
    · have sd9 := wSD_of q_0 e_MC (by omega)
      refine r_load (i := 192) (u := 0) (w := 2) rfl rfl rfl ?_
      refine r_call (i := 193) (u := 11) (v := 266) (w := 0) (b := 0) (na := 1025) (C2 := xC266) (as := [(2, 43)]) (s := []) rfl rfl rfl rfl rfl rfl rfl (sp266  hI   e_wAS sd9 e_CR (by omega)) (fun r7 S8 hq9 => ?_)
      obtain ⟨rfl, e10, e11, e12, hI13, hF14, hR15⟩ := hq9
      have hF16 := hF.trans hF14 rfl rfl
      have hR17 := hR.trans hR15 rfl
      have e18 := MCx.fr e_MC hF14 rfl rfl
      have e19 := (wSCx k).fr q_0 hF14 rfl rfl
      refine Or.inl ⟨rfl, ?_⟩
      refine r_const (i := 194) (u := 0) (z := 0) rfl rfl ?_
      exact r_retI (i := 195) rfl ⟨0, rfl, by omega, by omega, e12, hI13, hF16, hR17⟩
    · refine r_load (i := 108) (u := 0) (w := 2) rfl rfl rfl ?_
      refine r_getf (i := 109) (v := 29) (w := 11) (x := (2, 66)) rfl ly43 rfl rfl fun _ => ?_
      refine r_load (i := 110) (u := 7) (w := 0) rfl rfl rfl ?_
      refine a_int (i := 111) rfl ly66 rfl (by omega) (by omega) fun h21 => ?_
      have h22 := hI.a ta66 k.toNat
      refine r_store (i := 112) (u := 8) (w := 0) (L1 := [some ((2, 43)), some (vi c), some (vi a), some (vi b), some (vi e), none, none, some (vi k), some (vi (S.a 66 k.toNat)), none]) rfl rfl rfl rfl ?_
      refine r_load (i := 113) (u := 0) (w := 2) rfl rfl rfl ?_
      refine r_getf (i := 114) (v := 13) (w := 11) (x := (2, 54)) rfl ly43 rfl rfl fun _ => ?_
      refine r_load (i := 115) (u := 8) (w := 0) rfl rfl rfl ?_
      refine a_int (i := 116) rfl ly54 rfl (by omega) (by omega) fun h24 => ?_
      have h25 := hI.a ta54 (S.a 66 k.toNat).toNat
      have h26 : S.a 54 (S.a 66 k.toNat).toNat = S0.a 54 (S.a 66 k.toNat).toNat := hF.a rfl _
      refine r_const (i := 117) (u := 16) (z := 16) rfl rfl ?_
      refine r_iand (i := 118) rfl ?_
      have h27 := @yand_c (S.a 54 (S.a 66 k.toNat).toNat) 16 (by decide) (by decide)
      refine z_le (i := 119) (v := 121) rfl ⟨by omega, by omega⟩ (fun h28 => ?_) (fun h29 => ?_)
      · have nn9 := nf_y (S := S) (k := k) (by omega) (by omega)
        have nr9 := nf_room (S := S) (k := k) (by omega) (by omega) (by omega)
        have mc9 := e_MC.2 k.toNat (by omega)
        have mc8 := hF.a (b := 53) rfl (S.a 66 k.toNat).toNat
        refine r_load (i := 121) (u := 0) (w := 2) rfl rfl rfl ?_
        refine r_getf (i := 122) (v := 23) (w := 11) (x := (2, 60)) rfl ly43 rfl rfl fun _ => ?_
        refine r_load (i := 123) (u := 0) (w := 2) rfl rfl rfl ?_
        refine r_getf (i := 124) (v := 20) (w := 11) (x := vi (S.f 43 20)) rfl ly43 rfl rfl fun h31 => ?_
        have h31 : Rg (S.f 43 20) := h31
        refine r_load (i := 125) (u := 8) (w := 0) rfl rfl rfl ?_
        refine s_int (i := 126) rfl ly60 rfl (by omega) (by omega) ⟨by omega, by omega⟩ ?_
        have hI33 := hI.seta (b := 60) (j := (S.f 43 20).toNat) (z := S.a 66 k.toNat) ta60 rfl (by omega) (by omega)
        have hF35 := hF.seta (b := 60) (j := (S.f 43 20).toNat) (z := S.a 66 k.toNat) rfl
        have hR36 := hR.seta (b := 60) (j := (S.f 43 20).toNat) (z := S.a 66 k.toNat)
        have e37 := CRx.seta e_CR (b := 60) (j := (S.f 43 20).toNat) (z := S.a 66 k.toNat) rfl
        have e38 := MCx.seta e_MC (b := 60) (j := (S.f 43 20).toNat) (z := S.a 66 k.toNat) rfl
        have e39 := wASx.seta e_wAS (b := 60) (j := (S.f 43 20).toNat) (z := S.a 66 k.toNat) rfl
        have e40 := wSC_put q_0 (j := (S.f 43 20).toNat) (z := S.a 66 k.toNat) (by omega)
        refine yT_gen (fun S32 hS34 => ?_)
        rw [hS34] at hI33 hF35 hR36 e37 e38 e39 e40
        refine r_load (i := 127) (u := 0) (w := 2) rfl rfl rfl ?_
        refine r_getf (i := 128) (v := 24) (w := 11) (x := (2, 61)) rfl ly43 rfl rfl fun _ => ?_
        refine r_load (i := 129) (u := 0) (w := 2) rfl rfl rfl ?_
        have h42 := hI33.f tf43_20
        have h43 : S32.f 43 20 = S.f 43 20 := by rw [← hS34]; rfl
        refine r_getf (i := 130) (v := 20) (w := 11) (x := vi (S32.f 43 20)) rfl ly43 rfl rfl fun h44 => ?_
        have h44 : Rg (S32.f 43 20) := h44
        refine r_load (i := 131) (u := 0) (w := 2) rfl rfl rfl ?_
        refine r_getf (i := 132) (v := 18) (w := 11) (x := (2, 59)) rfl ly43 rfl rfl fun _ => ?_
        refine r_load (i := 133) (u := 0) (w := 2) rfl rfl rfl ?_
        refine r_getf (i := 134) (v := 12) (w := 11) (x := (2, 53)) rfl ly43 rfl rfl fun _ => ?_
        refine r_load (i := 135) (u := 8) (w := 0) rfl rfl rfl ?_
        refine a_int (i := 136) rfl ly53 rfl (by omega) (by omega) fun h47 => ?_
        have h48 := hI33.a ta53 (S.a 66 k.toNat).toNat
        have h49 : S32.a 53 (S.a 66 k.toNat).toNat = S0.a 53 (S.a 66 k.toNat).toNat := hF35.a rfl _
        refine a_int (i := 137) rfl ly59 rfl (by omega) (by omega) fun h50 => ?_
        have h51 := hI33.a ta59 (S32.a 53 (S.a 66 k.toNat).toNat).toNat
        have h52 : S32.a 59 (S32.a 53 (S.a 66 k.toNat).toNat).toNat = S0.a 59 (S32.a 53 (S.a 66 k.toNat).toNat).toNat := hF35.a rfl _
        refine s_int (i := 138) rfl ly61 rfl (by omega) (by omega) ⟨by omega, by omega⟩ ?_
        have hI54 := hI33.seta (b := 61) (j := (S32.f 43 20).toNat) (z := S32.a 59 (S32.a 53 (S.a 66 k.toNat).toNat).toNat) ta61 rfl (by omega) (by omega)
        have hF56 := hF35.seta (b := 61) (j := (S32.f 43 20).toNat) (z := S32.a 59 (S32.a 53 (S.a 66 k.toNat).toNat).toNat) rfl
        have hR57 := hR36.seta (b := 61) (j := (S32.f 43 20).toNat) (z := S32.a 59 (S32.a 53 (S.a 66 k.toNat).toNat).toNat)
        have e58 := CRx.seta e37 (b := 61) (j := (S32.f 43 20).toNat) (z := S32.a 59 (S32.a 53 (S.a 66 k.toNat).toNat).toNat) rfl
        have e59 := MCx.seta e38 (b := 61) (j := (S32.f 43 20).toNat) (z := S32.a 59 (S32.a 53 (S.a 66 k.toNat).toNat).toNat) rfl
        have e60 := wASx.seta e39 (b := 61) (j := (S32.f 43 20).toNat) (z := S32.a 59 (S32.a 53 (S.a 66 k.toNat).toNat).toNat) rfl
        have e61 := (wSCx k).seta e40 (b := 61) (j := (S32.f 43 20).toNat) (z := S32.a 59 (S32.a 53 (S.a 66 k.toNat).toNat).toNat) rfl
        refine yT_gen (fun S53 hS55 => ?_)
        rw [hS55] at hI54 hF56 hR57 e58 e59 e60 e61
        refine r_load (i := 139) (u := 0) (w := 2) rfl rfl rfl ?_
        refine r_getf (i := 140) (v := 28) (w := 11) (x := (2, 65)) rfl ly43 rfl rfl fun _ => ?_
        refine r_load (i := 141) (u := 0) (w := 2) rfl rfl rfl ?_
        have h63 := hI54.f tf43_20
        have h64 : S53.f 43 20 = S32.f 43 20 := by rw [← hS55]; rfl
        have h65 : S32.f 43 20 = S.f 43 20 := by rw [← hS34]; rfl
        refine r_getf (i := 142) (v := 20) (w := 11) (x := vi (S53.f 43 20)) rfl ly43 rfl rfl fun h66 => ?_
        have h66 : Rg (S53.f 43 20) := h66
        refine r_load (i := 143) (u := 0) (w := 2) rfl rfl rfl ?_
        refine r_getf (i := 144) (v := 30) (w := 11) (x := (2, 67)) rfl ly43 rfl rfl fun _ => ?_
        refine r_load (i := 145) (u := 7) (w := 0) rfl rfl rfl ?_
        refine a_bool (i := 146) rfl ly67 rfl (by omega) (by omega) fun h68 => ?_
        have h69 : S53.a 67 k.toNat = S32.a 67 k.toNat := by rw [← hS55]; rfl
        have h70 : S32.a 67 k.toNat = S.a 67 k.toNat := by rw [← hS34]; rfl
        refine s_bool (i := 147) rfl ly65 rfl (by omega) (by omega) (by omega) (by omega) ?_
        have hI72 := hI54.seta0 (b := 65) (j := (S53.f 43 20).toNat) (z := S53.a 67 k.toNat) rfl rfl
        have hF74 := hF56.seta (b := 65) (j := (S53.f 43 20).toNat) (z := S53.a 67 k.toNat) rfl
        have hR75 := hR57.seta (b := 65) (j := (S53.f 43 20).toNat) (z := S53.a 67 k.toNat)
        have e76 := CRx.seta e58 (b := 65) (j := (S53.f 43 20).toNat) (z := S53.a 67 k.toNat) rfl
        have e77 := MCx.seta e59 (b := 65) (j := (S53.f 43 20).toNat) (z := S53.a 67 k.toNat) rfl
        have e78 := wASx.seta e60 (b := 65) (j := (S53.f 43 20).toNat) (z := S53.a 67 k.toNat) rfl
        have e79 := (wSCx k).seta e61 (b := 65) (j := (S53.f 43 20).toNat) (z := S53.a 67 k.toNat) rfl
        refine yT_gen (fun S71 hS73 => ?_)
        rw [hS73] at hI72 hF74 hR75 e76 e77 e78 e79
        refine r_load (i := 148) (u := 0) (w := 2) rfl rfl rfl ?_
        refine r_getf (i := 149) (v := 26) (w := 11) (x := (2, 63)) rfl ly43 rfl rfl fun _ => ?_
        refine r_load (i := 150) (u := 0) (w := 2) rfl rfl rfl ?_
        have h81 := hI72.f tf43_20
        have h82 : S71.f 43 20 = S53.f 43 20 := by rw [← hS73]; rfl
        have h83 : S53.f 43 20 = S32.f 43 20 := by rw [← hS55]; rfl
        have h84 : S32.f 43 20 = S.f 43 20 := by rw [← hS34]; rfl
        refine r_getf (i := 151) (v := 20) (w := 11) (x := vi (S71.f 43 20)) rfl ly43 rfl rfl fun h85 => ?_
        have h85 : Rg (S71.f 43 20) := h85
        refine r_load (i := 152) (u := 0) (w := 2) rfl rfl rfl ?_
        refine r_getf (i := 153) (v := 17) (w := 11) (x := (2, 58)) rfl ly43 rfl rfl fun _ => ?_
        refine r_load (i := 154) (u := 8) (w := 0) rfl rfl rfl ?_
        refine a_int (i := 155) rfl ly58 rfl (by omega) (by omega) fun h87 => ?_
        have h88 := hI72.a ta58 (S.a 66 k.toNat).toNat
        have h89 : S71.a 58 (S.a 66 k.toNat).toNat = S0.a 58 (S.a 66 k.toNat).toNat := hF74.a rfl _
        refine s_int (i := 156) rfl ly63 rfl (by omega) (by omega) ⟨by omega, by omega⟩ ?_
        have hI91 := hI72.seta (b := 63) (j := (S71.f 43 20).toNat) (z := S71.a 58 (S.a 66 k.toNat).toNat) ta63 rfl (by omega) (by omega)
        have hF93 := hF74.seta (b := 63) (j := (S71.f 43 20).toNat) (z := S71.a 58 (S.a 66 k.toNat).toNat) rfl
        have hR94 := hR75.seta (b := 63) (j := (S71.f 43 20).toNat) (z := S71.a 58 (S.a 66 k.toNat).toNat)
        have e95 := CRx.seta e76 (b := 63) (j := (S71.f 43 20).toNat) (z := S71.a 58 (S.a 66 k.toNat).toNat) rfl
        have e96 := MCx.seta e77 (b := 63) (j := (S71.f 43 20).toNat) (z := S71.a 58 (S.a 66 k.toNat).toNat) rfl
        have e97 := wASx.seta e78 (b := 63) (j := (S71.f 43 20).toNat) (z := S71.a 58 (S.a 66 k.toNat).toNat) rfl
        have e98 := (wSCx k).seta e79 (b := 63) (j := (S71.f 43 20).toNat) (z := S71.a 58 (S.a 66 k.toNat).toNat) rfl
        refine yT_gen (fun S90 hS92 => ?_)
        rw [hS92] at hI91 hF93 hR94 e95 e96 e97 e98
        refine r_const (i := 157) (u := 0) (z := 0) rfl rfl ?_
        refine r_store (i := 158) (u := 9) (w := 0) (L1 := [some ((2, 43)), some (vi c), some (vi a), some (vi b), some (vi e), none, none, some (vi k), some (vi (S.a 66 k.toNat)), some (vi 0)]) rfl rfl rfl rfl ?_
        have h99 := hI91.f tf43_20
        have h100 : S90.f 43 20 = S71.f 43 20 := by rw [← hS92]; rfl
        have h101 : S71.f 43 20 = S53.f 43 20 := by rw [← hS73]; rfl
        have h102 : S53.f 43 20 = S32.f 43 20 := by rw [← hS55]; rfl
        have h103 : S32.f 43 20 = S.f 43 20 := by rw [← hS34]; rfl
        have h104 := nfz_0 (S := S90)
        have h105 : nf S90 = nf S71 := by rw [← hS92]; exact nfX.seta rfl
        have h106 : nf S90 k = nf S71 k := congrFun h105 _
        have h107 : nf S90 (k + 1) = nf S71 (k + 1) := congrFun h105 _
        have h108 : nf S71 = nf S53 := by rw [← hS73]; exact nfX.seta rfl
        have h109 : nf S71 k = nf S53 k := congrFun h108 _
        have h110 : nf S71 (k + 1) = nf S53 (k + 1) := congrFun h108 _
        have h111 : nf S53 = nf S32 := by rw [← hS55]; exact nfX.seta rfl
        have h112 : nf S53 k = nf S32 k := congrFun h111 _
        have h113 : nf S53 (k + 1) = nf S32 (k + 1) := congrFun h111 _
        have h114 : nf S32 = nf S := by rw [← hS34]; exact nfX.seta rfl
        have h115 : nf S32 k = nf S k := congrFun h114 _
        have h116 : nf S32 (k + 1) = nf S (k + 1) := congrFun h114 _
        have h117 : nfa S90 = nfa S71 := by rw [← hS92]; exact nfaX.seta rfl
        have h118 : nfa S71 = nfa S53 := by rw [← hS73]; exact nfaX.seta rfl
        have h119 : nfa S53 = nfa S32 := by rw [← hS55]; exact nfaX.seta rfl
        have h120 : nfa S32 = nfa S := by rw [← hS34]; exact nfaX.seta rfl
        have h121 := hI91.f tf43_31
        have h122 : S90.f 43 31 = S71.f 43 31 := by rw [← hS92]; rfl
        have h123 : S71.f 43 31 = S53.f 43 31 := by rw [← hS73]; rfl
        have h124 : S53.f 43 31 = S32.f 43 31 := by rw [← hS55]; rfl
        have h125 : S32.f 43 31 = S.f 43 31 := by rw [← hS34]; rfl
        have h126 : wtop S90 = wtop S71 := by rw [← hS92]; exact wtopX.seta rfl
        have h127 : wtop S71 = wtop S53 := by rw [← hS73]; exact wtopX.seta rfl
        have h128 : wtop S53 = wtop S32 := by rw [← hS55]; exact wtopX.seta rfl
        have h129 : wtop S32 = S.a 66 k.toNat := by rw [← hS34]; exact wtop_set
        have h130 := hI91.a ta66 k.toNat
        have h131 : S90.a 66 k.toNat = S71.a 66 k.toNat := by rw [← hS92]; rfl
        have h132 : S71.a 66 k.toNat = S53.a 66 k.toNat := by rw [← hS73]; rfl
        have h133 : S53.a 66 k.toNat = S32.a 66 k.toNat := by rw [← hS55]; rfl
        have h134 : S32.a 66 k.toNat = S.a 66 k.toNat := by rw [← hS34]; rfl
        exact lp203_159 h_c h_a h_b h_e  hd (k := k) ⟨by omega, by omega⟩ n ih (by omega) _ S90 hI91 hF93 hR94 e95 e96 e97 (S.a 66 k.toNat) 0 ⟨by omega, by omega⟩ ⟨by omega, by omega⟩ (by exact e98) (by omega) (by omega) (by omega) (by omega) (by omega) (by omega) (Int.lt_succ_toNat _)
      · have nn9 := nf_n (S := S) (k := k) (by omega) (by omega)
        refine r_goto (i := 120) (v := 190) rfl ?_
        refine r_iinc (i := 190) (u := 1) (v := 7) (s := 1) (L1 := [some ((2, 43)), some (vi c), some (vi a), some (vi b), some (vi e), none, none, some (vi (k + 1)), some (vi (S.a 66 k.toNat)), none]) rfl rfl rfl rfl rfl ?_
        refine r_goto (i := 191) (v := 104) rfl ?_
        refine yT_drop (L1 := [some ((2, 43)), some (vi c), some (vi a), some (vi b), some (vi e), none, none, some (vi (k + 1)), none, none]) rfl ?_
        exact ih S hI hF hR e_CR e_MC e_wAS (k + 1) ⟨by omega, by omega⟩ (by first | exact wSC_0 (by omega) | exact wSC_skip q_0 | exact wSC_push q_0 e_MC (by omega) (by omega) (by omega) (show wtop S = _ from by omega) (by subst_vars; rfl) (fun j => by subst_vars; rfl) (fun j => by subst_vars; rfl)) (by omega) (by omega) (by omega) (by omega)
theorem lp203_83 {G : xk} {d : Nat} {S0 : yS} {c : Int} (h_c : -2147483648 ≤ c ∧ c ≤ 2147483647) {a : Int} (h_a : -2147483648 ≤ a ∧ a ≤ 2147483647) {b : Int} (h_b : -2147483648 ≤ b ∧ b ≤ 2147483647) {e : Int} (h_e : -2147483648 ≤ e ∧ e ≤ 2147483647) (hd : 12 ≤ d + 1) : ∀ (S : yS) (hI : yI S) (hF : yFr [(43, 0), (43, 19), (43, 20), (43, 21), (43, 22), (43, 31), (43, 42), (43, 43), (43, 49), (43, 50), (43, 51), (43, 52), (43, 53)] [60, 61, 62, 63, 64, 65, 66, 67, 68, 71, 72, 73, 74, 75, 76, 77, 78, 79] S0 S) (hR : yRm [] S0 S) (e_CR : CR S) (e_MC : MC S) (gv : Int) (h_gv : 0 ≤ gv ∧ gv ≤ 3) (q_0 : (0 ≤ c ∧ c ≤ 19) ∧ (-1 ≤ a ∧ a ≤ 19) ∧ (-1 ≤ b ∧ b ≤ 19) ∧ (-1 ≤ e ∧ e ≤ 19)) (q_1 : (1 ≤ gv → 0 ≤ a) ∧ (2 ≤ gv → 0 ≤ b) ∧ (3 ≤ gv → 0 ≤ e)) (q_2 : nfa S ≤ 24), yT xPr G LY xC203 83 [some ((2, 43)), some (vi c), some (vi a), some (vi b), some (vi e), none, none, none, none, none] [vi gv, (2, 43)] S (d + 1) (fun r S' => ∃ z : Int, r = (1, vi z) ∧ 0 ≤ z ∧ z ≤ 6 ∧ CR S' ∧ yI S' ∧ yFr [(43, 0), (43, 19), (43, 20), (43, 21), (43, 22), (43, 31), (43, 42), (43, 43), (43, 49), (43, 50), (43, 51), (43, 52), (43, 53)] [60, 61, 62, 63, 64, 65, 66, 67, 68, 71, 72, 73, 74, 75, 76, 77, 78, 79] S0 S' ∧ yRm [] S0 S') := by
  intro S hI hF hR e_CR e_MC gv h_gv q_0 q_1 q_2
  refine r_putI (i := 83) (v := 22) (w := 11) rfl ly43 rfl ⟨by omega, by omega⟩ ?_
  have hI2 := hI.setf (b := 43) (w := 22) (z := gv) tf43_22 rfl (by omega) (by omega)
  have hF4 := hF.setf (b := 43) (w := 22) (z := gv) rfl
  have hR5 := hR.setf (b := 43) (w := 22) (z := gv)
  have e6 := CRx.setf e_CR (b := 43) (w := 22) (z := gv) rfl
  have e7 := MCx.setf e_MC (b := 43) (w := 22) (z := gv) rfl
  refine yT_gen (fun S1 hS3 => ?_)
  rw [hS3] at hI2 hF4 hR5 e6 e7
  refine r_load (i := 84) (u := 0) (w := 2) rfl rfl rfl ?_
  refine r_getf (i := 85) (v := 27) (w := 11) (x := (2, 64)) rfl ly43 rfl rfl fun _ => ?_
  refine r_const (i := 86) (u := 0) (z := 0) rfl rfl ?_
  refine r_load (i := 87) (u := 2) (w := 0) rfl rfl rfl ?_
  refine s_int (i := 88) rfl ly64 rfl (by omega) (by omega) ⟨by omega, by omega⟩ ?_
  have hI10 := hI2.seta (b := 64) (j := (0 : Int).toNat) (z := a) ta64 rfl (by omega) (by omega)
  have hF12 := hF4.seta (b := 64) (j := (0 : Int).toNat) (z := a) rfl
  have hR13 := hR5.seta (b := 64) (j := (0 : Int).toNat) (z := a)
  have e14 := CRx.seta e6 (b := 64) (j := (0 : Int).toNat) (z := a) rfl
  have e15 := MCx.seta e7 (b := 64) (j := (0 : Int).toNat) (z := a) rfl
  refine yT_gen (fun S9 hS11 => ?_)
  rw [hS11] at hI10 hF12 hR13 e14 e15
  refine r_load (i := 89) (u := 0) (w := 2) rfl rfl rfl ?_
  refine r_getf (i := 90) (v := 27) (w := 11) (x := (2, 64)) rfl ly43 rfl rfl fun _ => ?_
  refine r_const (i := 91) (u := 1) (z := 1) rfl rfl ?_
  refine r_load (i := 92) (u := 3) (w := 0) rfl rfl rfl ?_
  refine s_int (i := 93) rfl ly64 rfl (by omega) (by omega) ⟨by omega, by omega⟩ ?_
  have hI18 := hI10.seta (b := 64) (j := (1 : Int).toNat) (z := b) ta64 rfl (by omega) (by omega)
  have hF20 := hF12.seta (b := 64) (j := (1 : Int).toNat) (z := b) rfl
  have hR21 := hR13.seta (b := 64) (j := (1 : Int).toNat) (z := b)
  have e22 := CRx.seta e14 (b := 64) (j := (1 : Int).toNat) (z := b) rfl
  have e23 := MCx.seta e15 (b := 64) (j := (1 : Int).toNat) (z := b) rfl
  refine yT_gen (fun S17 hS19 => ?_)
  rw [hS19] at hI18 hF20 hR21 e22 e23
  refine r_load (i := 94) (u := 0) (w := 2) rfl rfl rfl ?_
  refine r_getf (i := 95) (v := 27) (w := 11) (x := (2, 64)) rfl ly43 rfl rfl fun _ => ?_
  refine r_const (i := 96) (u := 2) (z := 2) rfl rfl ?_
  refine r_load (i := 97) (u := 4) (w := 0) rfl rfl rfl ?_
  refine s_int (i := 98) rfl ly64 rfl (by omega) (by omega) ⟨by omega, by omega⟩ ?_
  have hI26 := hI18.seta (b := 64) (j := (2 : Int).toNat) (z := e) ta64 rfl (by omega) (by omega)
  have hF28 := hF20.seta (b := 64) (j := (2 : Int).toNat) (z := e) rfl
  have hR29 := hR21.seta (b := 64) (j := (2 : Int).toNat) (z := e)
  have e30 := CRx.seta e22 (b := 64) (j := (2 : Int).toNat) (z := e) rfl
  have e31 := MCx.seta e23 (b := 64) (j := (2 : Int).toNat) (z := e) rfl
  refine yT_gen (fun S25 hS27 => ?_)
  rw [hS27] at hI26 hF28 hR29 e30 e31
  have at0 : S25.a 64 0 = a ∧ S25.a 64 1 = b ∧ S25.a 64 2 = e ∧ S25.f 43 22 = gv := by subst_vars; exact ⟨rfl, rfl, rfl, rfl⟩
  have as9 := wAS_of (S := S25) (by omega) ⟨by omega, by omega, by omega⟩
  refine r_load (i := 99) (u := 0) (w := 2) rfl rfl rfl ?_
  refine r_const (i := 100) (u := 0) (z := 0) rfl rfl ?_
  refine r_putI (i := 101) (v := 20) (w := 11) rfl ly43 rfl ⟨by omega, by omega⟩ ?_
  have hI33 := hI26.setf (b := 43) (w := 20) (z := 0) tf43_20 rfl (by omega) (by omega)
  have hF35 := hF28.setf (b := 43) (w := 20) (z := 0) rfl
  have hR36 := hR29.setf (b := 43) (w := 20) (z := 0)
  have e37 := CRx.setf e30 (b := 43) (w := 20) (z := 0) rfl
  have e38 := MCx.setf e31 (b := 43) (w := 20) (z := 0) rfl
  have e39 := wASx.setf as9 (b := 43) (w := 20) (z := 0) rfl
  refine yT_gen (fun S32 hS34 => ?_)
  rw [hS34] at hI33 hF35 hR36 e37 e38 e39
  refine r_const (i := 102) (u := 0) (z := 0) rfl rfl ?_
  refine r_store (i := 103) (u := 7) (w := 0) (L1 := [some ((2, 43)), some (vi c), some (vi a), some (vi b), some (vi e), none, none, some (vi 0), none, none]) rfl rfl rfl rfl ?_
  have h40 := hI33.f tf43_20
  have h41 : S32.f 43 20 = 0 := by rw [← hS34]; exact ysf_eq
  have h42 := nfz_0 (S := S32)
  have h43 : nf S32 = nf S25 := by rw [← hS34]; exact nfX.setf rfl
  have h44 : nf S25 = nf S17 := by rw [← hS27]; exact nfX.seta rfl
  have h45 : nf S17 = nf S9 := by rw [← hS19]; exact nfX.seta rfl
  have h46 : nf S9 = nf S1 := by rw [← hS11]; exact nfX.seta rfl
  have h47 : nf S1 = nf S := by rw [← hS3]; exact nfX.setf rfl
  have h48 : nfa S32 = nfa S25 := by rw [← hS34]; exact nfaX.setf rfl
  have h49 : nfa S25 = nfa S17 := by rw [← hS27]; exact nfaX.seta rfl
  have h50 : nfa S17 = nfa S9 := by rw [← hS19]; exact nfaX.seta rfl
  have h51 : nfa S9 = nfa S1 := by rw [← hS11]; exact nfaX.seta rfl
  have h52 : nfa S1 = nfa S := by rw [← hS3]; exact nfaX.setf rfl
  have h53 := hI33.f tf43_31
  have h54 : S32.f 43 31 = S25.f 43 31 := by rw [← hS34]; exact ysf_ne (by decide)
  have h55 : S25.f 43 31 = S17.f 43 31 := by rw [← hS27]; rfl
  have h56 : S17.f 43 31 = S9.f 43 31 := by rw [← hS19]; rfl
  have h57 : S9.f 43 31 = S1.f 43 31 := by rw [← hS11]; rfl
  have h58 : S1.f 43 31 = S.f 43 31 := by rw [← hS3]; exact ysf_ne (by decide)
  exact lp203_104 h_c h_a h_b h_e  hd _ S32 hI33 hF35 hR36 e37 e38 e39 0 ⟨by omega, by omega⟩ (by first | exact wSC_0 (by omega) | exact wSC_skip q_0 | exact wSC_push q_0 e_MC (by omega) (by omega) (by omega) (show wtop S = _ from by omega) (by subst_vars; rfl) (fun j => by subst_vars; rfl) (fun j => by subst_vars; rfl)) (by omega) (by omega) (by omega) (Int.lt_succ_toNat _)
theorem lp203_47 {G : xk} {d : Nat} {S0 : yS} {c : Int} (h_c : -2147483648 ≤ c ∧ c ≤ 2147483647) {a : Int} (h_a : -2147483648 ≤ a ∧ a ≤ 2147483647) {b : Int} (h_b : -2147483648 ≤ b ∧ b ≤ 2147483647) {e : Int} (h_e : -2147483648 ≤ e ∧ e ≤ 2147483647) (hd : 12 ≤ d + 1) : ∀ (S : yS) (hI : yI S) (hF : yFr [(43, 0), (43, 19), (43, 20), (43, 21), (43, 22), (43, 31), (43, 42), (43, 43), (43, 49), (43, 50), (43, 51), (43, 52), (43, 53)] [60, 61, 62, 63, 64, 65, 66, 67, 68, 71, 72, 73, 74, 75, 76, 77, 78, 79] S0 S) (hR : yRm [] S0 S) (e_CR : CR S) (g0 c0 : Int) (h_g0 : 0 ≤ g0 ∧ g0 ≤ 1) (h_c0 : 0 ≤ c0 ∧ c0 ≤ 1) (q_0 : g0 = 1 → (0 ≤ c ∧ c < S.f 43 1) ∧ (a = -1 ∨ (0 ≤ a ∧ a < S.f 43 1)) ∧ (b = -1 ∨ (0 ≤ b ∧ b < S.f 43 1)) ∧ (e = -1 ∨ (0 ≤ e ∧ e < S.f 43 1)) ∧ (a ≠ -1 ∨ b = -1) ∧ (b ≠ -1 ∨ e = -1)), yT xPr G LY xC203 47 [some ((2, 43)), some (vi c), some (vi a), some (vi b), some (vi e), some (vi g0), none, none, none, none] [vi c0, (2, 43)] S (d + 1) (fun r S' => ∃ z : Int, r = (1, vi z) ∧ 0 ≤ z ∧ z ≤ 6 ∧ CR S' ∧ yI S' ∧ yFr [(43, 0), (43, 19), (43, 20), (43, 21), (43, 22), (43, 31), (43, 42), (43, 43), (43, 49), (43, 50), (43, 51), (43, 52), (43, 53)] [60, 61, 62, 63, 64, 65, 66, 67, 68, 71, 72, 73, 74, 75, 76, 77, 78, 79] S0 S' ∧ yRm [] S0 S') := by
  intro S hI hF hR e_CR g0 c0 h_g0 h_c0 q_0
  have h1 := hI.f tf43_1
  have h2 : S.f 43 1 = S0.f 43 1 := hF.f rfl
  refine r_putI (i := 47) (v := 0) (w := 11) rfl ly43 rfl ⟨by omega, by omega⟩ ?_
  have hI4 := hI.setf (b := 43) (w := 0) (z := c0) tf43_0 rfl (by omega) (by omega)
  have hF6 := hF.setf (b := 43) (w := 0) (z := c0) rfl
  have hR7 := hR.setf (b := 43) (w := 0) (z := c0)
  have e8 := CRx.setf e_CR (b := 43) (w := 0) (z := c0) rfl
  refine yT_gen (fun S3 hS5 => ?_)
  rw [hS5] at hI4 hF6 hR7 e8
  refine r_load (i := 48) (u := 5) (w := 0) rfl rfl rfl ?_
  refine z_ne (i := 49) (v := 52) rfl ⟨by omega, by omega⟩ (fun h9 => ?_) (fun h10 => ?_)
  · refine r_load (i := 52) (u := 0) (w := 2) rfl rfl rfl ?_
    refine r_load (i := 53) (u := 1) (w := 0) rfl rfl rfl ?_
    refine r_load (i := 54) (u := 2) (w := 0) rfl rfl rfl ?_
    refine r_load (i := 55) (u := 3) (w := 0) rfl rfl rfl ?_
    refine r_load (i := 56) (u := 4) (w := 0) rfl rfl rfl ?_
    refine r_call (i := 57) (u := 11) (v := 238) (w := 0) (b := 0) (na := 3077) (C2 := xC238) (as := [(2, 43), vi c, vi a, vi b, vi e]) (s := []) rfl rfl rfl rfl rfl rfl rfl (sp238 (c := c) (a := a) (b := b) (e := e) hI4 ⟨by omega, by omega⟩ ⟨by omega, by omega⟩ ⟨by omega, by omega⟩ ⟨by omega, by omega⟩   (by omega)) (fun r11 S12 hq13 => ?_)
    obtain ⟨z14, rfl, h15, h16, h17, mc18, hI19, hF20, hR21⟩ := hq13
    have hF22 := hF6.trans hF20 rfl rfl
    have hR23 := hR7.trans hR21 rfl
    have e24 := CRx.fr e8 hF20 rfl rfl
    refine Or.inr (Or.inl ⟨rfl, ?_⟩)
    refine r_store (i := 58) (u := 6) (w := 0) (L1 := [some ((2, 43)), some (vi c), some (vi a), some (vi b), some (vi e), some (vi g0), some (vi z14), none, none, none]) rfl rfl rfl rfl ?_
    refine r_load (i := 59) (u := 6) (w := 0) rfl rfl rfl ?_
    refine z_le (i := 60) (v := 63) rfl ⟨by omega, by omega⟩ (fun h25 => ?_) (fun h26 => ?_)
    · have mc7 := mc18 (by omega)
      refine r_load (i := 63) (u := 0) (w := 2) rfl rfl rfl ?_
      refine r_const (i := 64) (u := 1) (z := 1) rfl rfl ?_
      refine r_putZ (i := 65) (v := 19) (w := 11) rfl ly43 rfl (by omega) (by omega) ?_
      have hI28 := hI19.setf (b := 43) (w := 19) (z := 1) tf43_19 rfl (by omega) (by omega)
      have hF30 := hF22.setf (b := 43) (w := 19) (z := 1) rfl
      have hR31 := hR23.setf (b := 43) (w := 19) (z := 1)
      have e32 := CRx.setf e24 (b := 43) (w := 19) (z := 1) rfl
      have e33 := MCx.setf mc7 (b := 43) (w := 19) (z := 1) rfl
      refine yT_gen (fun S27 hS29 => ?_)
      rw [hS29] at hI28 hF30 hR31 e32 e33
      refine r_load (i := 66) (u := 0) (w := 2) rfl rfl rfl ?_
      refine r_load (i := 67) (u := 1) (w := 0) rfl rfl rfl ?_
      refine r_putI (i := 68) (v := 21) (w := 11) rfl ly43 rfl ⟨by omega, by omega⟩ ?_
      have hI35 := hI28.setf (b := 43) (w := 21) (z := c) tf43_21 rfl (by omega) (by omega)
      have hF37 := hF30.setf (b := 43) (w := 21) (z := c) rfl
      have hR38 := hR31.setf (b := 43) (w := 21) (z := c)
      have e39 := CRx.setf e32 (b := 43) (w := 21) (z := c) rfl
      have e40 := MCx.setf e33 (b := 43) (w := 21) (z := c) rfl
      refine yT_gen (fun S34 hS36 => ?_)
      rw [hS36] at hI35 hF37 hR38 e39 e40
      refine r_load (i := 69) (u := 0) (w := 2) rfl rfl rfl ?_
      refine r_load (i := 70) (u := 2) (w := 0) rfl rfl rfl ?_
      refine z_ge (i := 71) (v := 74) rfl ⟨by omega, by omega⟩ (fun h41 => ?_) (fun h42 => ?_)
      · refine r_load (i := 74) (u := 3) (w := 0) rfl rfl rfl ?_
        refine z_ge (i := 75) (v := 78) rfl ⟨by omega, by omega⟩ (fun h43 => ?_) (fun h44 => ?_)
        · refine r_load (i := 78) (u := 4) (w := 0) rfl rfl rfl ?_
          refine z_ge (i := 79) (v := 82) rfl ⟨by omega, by omega⟩ (fun h45 => ?_) (fun h46 => ?_)
          · refine r_const (i := 82) (u := 3) (z := 3) rfl rfl ?_
            refine yT_drop (L1 := [some ((2, 43)), some (vi c), some (vi a), some (vi b), some (vi e), none, none, none, none, none]) rfl ?_
            have h47 : nfa S34 = nfa S27 := by rw [← hS36]; exact nfaX.setf rfl
            have h48 : nfa S27 = nfa S12 := by rw [← hS29]; exact nfaX.setf rfl
            exact lp203_83 h_c h_a h_b h_e  hd S34 hI35 hF37 hR38 e39 e40 3 ⟨by omega, by omega⟩ (by omega) (by omega) (by omega) 
          · refine r_const (i := 80) (u := 2) (z := 2) rfl rfl ?_
            refine r_goto (i := 81) (v := 83) rfl ?_
            refine yT_drop (L1 := [some ((2, 43)), some (vi c), some (vi a), some (vi b), some (vi e), none, none, none, none, none]) rfl ?_
            have h49 : nfa S34 = nfa S27 := by rw [← hS36]; exact nfaX.setf rfl
            have h50 : nfa S27 = nfa S12 := by rw [← hS29]; exact nfaX.setf rfl
            exact lp203_83 h_c h_a h_b h_e  hd S34 hI35 hF37 hR38 e39 e40 2 ⟨by omega, by omega⟩ (by omega) (by omega) (by omega) 
        · refine r_const (i := 76) (u := 1) (z := 1) rfl rfl ?_
          refine r_goto (i := 77) (v := 83) rfl ?_
          refine yT_drop (L1 := [some ((2, 43)), some (vi c), some (vi a), some (vi b), some (vi e), none, none, none, none, none]) rfl ?_
          have h51 : nfa S34 = nfa S27 := by rw [← hS36]; exact nfaX.setf rfl
          have h52 : nfa S27 = nfa S12 := by rw [← hS29]; exact nfaX.setf rfl
          exact lp203_83 h_c h_a h_b h_e  hd S34 hI35 hF37 hR38 e39 e40 1 ⟨by omega, by omega⟩ (by omega) (by omega) (by omega) 
      · refine r_const (i := 72) (u := 0) (z := 0) rfl rfl ?_
        refine r_goto (i := 73) (v := 83) rfl ?_
        refine yT_drop (L1 := [some ((2, 43)), some (vi c), some (vi a), some (vi b), some (vi e), none, none, none, none, none]) rfl ?_
        have h53 : nfa S34 = nfa S27 := by rw [← hS36]; exact nfaX.setf rfl
        have h54 : nfa S27 = nfa S12 := by rw [← hS29]; exact nfaX.setf rfl
        exact lp203_83 h_c h_a h_b h_e  hd S34 hI35 hF37 hR38 e39 e40 0 ⟨by omega, by omega⟩ (by omega) (by omega) (by omega) 
    · refine r_load (i := 61) (u := 6) (w := 0) rfl rfl rfl ?_
      exact r_retI (i := 62) rfl ⟨z14, rfl, by omega, by omega, e24, hI19, hF22, hR23⟩
  · refine r_const (i := 50) (u := 0) (z := 0) rfl rfl ?_
    exact r_retI (i := 51) rfl ⟨0, rfl, by omega, by omega, e8, hI4, hF6, hR7⟩
theorem lp203_40 {G : xk} {d : Nat} {S0 : yS} {c : Int} (h_c : -2147483648 ≤ c ∧ c ≤ 2147483647) {a : Int} (h_a : -2147483648 ≤ a ∧ a ≤ 2147483647) {b : Int} (h_b : -2147483648 ≤ b ∧ b ≤ 2147483647) {e : Int} (h_e : -2147483648 ≤ e ∧ e ≤ 2147483647) (hd : 12 ≤ d + 1) : ∀ (S : yS) (hI : yI S) (hF : yFr [(43, 0), (43, 19), (43, 20), (43, 21), (43, 22), (43, 31), (43, 42), (43, 43), (43, 49), (43, 50), (43, 51), (43, 52), (43, 53)] [60, 61, 62, 63, 64, 65, 66, 67, 68, 71, 72, 73, 74, 75, 76, 77, 78, 79] S0 S) (hR : yRm [] S0 S) (e_CR : CR S) (g0 : Int) (h_g0 : 0 ≤ g0 ∧ g0 ≤ 1) (q_0 : g0 = 1 → (0 ≤ c ∧ c < S.f 43 1) ∧ (a = -1 ∨ (0 ≤ a ∧ a < S.f 43 1)) ∧ (b = -1 ∨ (0 ≤ b ∧ b < S.f 43 1)) ∧ (e = -1 ∨ (0 ≤ e ∧ e < S.f 43 1)) ∧ (a ≠ -1 ∨ b = -1) ∧ (b ≠ -1 ∨ e = -1)), yT xPr G LY xC203 40 [some ((2, 43)), some (vi c), some (vi a), some (vi b), some (vi e), none, none, none, none, none] [vi g0] S (d + 1) (fun r S' => ∃ z : Int, r = (1, vi z) ∧ 0 ≤ z ∧ z ≤ 6 ∧ CR S' ∧ yI S' ∧ yFr [(43, 0), (43, 19), (43, 20), (43, 21), (43, 22), (43, 31), (43, 42), (43, 43), (43, 49), (43, 50), (43, 51), (43, 52), (43, 53)] [60, 61, 62, 63, 64, 65, 66, 67, 68, 71, 72, 73, 74, 75, 76, 77, 78, 79] S0 S' ∧ yRm [] S0 S') := by
  intro S hI hF hR e_CR g0 h_g0 q_0
  have h1 := hI.f tf43_1
  have h2 : S.f 43 1 = S0.f 43 1 := hF.f rfl
  refine r_store (i := 40) (u := 5) (w := 0) (L1 := [some ((2, 43)), some (vi c), some (vi a), some (vi b), some (vi e), some (vi g0), none, none, none, none]) rfl rfl rfl rfl ?_
  refine r_load (i := 41) (u := 0) (w := 2) rfl rfl rfl ?_
  refine r_load (i := 42) (u := 5) (w := 0) rfl rfl rfl ?_
  refine z_eq (i := 43) (v := 46) rfl ⟨by omega, by omega⟩ (fun h3 => ?_) (fun h4 => ?_)
  · refine r_const (i := 46) (u := 1) (z := 1) rfl rfl ?_
    exact lp203_47 h_c h_a h_b h_e  hd S hI hF hR e_CR g0 1 ⟨by omega, by omega⟩ ⟨by omega, by omega⟩ (by omega) 
  · refine r_const (i := 44) (u := 0) (z := 0) rfl rfl ?_
    refine r_goto (i := 45) (v := 47) rfl ?_
    exact lp203_47 h_c h_a h_b h_e  hd S hI hF hR e_CR g0 0 ⟨by omega, by omega⟩ ⟨by omega, by omega⟩ (by omega) 
/-- ProxyForgeModel.forge -/
theorem sp203 {G : xk} {S : yS} {d : Nat} (hI : yI S) {c : Int} (h_c : -2147483648 ≤ c ∧ c ≤ 2147483647) {a : Int} (h_a : -2147483648 ≤ a ∧ a ≤ 2147483647) {b : Int} (h_b : -2147483648 ≤ b ∧ b ≤ 2147483647) {e : Int} (h_e : -2147483648 ≤ e ∧ e ≤ 2147483647) (e_CR : CR S) (hd : 12 ≤ d) : yT xPr G LY xC203 0 [some ((2, 43)), some (vi c), some (vi a), some (vi b), some (vi e)] [] S d (fun r S' => ∃ z : Int, r = (1, vi z) ∧ 0 ≤ z ∧ z ≤ 6 ∧ CR S' ∧ yI S' ∧ yFr [(43, 0), (43, 19), (43, 20), (43, 21), (43, 22), (43, 31), (43, 42), (43, 43), (43, 49), (43, 50), (43, 51), (43, 52), (43, 53)] [60, 61, 62, 63, 64, 65, 66, 67, 68, 71, 72, 73, 74, 75, 76, 77, 78, 79] S S' ∧ yRm [] S S') := by
  refine yT_pad 5 ?_
  show yT xPr G LY xC203 0 [some ((2, 43)), some (vi c), some (vi a), some (vi b), some (vi e), none, none, none, none, none] [] S d _
  obtain ⟨d, rfl⟩ : ∃ q, d = q + 1 := ⟨d - 1, by omega⟩
  have hF : yFr [(43, 0), (43, 19), (43, 20), (43, 21), (43, 22), (43, 31), (43, 42), (43, 43), (43, 49), (43, 50), (43, 51), (43, 52), (43, 53)] [60, 61, 62, 63, 64, 65, 66, 67, 68, 71, 72, 73, 74, 75, 76, 77, 78, 79] S S := yFr.refl S
  have hR : yRm [] S S := yRm.refl S
  refine r_load (i := 0) (u := 0) (w := 2) rfl rfl rfl ?_
  refine r_load (i := 1) (u := 1) (w := 0) rfl rfl rfl ?_
  have h1 := hI.f tf43_1
  refine r_call (i := 2) (u := 11) (v := 213) (w := 0) (b := 0) (na := 514) (C2 := xC213) (as := [(2, 43), vi c]) (s := []) rfl rfl rfl rfl rfl rfl rfl (sp213 (t := c) hI ⟨by omega, by omega⟩   (by omega)) (fun r2 S3 hq4 => ?_)
  obtain ⟨z5, rfl, h6, h7, h8, h9, rfl⟩ := hq4
  refine Or.inr (Or.inl ⟨rfl, ?_⟩)
  refine z_eq (i := 3) (v := 39) rfl ⟨by omega, by omega⟩ (fun h10 => ?_) (fun h11 => ?_)
  · refine r_const (i := 39) (u := 0) (z := 0) rfl rfl ?_
    exact lp203_40 h_c h_a h_b h_e  hd S hI hF hR e_CR 0 ⟨by omega, by omega⟩ (by omega) 
  · refine r_load (i := 4) (u := 2) (w := 0) rfl rfl rfl ?_
    refine r_const (i := 5) (u := 4294967295) (z := -1) rfl rfl ?_
    refine c_eq (i := 6) (v := 11) rfl ⟨by omega, by omega⟩ ⟨by omega, by omega⟩ (fun h12 => ?_) (fun h13 => ?_)
    · refine r_load (i := 11) (u := 3) (w := 0) rfl rfl rfl ?_
      refine r_const (i := 12) (u := 4294967295) (z := -1) rfl rfl ?_
      refine c_eq (i := 13) (v := 18) rfl ⟨by omega, by omega⟩ ⟨by omega, by omega⟩ (fun h14 => ?_) (fun h15 => ?_)
      · refine r_load (i := 18) (u := 4) (w := 0) rfl rfl rfl ?_
        refine r_const (i := 19) (u := 4294967295) (z := -1) rfl rfl ?_
        refine c_eq (i := 20) (v := 25) rfl ⟨by omega, by omega⟩ ⟨by omega, by omega⟩ (fun h16 => ?_) (fun h17 => ?_)
        · refine r_load (i := 25) (u := 2) (w := 0) rfl rfl rfl ?_
          refine r_const (i := 26) (u := 4294967295) (z := -1) rfl rfl ?_
          refine c_ne (i := 27) (v := 31) rfl ⟨by omega, by omega⟩ ⟨by omega, by omega⟩ (fun h18 => absurd h18 (by omega)) (fun h19 => ?_)
          refine r_load (i := 28) (u := 3) (w := 0) rfl rfl rfl ?_
          refine r_const (i := 29) (u := 4294967295) (z := -1) rfl rfl ?_
          refine c_ne (i := 30) (v := 39) rfl ⟨by omega, by omega⟩ ⟨by omega, by omega⟩ (fun h20 => absurd h20 (by omega)) (fun h21 => ?_)
          refine r_load (i := 31) (u := 3) (w := 0) rfl rfl rfl ?_
          refine r_const (i := 32) (u := 4294967295) (z := -1) rfl rfl ?_
          refine c_ne (i := 33) (v := 37) rfl ⟨by omega, by omega⟩ ⟨by omega, by omega⟩ (fun h22 => absurd h22 (by omega)) (fun h23 => ?_)
          refine r_load (i := 34) (u := 4) (w := 0) rfl rfl rfl ?_
          refine r_const (i := 35) (u := 4294967295) (z := -1) rfl rfl ?_
          refine c_ne (i := 36) (v := 39) rfl ⟨by omega, by omega⟩ ⟨by omega, by omega⟩ (fun h24 => absurd h24 (by omega)) (fun h25 => ?_)
          refine r_const (i := 37) (u := 1) (z := 1) rfl rfl ?_
          refine r_goto (i := 38) (v := 40) rfl ?_
          exact lp203_40 h_c h_a h_b h_e  hd S hI hF hR e_CR 1 ⟨by omega, by omega⟩ (by omega) 
        · refine r_load (i := 21) (u := 0) (w := 2) rfl rfl rfl ?_
          refine r_load (i := 22) (u := 4) (w := 0) rfl rfl rfl ?_
          refine r_call (i := 23) (u := 11) (v := 213) (w := 0) (b := 0) (na := 514) (C2 := xC213) (as := [(2, 43), vi e]) (s := []) rfl rfl rfl rfl rfl rfl rfl (sp213 (t := e) hI ⟨by omega, by omega⟩   (by omega)) (fun r26 S27 hq28 => ?_)
          obtain ⟨z29, rfl, h30, h31, h32, h33, rfl⟩ := hq28
          refine Or.inr (Or.inl ⟨rfl, ?_⟩)
          refine z_eq (i := 24) (v := 39) rfl ⟨by omega, by omega⟩ (fun h34 => ?_) (fun h35 => ?_)
          · refine r_const (i := 39) (u := 0) (z := 0) rfl rfl ?_
            exact lp203_40 h_c h_a h_b h_e  hd S hI hF hR e_CR 0 ⟨by omega, by omega⟩ (by omega) 
          · refine r_load (i := 25) (u := 2) (w := 0) rfl rfl rfl ?_
            refine r_const (i := 26) (u := 4294967295) (z := -1) rfl rfl ?_
            refine c_ne (i := 27) (v := 31) rfl ⟨by omega, by omega⟩ ⟨by omega, by omega⟩ (fun h36 => absurd h36 (by omega)) (fun h37 => ?_)
            refine r_load (i := 28) (u := 3) (w := 0) rfl rfl rfl ?_
            refine r_const (i := 29) (u := 4294967295) (z := -1) rfl rfl ?_
            refine c_ne (i := 30) (v := 39) rfl ⟨by omega, by omega⟩ ⟨by omega, by omega⟩ (fun h38 => absurd h38 (by omega)) (fun h39 => ?_)
            refine r_load (i := 31) (u := 3) (w := 0) rfl rfl rfl ?_
            refine r_const (i := 32) (u := 4294967295) (z := -1) rfl rfl ?_
            refine c_ne (i := 33) (v := 37) rfl ⟨by omega, by omega⟩ ⟨by omega, by omega⟩ (fun h40 => absurd h40 (by omega)) (fun h41 => ?_)
            refine r_load (i := 34) (u := 4) (w := 0) rfl rfl rfl ?_
            refine r_const (i := 35) (u := 4294967295) (z := -1) rfl rfl ?_
            refine c_ne (i := 36) (v := 39) rfl ⟨by omega, by omega⟩ ⟨by omega, by omega⟩ (fun h42 => ?_) (fun h43 => absurd h43 (by omega))
            refine r_const (i := 39) (u := 0) (z := 0) rfl rfl ?_
            exact lp203_40 h_c h_a h_b h_e  hd S hI hF hR e_CR 0 ⟨by omega, by omega⟩ (by omega) 
      · refine r_load (i := 14) (u := 0) (w := 2) rfl rfl rfl ?_
        refine r_load (i := 15) (u := 3) (w := 0) rfl rfl rfl ?_
        refine r_call (i := 16) (u := 11) (v := 213) (w := 0) (b := 0) (na := 514) (C2 := xC213) (as := [(2, 43), vi b]) (s := []) rfl rfl rfl rfl rfl rfl rfl (sp213 (t := b) hI ⟨by omega, by omega⟩   (by omega)) (fun r44 S45 hq46 => ?_)
        obtain ⟨z47, rfl, h48, h49, h50, h51, rfl⟩ := hq46
        refine Or.inr (Or.inl ⟨rfl, ?_⟩)
        refine z_eq (i := 17) (v := 39) rfl ⟨by omega, by omega⟩ (fun h52 => ?_) (fun h53 => ?_)
        · refine r_const (i := 39) (u := 0) (z := 0) rfl rfl ?_
          exact lp203_40 h_c h_a h_b h_e  hd S hI hF hR e_CR 0 ⟨by omega, by omega⟩ (by omega) 
        · refine r_load (i := 18) (u := 4) (w := 0) rfl rfl rfl ?_
          refine r_const (i := 19) (u := 4294967295) (z := -1) rfl rfl ?_
          refine c_eq (i := 20) (v := 25) rfl ⟨by omega, by omega⟩ ⟨by omega, by omega⟩ (fun h54 => ?_) (fun h55 => ?_)
          · refine r_load (i := 25) (u := 2) (w := 0) rfl rfl rfl ?_
            refine r_const (i := 26) (u := 4294967295) (z := -1) rfl rfl ?_
            refine c_ne (i := 27) (v := 31) rfl ⟨by omega, by omega⟩ ⟨by omega, by omega⟩ (fun h56 => absurd h56 (by omega)) (fun h57 => ?_)
            refine r_load (i := 28) (u := 3) (w := 0) rfl rfl rfl ?_
            refine r_const (i := 29) (u := 4294967295) (z := -1) rfl rfl ?_
            refine c_ne (i := 30) (v := 39) rfl ⟨by omega, by omega⟩ ⟨by omega, by omega⟩ (fun h58 => ?_) (fun h59 => absurd h59 (by omega))
            refine r_const (i := 39) (u := 0) (z := 0) rfl rfl ?_
            exact lp203_40 h_c h_a h_b h_e  hd S hI hF hR e_CR 0 ⟨by omega, by omega⟩ (by omega) 
          · refine r_load (i := 21) (u := 0) (w := 2) rfl rfl rfl ?_
            refine r_load (i := 22) (u := 4) (w := 0) rfl rfl rfl ?_
            refine r_call (i := 23) (u := 11) (v := 213) (w := 0) (b := 0) (na := 514) (C2 := xC213) (as := [(2, 43), vi e]) (s := []) rfl rfl rfl rfl rfl rfl rfl (sp213 (t := e) hI ⟨by omega, by omega⟩   (by omega)) (fun r60 S61 hq62 => ?_)
            obtain ⟨z63, rfl, h64, h65, h66, h67, rfl⟩ := hq62
            refine Or.inr (Or.inl ⟨rfl, ?_⟩)
            refine z_eq (i := 24) (v := 39) rfl ⟨by omega, by omega⟩ (fun h68 => ?_) (fun h69 => ?_)
            · refine r_const (i := 39) (u := 0) (z := 0) rfl rfl ?_
              exact lp203_40 h_c h_a h_b h_e  hd S hI hF hR e_CR 0 ⟨by omega, by omega⟩ (by omega) 
            · refine r_load (i := 25) (u := 2) (w := 0) rfl rfl rfl ?_
              refine r_const (i := 26) (u := 4294967295) (z := -1) rfl rfl ?_
              refine c_ne (i := 27) (v := 31) rfl ⟨by omega, by omega⟩ ⟨by omega, by omega⟩ (fun h70 => absurd h70 (by omega)) (fun h71 => ?_)
              refine r_load (i := 28) (u := 3) (w := 0) rfl rfl rfl ?_
              refine r_const (i := 29) (u := 4294967295) (z := -1) rfl rfl ?_
              refine c_ne (i := 30) (v := 39) rfl ⟨by omega, by omega⟩ ⟨by omega, by omega⟩ (fun h72 => ?_) (fun h73 => absurd h73 (by omega))
              refine r_const (i := 39) (u := 0) (z := 0) rfl rfl ?_
              exact lp203_40 h_c h_a h_b h_e  hd S hI hF hR e_CR 0 ⟨by omega, by omega⟩ (by omega) 
    · refine r_load (i := 7) (u := 0) (w := 2) rfl rfl rfl ?_
      refine r_load (i := 8) (u := 2) (w := 0) rfl rfl rfl ?_
      refine r_call (i := 9) (u := 11) (v := 213) (w := 0) (b := 0) (na := 514) (C2 := xC213) (as := [(2, 43), vi a]) (s := []) rfl rfl rfl rfl rfl rfl rfl (sp213 (t := a) hI ⟨by omega, by omega⟩   (by omega)) (fun r74 S75 hq76 => ?_)
      obtain ⟨z77, rfl, h78, h79, h80, h81, rfl⟩ := hq76
      refine Or.inr (Or.inl ⟨rfl, ?_⟩)
      refine z_eq (i := 10) (v := 39) rfl ⟨by omega, by omega⟩ (fun h82 => ?_) (fun h83 => ?_)
      · refine r_const (i := 39) (u := 0) (z := 0) rfl rfl ?_
        exact lp203_40 h_c h_a h_b h_e  hd S hI hF hR e_CR 0 ⟨by omega, by omega⟩ (by omega) 
      · refine r_load (i := 11) (u := 3) (w := 0) rfl rfl rfl ?_
        refine r_const (i := 12) (u := 4294967295) (z := -1) rfl rfl ?_
        refine c_eq (i := 13) (v := 18) rfl ⟨by omega, by omega⟩ ⟨by omega, by omega⟩ (fun h84 => ?_) (fun h85 => ?_)
        · refine r_load (i := 18) (u := 4) (w := 0) rfl rfl rfl ?_
          refine r_const (i := 19) (u := 4294967295) (z := -1) rfl rfl ?_
          refine c_eq (i := 20) (v := 25) rfl ⟨by omega, by omega⟩ ⟨by omega, by omega⟩ (fun h86 => ?_) (fun h87 => ?_)
          · refine r_load (i := 25) (u := 2) (w := 0) rfl rfl rfl ?_
            refine r_const (i := 26) (u := 4294967295) (z := -1) rfl rfl ?_
            refine c_ne (i := 27) (v := 31) rfl ⟨by omega, by omega⟩ ⟨by omega, by omega⟩ (fun h88 => ?_) (fun h89 => absurd h89 (by omega))
            refine r_load (i := 31) (u := 3) (w := 0) rfl rfl rfl ?_
            refine r_const (i := 32) (u := 4294967295) (z := -1) rfl rfl ?_
            refine c_ne (i := 33) (v := 37) rfl ⟨by omega, by omega⟩ ⟨by omega, by omega⟩ (fun h90 => absurd h90 (by omega)) (fun h91 => ?_)
            refine r_load (i := 34) (u := 4) (w := 0) rfl rfl rfl ?_
            refine r_const (i := 35) (u := 4294967295) (z := -1) rfl rfl ?_
            refine c_ne (i := 36) (v := 39) rfl ⟨by omega, by omega⟩ ⟨by omega, by omega⟩ (fun h92 => absurd h92 (by omega)) (fun h93 => ?_)
            refine r_const (i := 37) (u := 1) (z := 1) rfl rfl ?_
            refine r_goto (i := 38) (v := 40) rfl ?_
            exact lp203_40 h_c h_a h_b h_e  hd S hI hF hR e_CR 1 ⟨by omega, by omega⟩ (by omega) 
          · refine r_load (i := 21) (u := 0) (w := 2) rfl rfl rfl ?_
            refine r_load (i := 22) (u := 4) (w := 0) rfl rfl rfl ?_
            refine r_call (i := 23) (u := 11) (v := 213) (w := 0) (b := 0) (na := 514) (C2 := xC213) (as := [(2, 43), vi e]) (s := []) rfl rfl rfl rfl rfl rfl rfl (sp213 (t := e) hI ⟨by omega, by omega⟩   (by omega)) (fun r94 S95 hq96 => ?_)
            obtain ⟨z97, rfl, h98, h99, h100, h101, rfl⟩ := hq96
            refine Or.inr (Or.inl ⟨rfl, ?_⟩)
            refine z_eq (i := 24) (v := 39) rfl ⟨by omega, by omega⟩ (fun h102 => ?_) (fun h103 => ?_)
            · refine r_const (i := 39) (u := 0) (z := 0) rfl rfl ?_
              exact lp203_40 h_c h_a h_b h_e  hd S hI hF hR e_CR 0 ⟨by omega, by omega⟩ (by omega) 
            · refine r_load (i := 25) (u := 2) (w := 0) rfl rfl rfl ?_
              refine r_const (i := 26) (u := 4294967295) (z := -1) rfl rfl ?_
              refine c_ne (i := 27) (v := 31) rfl ⟨by omega, by omega⟩ ⟨by omega, by omega⟩ (fun h104 => ?_) (fun h105 => absurd h105 (by omega))
              refine r_load (i := 31) (u := 3) (w := 0) rfl rfl rfl ?_
              refine r_const (i := 32) (u := 4294967295) (z := -1) rfl rfl ?_
              refine c_ne (i := 33) (v := 37) rfl ⟨by omega, by omega⟩ ⟨by omega, by omega⟩ (fun h106 => absurd h106 (by omega)) (fun h107 => ?_)
              refine r_load (i := 34) (u := 4) (w := 0) rfl rfl rfl ?_
              refine r_const (i := 35) (u := 4294967295) (z := -1) rfl rfl ?_
              refine c_ne (i := 36) (v := 39) rfl ⟨by omega, by omega⟩ ⟨by omega, by omega⟩ (fun h108 => ?_) (fun h109 => absurd h109 (by omega))
              refine r_const (i := 39) (u := 0) (z := 0) rfl rfl ?_
              exact lp203_40 h_c h_a h_b h_e  hd S hI hF hR e_CR 0 ⟨by omega, by omega⟩ (by omega) 
        · refine r_load (i := 14) (u := 0) (w := 2) rfl rfl rfl ?_
          refine r_load (i := 15) (u := 3) (w := 0) rfl rfl rfl ?_
          refine r_call (i := 16) (u := 11) (v := 213) (w := 0) (b := 0) (na := 514) (C2 := xC213) (as := [(2, 43), vi b]) (s := []) rfl rfl rfl rfl rfl rfl rfl (sp213 (t := b) hI ⟨by omega, by omega⟩   (by omega)) (fun r110 S111 hq112 => ?_)
          obtain ⟨z113, rfl, h114, h115, h116, h117, rfl⟩ := hq112
          refine Or.inr (Or.inl ⟨rfl, ?_⟩)
          refine z_eq (i := 17) (v := 39) rfl ⟨by omega, by omega⟩ (fun h118 => ?_) (fun h119 => ?_)
          · refine r_const (i := 39) (u := 0) (z := 0) rfl rfl ?_
            exact lp203_40 h_c h_a h_b h_e  hd S hI hF hR e_CR 0 ⟨by omega, by omega⟩ (by omega) 
          · refine r_load (i := 18) (u := 4) (w := 0) rfl rfl rfl ?_
            refine r_const (i := 19) (u := 4294967295) (z := -1) rfl rfl ?_
            refine c_eq (i := 20) (v := 25) rfl ⟨by omega, by omega⟩ ⟨by omega, by omega⟩ (fun h120 => ?_) (fun h121 => ?_)
            · refine r_load (i := 25) (u := 2) (w := 0) rfl rfl rfl ?_
              refine r_const (i := 26) (u := 4294967295) (z := -1) rfl rfl ?_
              refine c_ne (i := 27) (v := 31) rfl ⟨by omega, by omega⟩ ⟨by omega, by omega⟩ (fun h122 => ?_) (fun h123 => absurd h123 (by omega))
              refine r_load (i := 31) (u := 3) (w := 0) rfl rfl rfl ?_
              refine r_const (i := 32) (u := 4294967295) (z := -1) rfl rfl ?_
              refine c_ne (i := 33) (v := 37) rfl ⟨by omega, by omega⟩ ⟨by omega, by omega⟩ (fun h124 => ?_) (fun h125 => absurd h125 (by omega))
              refine r_const (i := 37) (u := 1) (z := 1) rfl rfl ?_
              refine r_goto (i := 38) (v := 40) rfl ?_
              exact lp203_40 h_c h_a h_b h_e  hd S hI hF hR e_CR 1 ⟨by omega, by omega⟩ (by omega) 
            · refine r_load (i := 21) (u := 0) (w := 2) rfl rfl rfl ?_
              refine r_load (i := 22) (u := 4) (w := 0) rfl rfl rfl ?_
              refine r_call (i := 23) (u := 11) (v := 213) (w := 0) (b := 0) (na := 514) (C2 := xC213) (as := [(2, 43), vi e]) (s := []) rfl rfl rfl rfl rfl rfl rfl (sp213 (t := e) hI ⟨by omega, by omega⟩   (by omega)) (fun r126 S127 hq128 => ?_)
              obtain ⟨z129, rfl, h130, h131, h132, h133, rfl⟩ := hq128
              refine Or.inr (Or.inl ⟨rfl, ?_⟩)
              refine z_eq (i := 24) (v := 39) rfl ⟨by omega, by omega⟩ (fun h134 => ?_) (fun h135 => ?_)
              · refine r_const (i := 39) (u := 0) (z := 0) rfl rfl ?_
                exact lp203_40 h_c h_a h_b h_e  hd S hI hF hR e_CR 0 ⟨by omega, by omega⟩ (by omega) 
              · refine r_load (i := 25) (u := 2) (w := 0) rfl rfl rfl ?_
                refine r_const (i := 26) (u := 4294967295) (z := -1) rfl rfl ?_
                refine c_ne (i := 27) (v := 31) rfl ⟨by omega, by omega⟩ ⟨by omega, by omega⟩ (fun h136 => ?_) (fun h137 => absurd h137 (by omega))
                refine r_load (i := 31) (u := 3) (w := 0) rfl rfl rfl ?_
                refine r_const (i := 32) (u := 4294967295) (z := -1) rfl rfl ?_
                refine c_ne (i := 33) (v := 37) rfl ⟨by omega, by omega⟩ ⟨by omega, by omega⟩ (fun h138 => ?_) (fun h139 => absurd h139 (by omega))
                refine r_const (i := 37) (u := 1) (z := 1) rfl rfl ?_
                refine r_goto (i := 38) (v := 40) rfl ?_
                exact lp203_40 h_c h_a h_b h_e  hd S hI hF hR e_CR 1 ⟨by omega, by omega⟩ (by omega) 
end XNC
