set_option linter.unusedVariables false
set_option maxRecDepth 4000
noncomputable section XNC
theorem lp96_62 {G : xk} {d : Nat} {S0 : yS} {st0 : Int} (h_st0 : 0 ≤ st0 ∧ st0 ≤ 60000) (p_0 : 0 ≤ st0 ∧ st0 + 3 ≤ S0.f 31 1 ∧ S0.f 31 1 ≤ 60000) (p_1 : PLat S0 st0) (hd : 4 ≤ d + 1) : ∀ (n : Nat), ∀ (S : yS) (hI : yI S) (hF : yFr [(31, 1), (36, 5)] [37, 100, 102, 103, 105] S0 S) (hR : yRm [2, 3] S0 S) (bk en lf : Int) (h_bk : 0 ≤ bk ∧ bk ≤ 63) (h_en : 0 ≤ en ∧ en ≤ 200000) (h_lf : 0 ≤ lf ∧ lf ≤ 200000) (q_0 : 0 ≤ st0 ∧ st0 + 3 ≤ S.f 31 1 ∧ S.f 31 1 ≤ 60000) (q_1 : PLat S st0) (q_2 : S.f 31 1 = S0.f 31 1) (q_3 : en ≤ S.f 36 5) (q_4 : s62 S0 S st0 bk en lf) (hn : lf < (n : Nat)), yT xPr G LY xC96 62 [some ((2, 36)), some (vi st0), none, some (vi bk), some (vi en), some (vi lf)] [] S (d + 1) (fun r S' => ∃ z : Int, r = (1, vi z) ∧ 0 ≤ z ∧ z ≤ 20001 ∧ (st0 ≤ S'.f 31 1 ∧ S'.f 31 1 ≤ S0.f 31 1) ∧ stQ S0 S' st0 z ∧ PL S' ∧ yI S' ∧ yFr [(31, 1), (36, 5)] [37, 100, 102, 103, 105] S0 S' ∧ yRm [2, 3] S0 S') := by
  intro n
  induction n with
  | zero => intro S hI hF hR bk en lf h_bk h_en h_lf q_0 q_1 q_2 q_3 q_4 hn; exact absurd hn (by omega)
  | succ n ih =>
    intro S hI hF hR bk en lf h_bk h_en h_lf q_0 q_1 q_2 q_3 q_4 hn
    have h1 := hI.b0
    refine r_load (i := 62) (u := 5) (w := 0) rfl rfl rfl ?_
    refine z_le (i := 63) (v := 88) rfl ⟨by omega, by omega⟩ (fun h2 => ?_) (fun h3 => ?_)
    · have pm9 := (q_1).1.2.2.2
      have pn9 := (q_1).n
      have pa9 := (q_1).2
      refine r_load (i := 88) (u := 0) (w := 2) rfl rfl rfl ?_
      refine r_dup (i := 89) rfl rfl ?_
      refine r_getf (i := 90) (v := 5) (w := 9) (x := vi (S.f 36 5)) rfl ly36 rfl rfl fun h4 => ?_
      have h4 : Rg (S.f 36 5) := h4
      refine r_const (i := 91) (u := 1) (z := 1) rfl rfl ?_
      refine r_iadd (i := 92) rfl ?_
      refine r_putI (i := 93) (v := 5) (w := 9) rfl ly36 rfl ⟨by omega, by omega⟩ ?_
      have hI6 := hI.setf0 (b := 36) (w := 5) (z := (S.f 36 5) + 1) rfl rfl
      have hF8 := hF.setf (b := 36) (w := 5) (z := (S.f 36 5) + 1) rfl
      have hR9 := hR.setf (b := 36) (w := 5) (z := (S.f 36 5) + 1)
      have e10 := PAx.setf pa9 (b := 36) (w := 5) (z := (S.f 36 5) + 1) rfl
      refine yT_gen (fun S5 hS7 => ?_)
      rw [hS7] at hI6 hF8 hR9 e10
      refine r_load (i := 94) (u := 0) (w := 2) rfl rfl rfl ?_
      have h11 : S5.f 36 5 = (S.f 36 5) + 1 := by rw [← hS7]; exact ysf_eq
      refine r_getf (i := 95) (v := 5) (w := 9) (x := vi (S5.f 36 5)) rfl ly36 rfl rfl fun h12 => ?_
      have h12 : Rg (S5.f 36 5) := h12
      refine r_load (i := 96) (u := 0) (w := 2) rfl rfl rfl ?_
      refine r_getf (i := 97) (v := 4) (w := 9) (x := (2, S5.p 3)) rfl ly36 rfl rfl fun _ => ?_
      have h14 := hI6.bn
      have h15 := hI6.br
      have h16 : S5.n = S.n := by rw [← hS7]; rfl
      have h17 : S5.n 0 = S.n 0 := congrFun h16 0
      have h18 : S5.n 1 = S.n 1 := congrFun h16 1
      have h19 : S5.n 2 = S.n 2 := congrFun h16 2
      have h20 : S5.n 3 = S.n 3 := congrFun h16 3
      have h21 : S5.n 4 = S.n 4 := congrFun h16 4
      have h22 : S.n 0 = S0.n 0 := hR.eq rfl rfl
      have h23 : S.n 1 = S0.n 1 := hR.eq rfl rfl
      have h24 : S0.n 2 ≤ S.n 2 := hR.n 2 (by decide)
      have h25 : S0.n 3 ≤ S.n 3 := hR.n 3 (by decide)
      have h26 : S.n 4 = S0.n 4 := hR.eq rfl rfl
      refine g_len (i := 98) (k := 3) rfl rfl (Or.inl (by decide)) (by first | exact Or.inl rfl | exact Or.inr rfl) fun h27 => ?_
      refine c_lt (i := 99) (v := 118) rfl ⟨by omega, by omega⟩ ⟨by omega, by omega⟩ (fun h28 => ?_) (fun h29 => ?_)
      · have pa5 := e10
        have pb5 := (e10).1 bk.toNat (by omega)
        refine r_load (i := 118) (u := 0) (w := 2) rfl rfl rfl ?_
        refine r_getf (i := 119) (v := 4) (w := 9) (x := (2, S5.p 3)) rfl ly36 rfl rfl fun _ => ?_
        refine r_load (i := 120) (u := 0) (w := 2) rfl rfl rfl ?_
        refine r_getf (i := 121) (v := 5) (w := 9) (x := vi (S5.f 36 5)) rfl ly36 rfl rfl fun h31 => ?_
        have h31 : Rg (S5.f 36 5) := h31
        refine r_load (i := 122) (u := 1) (w := 0) rfl rfl rfl ?_
        refine g_istore (i := 123) (k := 3) rfl (Or.inl (by decide)) rfl (by omega) (by omega) ⟨by omega, by omega⟩ ?_
        have hI33 := hI6.setg (b := 103) (j := (S5.f 36 5).toNat) (z := st0) rfl rfl
        have hF35 := hF8.seta (b := 103) (j := (S5.f 36 5).toNat) (z := st0) rfl
        have hR36 := hR9.seta (b := 103) (j := (S5.f 36 5).toNat) (z := st0)
        refine yT_gen (fun S32 hS34 => ?_)
        rw [hS34] at hI33 hF35 hR36 
        refine r_load (i := 124) (u := 0) (w := 2) rfl rfl rfl ?_
        refine r_getf (i := 125) (v := 3) (w := 9) (x := (2, S32.p 2)) rfl ly36 rfl rfl fun _ => ?_
        refine r_load (i := 126) (u := 0) (w := 2) rfl rfl rfl ?_
        have h38 : S32.f 36 5 = S5.f 36 5 := by rw [← hS34]; rfl
        have h39 : S5.f 36 5 = (S.f 36 5) + 1 := by rw [← hS7]; exact ysf_eq
        refine r_getf (i := 127) (v := 5) (w := 9) (x := vi (S32.f 36 5)) rfl ly36 rfl rfl fun h40 => ?_
        have h40 : Rg (S32.f 36 5) := h40
        refine r_load (i := 128) (u := 0) (w := 2) rfl rfl rfl ?_
        refine r_getf (i := 129) (v := 2) (w := 9) (x := (2, 37)) rfl ly36 rfl rfl fun _ => ?_
        refine r_load (i := 130) (u := 3) (w := 0) rfl rfl rfl ?_
        refine a_int (i := 131) rfl ly37 rfl (by omega) (by omega) fun h42 => ?_
        have h43 : S32.a 37 bk.toNat = S5.a 37 bk.toNat := by rw [← hS34]; rfl
        have h44 : S5.a 37 bk.toNat = S.a 37 bk.toNat := by rw [← hS7]; rfl
        have h45 := hI33.bn
        have h46 := hI33.br
        have h47 : S32.n = S5.n := by rw [← hS34]; rfl
        have h48 : S32.n 0 = S5.n 0 := congrFun h47 0
        have h49 : S32.n 1 = S5.n 1 := congrFun h47 1
        have h50 : S32.n 2 = S5.n 2 := congrFun h47 2
        have h51 : S32.n 3 = S5.n 3 := congrFun h47 3
        have h52 : S32.n 4 = S5.n 4 := congrFun h47 4
        have h53 : S5.n = S.n := by rw [← hS7]; rfl
        have h54 : S5.n 0 = S.n 0 := congrFun h53 0
        have h55 : S5.n 1 = S.n 1 := congrFun h53 1
        have h56 : S5.n 2 = S.n 2 := congrFun h53 2
        have h57 : S5.n 3 = S.n 3 := congrFun h53 3
        have h58 : S5.n 4 = S.n 4 := congrFun h53 4
        have h59 : S.n 0 = S0.n 0 := hR.eq rfl rfl
        have h60 : S.n 1 = S0.n 1 := hR.eq rfl rfl
        have h61 : S0.n 2 ≤ S.n 2 := hR.n 2 (by decide)
        have h62 : S0.n 3 ≤ S.n 3 := hR.n 3 (by decide)
        have h63 : S.n 4 = S0.n 4 := hR.eq rfl rfl
        refine g_istore (i := 132) (k := 2) rfl (Or.inl (by decide)) rfl (by omega) (by omega) ⟨by omega, by omega⟩ ?_
        have hI65 := hI33.setg (b := 102) (j := (S32.f 36 5).toNat) (z := S32.a 37 bk.toNat) rfl rfl
        have hF67 := hF35.seta (b := 102) (j := (S32.f 36 5).toNat) (z := S32.a 37 bk.toNat) rfl
        have hR68 := hR36.seta (b := 102) (j := (S32.f 36 5).toNat) (z := S32.a 37 bk.toNat)
        refine yT_gen (fun S64 hS66 => ?_)
        rw [hS66] at hI65 hF67 hR68 
        refine r_load (i := 133) (u := 0) (w := 2) rfl rfl rfl ?_
        refine r_getf (i := 134) (v := 2) (w := 9) (x := (2, 37)) rfl ly36 rfl rfl fun _ => ?_
        refine r_load (i := 135) (u := 3) (w := 0) rfl rfl rfl ?_
        refine r_load (i := 136) (u := 0) (w := 2) rfl rfl rfl ?_
        have h70 : S64.f 36 5 = S32.f 36 5 := by rw [← hS66]; rfl
        have h71 : S32.f 36 5 = S5.f 36 5 := by rw [← hS34]; rfl
        have h72 : S5.f 36 5 = (S.f 36 5) + 1 := by rw [← hS7]; exact ysf_eq
        refine r_getf (i := 137) (v := 5) (w := 9) (x := vi (S64.f 36 5)) rfl ly36 rfl rfl fun h73 => ?_
        have h73 : Rg (S64.f 36 5) := h73
        refine s_int (i := 138) rfl ly37 rfl (by omega) (by omega) ⟨by omega, by omega⟩ ?_
        have hI75 := hI65.seta0 (b := 37) (j := bk.toNat) (z := S64.f 36 5) rfl rfl
        have hF77 := hF67.seta (b := 37) (j := bk.toNat) (z := S64.f 36 5) rfl
        have hR78 := hR68.seta (b := 37) (j := bk.toNat) (z := S64.f 36 5)
        refine yT_gen (fun S74 hS76 => ?_)
        rw [hS76] at hI75 hF77 hR78 
        refine r_load (i := 139) (u := 0) (w := 2) rfl rfl rfl ?_
        have h79 : S74.f 36 5 = S64.f 36 5 := by rw [← hS76]; rfl
        have h80 : S64.f 36 5 = S32.f 36 5 := by rw [← hS66]; rfl
        have h81 : S32.f 36 5 = S5.f 36 5 := by rw [← hS34]; rfl
        have h82 : S5.f 36 5 = (S.f 36 5) + 1 := by rw [← hS7]; exact ysf_eq
        refine r_getf (i := 140) (v := 5) (w := 9) (x := vi (S74.f 36 5)) rfl ly36 rfl rfl fun h83 => ?_
        have h83 : Rg (S74.f 36 5) := h83
        have h84 := hI75.b0
        have h85 : S74.f 31 1 = S64.f 31 1 := by rw [← hS76]; rfl
        have h86 : S64.f 31 1 = S32.f 31 1 := by rw [← hS66]; rfl
        have h87 : S32.f 31 1 = S5.f 31 1 := by rw [← hS34]; rfl
        have h88 : S5.f 31 1 = S.f 31 1 := by rw [← hS7]; exact ysf_ne (by decide)
        have h89 := hI75.bn
        have h90 := hI75.br
        have h91 : S74.n = S64.n := by rw [← hS76]; rfl
        have h92 : S74.n 0 = S64.n 0 := congrFun h91 0
        have h93 : S74.n 1 = S64.n 1 := congrFun h91 1
        have h94 : S74.n 2 = S64.n 2 := congrFun h91 2
        have h95 : S74.n 3 = S64.n 3 := congrFun h91 3
        have h96 : S74.n 4 = S64.n 4 := congrFun h91 4
        have h97 : S64.n = S32.n := by rw [← hS66]; rfl
        have h98 : S64.n 0 = S32.n 0 := congrFun h97 0
        have h99 : S64.n 1 = S32.n 1 := congrFun h97 1
        have h100 : S64.n 2 = S32.n 2 := congrFun h97 2
        have h101 : S64.n 3 = S32.n 3 := congrFun h97 3
        have h102 : S64.n 4 = S32.n 4 := congrFun h97 4
        have h103 : S32.n = S5.n := by rw [← hS34]; rfl
        have h104 : S32.n 0 = S5.n 0 := congrFun h103 0
        have h105 : S32.n 1 = S5.n 1 := congrFun h103 1
        have h106 : S32.n 2 = S5.n 2 := congrFun h103 2
        have h107 : S32.n 3 = S5.n 3 := congrFun h103 3
        have h108 : S32.n 4 = S5.n 4 := congrFun h103 4
        have h109 : S5.n = S.n := by rw [← hS7]; rfl
        have h110 : S5.n 0 = S.n 0 := congrFun h109 0
        have h111 : S5.n 1 = S.n 1 := congrFun h109 1
        have h112 : S5.n 2 = S.n 2 := congrFun h109 2
        have h113 : S5.n 3 = S.n 3 := congrFun h109 3
        have h114 : S5.n 4 = S.n 4 := congrFun h109 4
        have h115 : S.n 0 = S0.n 0 := hR.eq rfl rfl
        have h116 : S.n 1 = S0.n 1 := hR.eq rfl rfl
        have h117 : S0.n 2 ≤ S.n 2 := hR.n 2 (by decide)
        have h118 : S0.n 3 ≤ S.n 3 := hR.n 3 (by decide)
        have h119 : S.n 4 = S0.n 4 := hR.eq rfl rfl
        exact r_retI (i := 141) rfl ⟨S74.f 36 5, rfl, by omega, by omega, (by omega), (by exact s62_new q_4 (by omega) (by omega) (by omega) (by omega) (fun j hj => ((((show S74.a 100 j = S64.a 100 j by rw [← hS76]; rfl).trans (show S64.a 100 j = S32.a 100 j by rw [← hS66]; rfl)).trans (show S32.a 100 j = S5.a 100 j by rw [← hS34]; rfl)).trans (show S5.a 100 j = S.a 100 j by rw [← hS7]; rfl))) (fun j hj => ((((show S74.a 103 j = S64.a 103 j by rw [← hS76]; rfl).trans (show S64.a 103 j = S32.a 103 j by rw [← hS66]; rfl)).trans (show S32.a 103 j = S5.a 103 j by rw [← hS34]; exact ysa_ne (Or.inr (by omega)))).trans (show S5.a 103 j = S.a 103 j by rw [← hS7]; rfl))) ((congrArg (S74.a 103) (show (S.f 36 5 + 1).toNat = (S5.f 36 5).toNat by omega)).trans (((show S74.a 103 ((S5.f 36 5).toNat) = S64.a 103 ((S5.f 36 5).toNat) by rw [← hS76]; rfl).trans ((show S64.a 103 ((S5.f 36 5).toNat) = S32.a 103 ((S5.f 36 5).toNat) by rw [← hS66]; rfl).trans (show S32.a 103 ((S5.f 36 5).toNat) = st0 by rw [← hS34]; exact ysa_eq))).trans (by omega))) (fun j hj => ((((show S74.a 102 j = S64.a 102 j by rw [← hS76]; rfl).trans (show S64.a 102 j = S32.a 102 j by rw [← hS66]; exact ysa_ne (Or.inr (by omega)))).trans (show S32.a 102 j = S5.a 102 j by rw [← hS34]; rfl)).trans (show S5.a 102 j = S.a 102 j by rw [← hS7]; rfl))) ((congrArg (S74.a 102) (show (S.f 36 5 + 1).toNat = (S32.f 36 5).toNat by omega)).trans (((show S74.a 102 ((S32.f 36 5).toNat) = S64.a 102 ((S32.f 36 5).toNat) by rw [← hS76]; rfl).trans (show S64.a 102 ((S32.f 36 5).toNat) = S32.a 37 bk.toNat by rw [← hS66]; exact ysa_eq)).trans (by omega))) (a37_of hS76 (by omega) (fun j => (((show S64.a 37 j = S32.a 37 j by rw [← hS66]; rfl).trans (show S32.a 37 j = S5.a 37 j by rw [← hS34]; rfl)).trans (show S5.a 37 j = S.a 37 j by rw [← hS7]; rfl))))), (by exact PL_push (i1 := (S5.f 36 5).toNat) (i2 := (S32.f 36 5).toNat) (x := S32.a 37 bk.toNat) (q := bk.toNat) (v := S64.f 36 5) pa5 (by omega) (by omega) (by omega) (by omega) (by omega) (by omega) (fun b j => by subst_vars; rfl) (by omega) (by omega) (by omega) (by omega)), hI75, hF77, hR78⟩
      · refine r_load (i := 100) (u := 0) (w := 2) rfl rfl rfl ?_
        refine r_load (i := 101) (u := 0) (w := 2) rfl rfl rfl ?_
        refine r_getf (i := 102) (v := 3) (w := 9) (x := (2, S5.p 2)) rfl ly36 rfl rfl fun _ => ?_
        refine r_const (i := 103) (u := 2) (z := 2) rfl rfl ?_
        refine r_load (i := 104) (u := 0) (w := 2) rfl rfl rfl ?_
        refine r_getf (i := 105) (v := 5) (w := 9) (x := vi (S5.f 36 5)) rfl ly36 rfl rfl fun h121 => ?_
        have h121 : Rg (S5.f 36 5) := h121
        refine r_imul (i := 106) rfl ?_
        refine r_grow10 (i := 107) (k := 2) (b := 36) (v := 3) (w := 9) hI6 rfl rfl rfl rfl ly36 rfl rfl (by decide) rfl (by omega) (by omega) (by omega) (by omega) (by omega) (fun S122 hG123 => ?_)
        have h127 := hG123.n 0 (by decide) (by decide)
        have h128 := hG123.n 1 (by decide) (by decide)
        have h129 := hG123.n1
        have h130 := hG123.n 3 (by decide) (by decide)
        have h131 := hG123.n 4 (by decide) (by decide)
        have hI124 := hI6.grow (by decide) hG123 ⟨by omega, by omega, by omega, by omega⟩ (by omega) (by omega) (by omega)
        have hF125 := hF8.grow hG123 rfl rfl
        have hR126 := hR9.grow hG123 (by decide) rfl (by omega) (by omega)
        have e132 := PAx.grow e10 hG123 (by omega) (by omega)
        refine r_load (i := 109) (u := 0) (w := 2) rfl rfl rfl ?_
        refine r_load (i := 110) (u := 0) (w := 2) rfl rfl rfl ?_
        refine r_getf (i := 111) (v := 4) (w := 9) (x := (2, S122.p 3)) rfl ly36 rfl rfl fun _ => ?_
        refine r_const (i := 112) (u := 2) (z := 2) rfl rfl ?_
        refine r_load (i := 113) (u := 0) (w := 2) rfl rfl rfl ?_
        have h134 : S122.f 36 5 = S5.f 36 5 := by rw [hG123.f]
        have h135 : S5.f 36 5 = (S.f 36 5) + 1 := by rw [← hS7]; exact ysf_eq
        refine r_getf (i := 114) (v := 5) (w := 9) (x := vi (S122.f 36 5)) rfl ly36 rfl rfl fun h136 => ?_
        have h136 : Rg (S122.f 36 5) := h136
        refine r_imul (i := 115) rfl ?_
        have h137 := hI124.bn
        have h138 := hI124.br
        refine r_grow10 (i := 116) (k := 3) (b := 36) (v := 4) (w := 9) hI124 rfl rfl rfl rfl ly36 rfl rfl (by decide) rfl (by omega) (by omega) (by omega) (by omega) (by omega) (fun S139 hG140 => ?_)
        have h144 := hG140.n 0 (by decide) (by decide)
        have h145 := hG140.n 1 (by decide) (by decide)
        have h146 := hG140.n 2 (by decide) (by decide)
        have h147 := hG140.n1
        have h148 := hG140.n 4 (by decide) (by decide)
        have hI141 := hI124.grow (by decide) hG140 ⟨by omega, by omega, by omega, by omega⟩ (by omega) (by omega) (by omega)
        have hF142 := hF125.grow hG140 rfl rfl
        have hR143 := hR126.grow hG140 (by decide) rfl (by omega) (by omega)
        have e149 := PAx.grow e132 hG140 (by omega) (by omega)
        have pa5 := e149
        have pb5 := (e149).1 bk.toNat (by omega)
        refine r_load (i := 118) (u := 0) (w := 2) rfl rfl rfl ?_
        refine r_getf (i := 119) (v := 4) (w := 9) (x := (2, S139.p 3)) rfl ly36 rfl rfl fun _ => ?_
        refine r_load (i := 120) (u := 0) (w := 2) rfl rfl rfl ?_
        have h151 : S139.f 36 5 = S122.f 36 5 := by rw [hG140.f]
        have h152 : S122.f 36 5 = S5.f 36 5 := by rw [hG123.f]
        have h153 : S5.f 36 5 = (S.f 36 5) + 1 := by rw [← hS7]; exact ysf_eq
        refine r_getf (i := 121) (v := 5) (w := 9) (x := vi (S139.f 36 5)) rfl ly36 rfl rfl fun h154 => ?_
        have h154 : Rg (S139.f 36 5) := h154
        refine r_load (i := 122) (u := 1) (w := 0) rfl rfl rfl ?_
        have h155 := hI141.bn
        have h156 := hI141.br
        refine g_istore (i := 123) (k := 3) rfl (Or.inl (by decide)) rfl (by omega) (by omega) ⟨by omega, by omega⟩ ?_
        have hI158 := hI141.setg (b := 103) (j := (S139.f 36 5).toNat) (z := st0) rfl rfl
        have hF160 := hF142.seta (b := 103) (j := (S139.f 36 5).toNat) (z := st0) rfl
        have hR161 := hR143.seta (b := 103) (j := (S139.f 36 5).toNat) (z := st0)
        refine yT_gen (fun S157 hS159 => ?_)
        rw [hS159] at hI158 hF160 hR161 
        refine r_load (i := 124) (u := 0) (w := 2) rfl rfl rfl ?_
        refine r_getf (i := 125) (v := 3) (w := 9) (x := (2, S157.p 2)) rfl ly36 rfl rfl fun _ => ?_
        refine r_load (i := 126) (u := 0) (w := 2) rfl rfl rfl ?_
        have h163 : S157.f 36 5 = S139.f 36 5 := by rw [← hS159]; rfl
        have h164 : S139.f 36 5 = S122.f 36 5 := by rw [hG140.f]
        have h165 : S122.f 36 5 = S5.f 36 5 := by rw [hG123.f]
        have h166 : S5.f 36 5 = (S.f 36 5) + 1 := by rw [← hS7]; exact ysf_eq
        refine r_getf (i := 127) (v := 5) (w := 9) (x := vi (S157.f 36 5)) rfl ly36 rfl rfl fun h167 => ?_
        have h167 : Rg (S157.f 36 5) := h167
        refine r_load (i := 128) (u := 0) (w := 2) rfl rfl rfl ?_
        refine r_getf (i := 129) (v := 2) (w := 9) (x := (2, 37)) rfl ly36 rfl rfl fun _ => ?_
        refine r_load (i := 130) (u := 3) (w := 0) rfl rfl rfl ?_
        refine a_int (i := 131) rfl ly37 rfl (by omega) (by omega) fun h169 => ?_
        have h170 : S157.a 37 bk.toNat = S139.a 37 bk.toNat := by rw [← hS159]; rfl
        have h171 : S139.a 37 bk.toNat = S122.a 37 bk.toNat := congrFun (hG140.a 37 (by decide) (by decide)) _
        have h172 : S122.a 37 bk.toNat = S5.a 37 bk.toNat := congrFun (hG123.a 37 (by decide) (by decide)) _
        have h173 : S5.a 37 bk.toNat = S.a 37 bk.toNat := by rw [← hS7]; rfl
        have h174 := hI158.bn
        have h175 := hI158.br
        have h176 : S157.n = S139.n := by rw [← hS159]; rfl
        have h177 : S157.n 0 = S139.n 0 := congrFun h176 0
        have h178 : S157.n 1 = S139.n 1 := congrFun h176 1
        have h179 : S157.n 2 = S139.n 2 := congrFun h176 2
        have h180 : S157.n 3 = S139.n 3 := congrFun h176 3
        have h181 : S157.n 4 = S139.n 4 := congrFun h176 4
        refine g_istore (i := 132) (k := 2) rfl (Or.inl (by decide)) rfl (by omega) (by omega) ⟨by omega, by omega⟩ ?_
        have hI183 := hI158.setg (b := 102) (j := (S157.f 36 5).toNat) (z := S157.a 37 bk.toNat) rfl rfl
        have hF185 := hF160.seta (b := 102) (j := (S157.f 36 5).toNat) (z := S157.a 37 bk.toNat) rfl
        have hR186 := hR161.seta (b := 102) (j := (S157.f 36 5).toNat) (z := S157.a 37 bk.toNat)
        refine yT_gen (fun S182 hS184 => ?_)
        rw [hS184] at hI183 hF185 hR186 
        refine r_load (i := 133) (u := 0) (w := 2) rfl rfl rfl ?_
        refine r_getf (i := 134) (v := 2) (w := 9) (x := (2, 37)) rfl ly36 rfl rfl fun _ => ?_
        refine r_load (i := 135) (u := 3) (w := 0) rfl rfl rfl ?_
        refine r_load (i := 136) (u := 0) (w := 2) rfl rfl rfl ?_
        have h188 : S182.f 36 5 = S157.f 36 5 := by rw [← hS184]; rfl
        have h189 : S157.f 36 5 = S139.f 36 5 := by rw [← hS159]; rfl
        have h190 : S139.f 36 5 = S122.f 36 5 := by rw [hG140.f]
        have h191 : S122.f 36 5 = S5.f 36 5 := by rw [hG123.f]
        have h192 : S5.f 36 5 = (S.f 36 5) + 1 := by rw [← hS7]; exact ysf_eq
        refine r_getf (i := 137) (v := 5) (w := 9) (x := vi (S182.f 36 5)) rfl ly36 rfl rfl fun h193 => ?_
        have h193 : Rg (S182.f 36 5) := h193
        refine s_int (i := 138) rfl ly37 rfl (by omega) (by omega) ⟨by omega, by omega⟩ ?_
        have hI195 := hI183.seta0 (b := 37) (j := bk.toNat) (z := S182.f 36 5) rfl rfl
        have hF197 := hF185.seta (b := 37) (j := bk.toNat) (z := S182.f 36 5) rfl
        have hR198 := hR186.seta (b := 37) (j := bk.toNat) (z := S182.f 36 5)
        refine yT_gen (fun S194 hS196 => ?_)
        rw [hS196] at hI195 hF197 hR198 
        refine r_load (i := 139) (u := 0) (w := 2) rfl rfl rfl ?_
        have h199 : S194.f 36 5 = S182.f 36 5 := by rw [← hS196]; rfl
        have h200 : S182.f 36 5 = S157.f 36 5 := by rw [← hS184]; rfl
        have h201 : S157.f 36 5 = S139.f 36 5 := by rw [← hS159]; rfl
        have h202 : S139.f 36 5 = S122.f 36 5 := by rw [hG140.f]
        have h203 : S122.f 36 5 = S5.f 36 5 := by rw [hG123.f]
        have h204 : S5.f 36 5 = (S.f 36 5) + 1 := by rw [← hS7]; exact ysf_eq
        refine r_getf (i := 140) (v := 5) (w := 9) (x := vi (S194.f 36 5)) rfl ly36 rfl rfl fun h205 => ?_
        have h205 : Rg (S194.f 36 5) := h205
        have h206 := hI195.b0
        have h207 : S194.f 31 1 = S182.f 31 1 := by rw [← hS196]; rfl
        have h208 : S182.f 31 1 = S157.f 31 1 := by rw [← hS184]; rfl
        have h209 : S157.f 31 1 = S139.f 31 1 := by rw [← hS159]; rfl
        have h210 : S139.f 31 1 = S122.f 31 1 := by rw [hG140.f]
        have h211 : S122.f 31 1 = S5.f 31 1 := by rw [hG123.f]
        have h212 : S5.f 31 1 = S.f 31 1 := by rw [← hS7]; exact ysf_ne (by decide)
        have h213 := hI195.bn
        have h214 := hI195.br
        have h215 : S194.n = S182.n := by rw [← hS196]; rfl
        have h216 : S194.n 0 = S182.n 0 := congrFun h215 0
        have h217 : S194.n 1 = S182.n 1 := congrFun h215 1
        have h218 : S194.n 2 = S182.n 2 := congrFun h215 2
        have h219 : S194.n 3 = S182.n 3 := congrFun h215 3
        have h220 : S194.n 4 = S182.n 4 := congrFun h215 4
        have h221 : S182.n = S157.n := by rw [← hS184]; rfl
        have h222 : S182.n 0 = S157.n 0 := congrFun h221 0
        have h223 : S182.n 1 = S157.n 1 := congrFun h221 1
        have h224 : S182.n 2 = S157.n 2 := congrFun h221 2
        have h225 : S182.n 3 = S157.n 3 := congrFun h221 3
        have h226 : S182.n 4 = S157.n 4 := congrFun h221 4
        have h227 : S157.n = S139.n := by rw [← hS159]; rfl
        have h228 : S157.n 0 = S139.n 0 := congrFun h227 0
        have h229 : S157.n 1 = S139.n 1 := congrFun h227 1
        have h230 : S157.n 2 = S139.n 2 := congrFun h227 2
        have h231 : S157.n 3 = S139.n 3 := congrFun h227 3
        have h232 : S157.n 4 = S139.n 4 := congrFun h227 4
        exact r_retI (i := 141) rfl ⟨S194.f 36 5, rfl, by omega, by omega, (by omega), (by exact s62_new q_4 (by omega) (by omega) (by omega) (by omega) (fun j hj => ((((((show S194.a 100 j = S182.a 100 j by rw [← hS196]; rfl).trans (show S182.a 100 j = S157.a 100 j by rw [← hS184]; rfl)).trans (show S157.a 100 j = S139.a 100 j by rw [← hS159]; rfl)).trans (congrFun (hG140.a 100 (by decide) (by decide)) j)).trans (congrFun (hG123.a 100 (by decide) (by decide)) j)).trans (show S5.a 100 j = S.a 100 j by rw [← hS7]; rfl))) (fun j hj => ((((((show S194.a 103 j = S182.a 103 j by rw [← hS196]; rfl).trans (show S182.a 103 j = S157.a 103 j by rw [← hS184]; rfl)).trans (show S157.a 103 j = S139.a 103 j by rw [← hS159]; exact ysa_ne (Or.inr (by omega)))).trans (hG140.g j (by omega))).trans (congrFun (hG123.a 103 (by decide) (by decide)) j)).trans (show S5.a 103 j = S.a 103 j by rw [← hS7]; rfl))) ((congrArg (S194.a 103) (show (S.f 36 5 + 1).toNat = (S139.f 36 5).toNat by omega)).trans (((show S194.a 103 ((S139.f 36 5).toNat) = S182.a 103 ((S139.f 36 5).toNat) by rw [← hS196]; rfl).trans ((show S182.a 103 ((S139.f 36 5).toNat) = S157.a 103 ((S139.f 36 5).toNat) by rw [← hS184]; rfl).trans (show S157.a 103 ((S139.f 36 5).toNat) = st0 by rw [← hS159]; exact ysa_eq))).trans (by omega))) (fun j hj => ((((((show S194.a 102 j = S182.a 102 j by rw [← hS196]; rfl).trans (show S182.a 102 j = S157.a 102 j by rw [← hS184]; exact ysa_ne (Or.inr (by omega)))).trans (show S157.a 102 j = S139.a 102 j by rw [← hS159]; rfl)).trans (congrFun (hG140.a 102 (by decide) (by decide)) j)).trans (hG123.g j (by omega))).trans (show S5.a 102 j = S.a 102 j by rw [← hS7]; rfl))) ((congrArg (S194.a 102) (show (S.f 36 5 + 1).toNat = (S157.f 36 5).toNat by omega)).trans (((show S194.a 102 ((S157.f 36 5).toNat) = S182.a 102 ((S157.f 36 5).toNat) by rw [← hS196]; rfl).trans (show S182.a 102 ((S157.f 36 5).toNat) = S157.a 37 bk.toNat by rw [← hS184]; exact ysa_eq)).trans (by omega))) (a37_of hS196 (by omega) (fun j => (((((show S182.a 37 j = S157.a 37 j by rw [← hS184]; rfl).trans (show S157.a 37 j = S139.a 37 j by rw [← hS159]; rfl)).trans (congrFun (hG140.a 37 (by decide) (by decide)) j)).trans (congrFun (hG123.a 37 (by decide) (by decide)) j)).trans (show S5.a 37 j = S.a 37 j by rw [← hS7]; rfl))))), (by exact PL_push (i1 := (S139.f 36 5).toNat) (i2 := (S157.f 36 5).toNat) (x := S157.a 37 bk.toNat) (q := bk.toNat) (v := S182.f 36 5) pa5 (by omega) (by omega) (by omega) (by omega) (by omega) (by omega) (fun b j => by subst_vars; rfl) (by omega) (by omega) (by omega) (by omega)), hI195, hF197, hR198⟩
    · refine r_load (i := 64) (u := 4) (w := 0) rfl rfl rfl ?_
      refine z_le (i := 65) (v := 88) rfl ⟨by omega, by omega⟩ (fun h233 => ?_) (fun h234 => ?_)
      · have pm9 := (q_1).1.2.2.2
        have pn9 := (q_1).n
        have pa9 := (q_1).2
        refine r_load (i := 88) (u := 0) (w := 2) rfl rfl rfl ?_
        refine r_dup (i := 89) rfl rfl ?_
        refine r_getf (i := 90) (v := 5) (w := 9) (x := vi (S.f 36 5)) rfl ly36 rfl rfl fun h235 => ?_
        have h235 : Rg (S.f 36 5) := h235
        refine r_const (i := 91) (u := 1) (z := 1) rfl rfl ?_
        refine r_iadd (i := 92) rfl ?_
        refine r_putI (i := 93) (v := 5) (w := 9) rfl ly36 rfl ⟨by omega, by omega⟩ ?_
        have hI237 := hI.setf0 (b := 36) (w := 5) (z := (S.f 36 5) + 1) rfl rfl
        have hF239 := hF.setf (b := 36) (w := 5) (z := (S.f 36 5) + 1) rfl
        have hR240 := hR.setf (b := 36) (w := 5) (z := (S.f 36 5) + 1)
        have e241 := PAx.setf pa9 (b := 36) (w := 5) (z := (S.f 36 5) + 1) rfl
        refine yT_gen (fun S236 hS238 => ?_)
        rw [hS238] at hI237 hF239 hR240 e241
        refine r_load (i := 94) (u := 0) (w := 2) rfl rfl rfl ?_
        have h242 : S236.f 36 5 = (S.f 36 5) + 1 := by rw [← hS238]; exact ysf_eq
        refine r_getf (i := 95) (v := 5) (w := 9) (x := vi (S236.f 36 5)) rfl ly36 rfl rfl fun h243 => ?_
        have h243 : Rg (S236.f 36 5) := h243
        refine r_load (i := 96) (u := 0) (w := 2) rfl rfl rfl ?_
        refine r_getf (i := 97) (v := 4) (w := 9) (x := (2, S236.p 3)) rfl ly36 rfl rfl fun _ => ?_
        have h245 := hI237.bn
        have h246 := hI237.br
        have h247 : S236.n = S.n := by rw [← hS238]; rfl
        have h248 : S236.n 0 = S.n 0 := congrFun h247 0
        have h249 : S236.n 1 = S.n 1 := congrFun h247 1
        have h250 : S236.n 2 = S.n 2 := congrFun h247 2
        have h251 : S236.n 3 = S.n 3 := congrFun h247 3
        have h252 : S236.n 4 = S.n 4 := congrFun h247 4
        have h253 : S.n 0 = S0.n 0 := hR.eq rfl rfl
        have h254 : S.n 1 = S0.n 1 := hR.eq rfl rfl
        have h255 : S0.n 2 ≤ S.n 2 := hR.n 2 (by decide)
        have h256 : S0.n 3 ≤ S.n 3 := hR.n 3 (by decide)
        have h257 : S.n 4 = S0.n 4 := hR.eq rfl rfl
        refine g_len (i := 98) (k := 3) rfl rfl (Or.inl (by decide)) (by first | exact Or.inl rfl | exact Or.inr rfl) fun h258 => ?_
        refine c_lt (i := 99) (v := 118) rfl ⟨by omega, by omega⟩ ⟨by omega, by omega⟩ (fun h259 => ?_) (fun h260 => ?_)
        · have pa5 := e241
          have pb5 := (e241).1 bk.toNat (by omega)
          refine r_load (i := 118) (u := 0) (w := 2) rfl rfl rfl ?_
          refine r_getf (i := 119) (v := 4) (w := 9) (x := (2, S236.p 3)) rfl ly36 rfl rfl fun _ => ?_
          refine r_load (i := 120) (u := 0) (w := 2) rfl rfl rfl ?_
          refine r_getf (i := 121) (v := 5) (w := 9) (x := vi (S236.f 36 5)) rfl ly36 rfl rfl fun h262 => ?_
          have h262 : Rg (S236.f 36 5) := h262
          refine r_load (i := 122) (u := 1) (w := 0) rfl rfl rfl ?_
          refine g_istore (i := 123) (k := 3) rfl (Or.inl (by decide)) rfl (by omega) (by omega) ⟨by omega, by omega⟩ ?_
          have hI264 := hI237.setg (b := 103) (j := (S236.f 36 5).toNat) (z := st0) rfl rfl
          have hF266 := hF239.seta (b := 103) (j := (S236.f 36 5).toNat) (z := st0) rfl
          have hR267 := hR240.seta (b := 103) (j := (S236.f 36 5).toNat) (z := st0)
          refine yT_gen (fun S263 hS265 => ?_)
          rw [hS265] at hI264 hF266 hR267 
          refine r_load (i := 124) (u := 0) (w := 2) rfl rfl rfl ?_
          refine r_getf (i := 125) (v := 3) (w := 9) (x := (2, S263.p 2)) rfl ly36 rfl rfl fun _ => ?_
          refine r_load (i := 126) (u := 0) (w := 2) rfl rfl rfl ?_
          have h269 : S263.f 36 5 = S236.f 36 5 := by rw [← hS265]; rfl
          have h270 : S236.f 36 5 = (S.f 36 5) + 1 := by rw [← hS238]; exact ysf_eq
          refine r_getf (i := 127) (v := 5) (w := 9) (x := vi (S263.f 36 5)) rfl ly36 rfl rfl fun h271 => ?_
          have h271 : Rg (S263.f 36 5) := h271
          refine r_load (i := 128) (u := 0) (w := 2) rfl rfl rfl ?_
          refine r_getf (i := 129) (v := 2) (w := 9) (x := (2, 37)) rfl ly36 rfl rfl fun _ => ?_
          refine r_load (i := 130) (u := 3) (w := 0) rfl rfl rfl ?_
          refine a_int (i := 131) rfl ly37 rfl (by omega) (by omega) fun h273 => ?_
          have h274 : S263.a 37 bk.toNat = S236.a 37 bk.toNat := by rw [← hS265]; rfl
          have h275 : S236.a 37 bk.toNat = S.a 37 bk.toNat := by rw [← hS238]; rfl
          have h276 := hI264.bn
          have h277 := hI264.br
          have h278 : S263.n = S236.n := by rw [← hS265]; rfl
          have h279 : S263.n 0 = S236.n 0 := congrFun h278 0
          have h280 : S263.n 1 = S236.n 1 := congrFun h278 1
          have h281 : S263.n 2 = S236.n 2 := congrFun h278 2
          have h282 : S263.n 3 = S236.n 3 := congrFun h278 3
          have h283 : S263.n 4 = S236.n 4 := congrFun h278 4
          have h284 : S236.n = S.n := by rw [← hS238]; rfl
          have h285 : S236.n 0 = S.n 0 := congrFun h284 0
          have h286 : S236.n 1 = S.n 1 := congrFun h284 1
          have h287 : S236.n 2 = S.n 2 := congrFun h284 2
          have h288 : S236.n 3 = S.n 3 := congrFun h284 3
          have h289 : S236.n 4 = S.n 4 := congrFun h284 4
          have h290 : S.n 0 = S0.n 0 := hR.eq rfl rfl
          have h291 : S.n 1 = S0.n 1 := hR.eq rfl rfl
          have h292 : S0.n 2 ≤ S.n 2 := hR.n 2 (by decide)
          have h293 : S0.n 3 ≤ S.n 3 := hR.n 3 (by decide)
          have h294 : S.n 4 = S0.n 4 := hR.eq rfl rfl
          refine g_istore (i := 132) (k := 2) rfl (Or.inl (by decide)) rfl (by omega) (by omega) ⟨by omega, by omega⟩ ?_
          have hI296 := hI264.setg (b := 102) (j := (S263.f 36 5).toNat) (z := S263.a 37 bk.toNat) rfl rfl
          have hF298 := hF266.seta (b := 102) (j := (S263.f 36 5).toNat) (z := S263.a 37 bk.toNat) rfl
          have hR299 := hR267.seta (b := 102) (j := (S263.f 36 5).toNat) (z := S263.a 37 bk.toNat)
          refine yT_gen (fun S295 hS297 => ?_)
          rw [hS297] at hI296 hF298 hR299 
          refine r_load (i := 133) (u := 0) (w := 2) rfl rfl rfl ?_
          refine r_getf (i := 134) (v := 2) (w := 9) (x := (2, 37)) rfl ly36 rfl rfl fun _ => ?_
          refine r_load (i := 135) (u := 3) (w := 0) rfl rfl rfl ?_
          refine r_load (i := 136) (u := 0) (w := 2) rfl rfl rfl ?_
          have h301 : S295.f 36 5 = S263.f 36 5 := by rw [← hS297]; rfl
          have h302 : S263.f 36 5 = S236.f 36 5 := by rw [← hS265]; rfl
          have h303 : S236.f 36 5 = (S.f 36 5) + 1 := by rw [← hS238]; exact ysf_eq
          refine r_getf (i := 137) (v := 5) (w := 9) (x := vi (S295.f 36 5)) rfl ly36 rfl rfl fun h304 => ?_
          have h304 : Rg (S295.f 36 5) := h304
          refine s_int (i := 138) rfl ly37 rfl (by omega) (by omega) ⟨by omega, by omega⟩ ?_
          have hI306 := hI296.seta0 (b := 37) (j := bk.toNat) (z := S295.f 36 5) rfl rfl
          have hF308 := hF298.seta (b := 37) (j := bk.toNat) (z := S295.f 36 5) rfl
          have hR309 := hR299.seta (b := 37) (j := bk.toNat) (z := S295.f 36 5)
          refine yT_gen (fun S305 hS307 => ?_)
          rw [hS307] at hI306 hF308 hR309 
          refine r_load (i := 139) (u := 0) (w := 2) rfl rfl rfl ?_
          have h310 : S305.f 36 5 = S295.f 36 5 := by rw [← hS307]; rfl
          have h311 : S295.f 36 5 = S263.f 36 5 := by rw [← hS297]; rfl
          have h312 : S263.f 36 5 = S236.f 36 5 := by rw [← hS265]; rfl
          have h313 : S236.f 36 5 = (S.f 36 5) + 1 := by rw [← hS238]; exact ysf_eq
          refine r_getf (i := 140) (v := 5) (w := 9) (x := vi (S305.f 36 5)) rfl ly36 rfl rfl fun h314 => ?_
          have h314 : Rg (S305.f 36 5) := h314
          have h315 := hI306.b0
          have h316 : S305.f 31 1 = S295.f 31 1 := by rw [← hS307]; rfl
          have h317 : S295.f 31 1 = S263.f 31 1 := by rw [← hS297]; rfl
          have h318 : S263.f 31 1 = S236.f 31 1 := by rw [← hS265]; rfl
          have h319 : S236.f 31 1 = S.f 31 1 := by rw [← hS238]; exact ysf_ne (by decide)
          have h320 := hI306.bn
          have h321 := hI306.br
          have h322 : S305.n = S295.n := by rw [← hS307]; rfl
          have h323 : S305.n 0 = S295.n 0 := congrFun h322 0
          have h324 : S305.n 1 = S295.n 1 := congrFun h322 1
          have h325 : S305.n 2 = S295.n 2 := congrFun h322 2
          have h326 : S305.n 3 = S295.n 3 := congrFun h322 3
          have h327 : S305.n 4 = S295.n 4 := congrFun h322 4
          have h328 : S295.n = S263.n := by rw [← hS297]; rfl
          have h329 : S295.n 0 = S263.n 0 := congrFun h328 0
          have h330 : S295.n 1 = S263.n 1 := congrFun h328 1
          have h331 : S295.n 2 = S263.n 2 := congrFun h328 2
          have h332 : S295.n 3 = S263.n 3 := congrFun h328 3
          have h333 : S295.n 4 = S263.n 4 := congrFun h328 4
          have h334 : S263.n = S236.n := by rw [← hS265]; rfl
          have h335 : S263.n 0 = S236.n 0 := congrFun h334 0
          have h336 : S263.n 1 = S236.n 1 := congrFun h334 1
          have h337 : S263.n 2 = S236.n 2 := congrFun h334 2
          have h338 : S263.n 3 = S236.n 3 := congrFun h334 3
          have h339 : S263.n 4 = S236.n 4 := congrFun h334 4
          have h340 : S236.n = S.n := by rw [← hS238]; rfl
          have h341 : S236.n 0 = S.n 0 := congrFun h340 0
          have h342 : S236.n 1 = S.n 1 := congrFun h340 1
          have h343 : S236.n 2 = S.n 2 := congrFun h340 2
          have h344 : S236.n 3 = S.n 3 := congrFun h340 3
          have h345 : S236.n 4 = S.n 4 := congrFun h340 4
          have h346 : S.n 0 = S0.n 0 := hR.eq rfl rfl
          have h347 : S.n 1 = S0.n 1 := hR.eq rfl rfl
          have h348 : S0.n 2 ≤ S.n 2 := hR.n 2 (by decide)
          have h349 : S0.n 3 ≤ S.n 3 := hR.n 3 (by decide)
          have h350 : S.n 4 = S0.n 4 := hR.eq rfl rfl
          exact r_retI (i := 141) rfl ⟨S305.f 36 5, rfl, by omega, by omega, (by omega), (by exact s62_new q_4 (by omega) (by omega) (by omega) (by omega) (fun j hj => ((((show S305.a 100 j = S295.a 100 j by rw [← hS307]; rfl).trans (show S295.a 100 j = S263.a 100 j by rw [← hS297]; rfl)).trans (show S263.a 100 j = S236.a 100 j by rw [← hS265]; rfl)).trans (show S236.a 100 j = S.a 100 j by rw [← hS238]; rfl))) (fun j hj => ((((show S305.a 103 j = S295.a 103 j by rw [← hS307]; rfl).trans (show S295.a 103 j = S263.a 103 j by rw [← hS297]; rfl)).trans (show S263.a 103 j = S236.a 103 j by rw [← hS265]; exact ysa_ne (Or.inr (by omega)))).trans (show S236.a 103 j = S.a 103 j by rw [← hS238]; rfl))) ((congrArg (S305.a 103) (show (S.f 36 5 + 1).toNat = (S236.f 36 5).toNat by omega)).trans (((show S305.a 103 ((S236.f 36 5).toNat) = S295.a 103 ((S236.f 36 5).toNat) by rw [← hS307]; rfl).trans ((show S295.a 103 ((S236.f 36 5).toNat) = S263.a 103 ((S236.f 36 5).toNat) by rw [← hS297]; rfl).trans (show S263.a 103 ((S236.f 36 5).toNat) = st0 by rw [← hS265]; exact ysa_eq))).trans (by omega))) (fun j hj => ((((show S305.a 102 j = S295.a 102 j by rw [← hS307]; rfl).trans (show S295.a 102 j = S263.a 102 j by rw [← hS297]; exact ysa_ne (Or.inr (by omega)))).trans (show S263.a 102 j = S236.a 102 j by rw [← hS265]; rfl)).trans (show S236.a 102 j = S.a 102 j by rw [← hS238]; rfl))) ((congrArg (S305.a 102) (show (S.f 36 5 + 1).toNat = (S263.f 36 5).toNat by omega)).trans (((show S305.a 102 ((S263.f 36 5).toNat) = S295.a 102 ((S263.f 36 5).toNat) by rw [← hS307]; rfl).trans (show S295.a 102 ((S263.f 36 5).toNat) = S263.a 37 bk.toNat by rw [← hS297]; exact ysa_eq)).trans (by omega))) (a37_of hS307 (by omega) (fun j => (((show S295.a 37 j = S263.a 37 j by rw [← hS297]; rfl).trans (show S263.a 37 j = S236.a 37 j by rw [← hS265]; rfl)).trans (show S236.a 37 j = S.a 37 j by rw [← hS238]; rfl))))), (by exact PL_push (i1 := (S236.f 36 5).toNat) (i2 := (S263.f 36 5).toNat) (x := S263.a 37 bk.toNat) (q := bk.toNat) (v := S295.f 36 5) pa5 (by omega) (by omega) (by omega) (by omega) (by omega) (by omega) (fun b j => by subst_vars; rfl) (by omega) (by omega) (by omega) (by omega)), hI306, hF308, hR309⟩
        · refine r_load (i := 100) (u := 0) (w := 2) rfl rfl rfl ?_
          refine r_load (i := 101) (u := 0) (w := 2) rfl rfl rfl ?_
          refine r_getf (i := 102) (v := 3) (w := 9) (x := (2, S236.p 2)) rfl ly36 rfl rfl fun _ => ?_
          refine r_const (i := 103) (u := 2) (z := 2) rfl rfl ?_
          refine r_load (i := 104) (u := 0) (w := 2) rfl rfl rfl ?_
          refine r_getf (i := 105) (v := 5) (w := 9) (x := vi (S236.f 36 5)) rfl ly36 rfl rfl fun h352 => ?_
          have h352 : Rg (S236.f 36 5) := h352
          refine r_imul (i := 106) rfl ?_
          refine r_grow10 (i := 107) (k := 2) (b := 36) (v := 3) (w := 9) hI237 rfl rfl rfl rfl ly36 rfl rfl (by decide) rfl (by omega) (by omega) (by omega) (by omega) (by omega) (fun S353 hG354 => ?_)
          have h358 := hG354.n 0 (by decide) (by decide)
          have h359 := hG354.n 1 (by decide) (by decide)
          have h360 := hG354.n1
          have h361 := hG354.n 3 (by decide) (by decide)
          have h362 := hG354.n 4 (by decide) (by decide)
          have hI355 := hI237.grow (by decide) hG354 ⟨by omega, by omega, by omega, by omega⟩ (by omega) (by omega) (by omega)
          have hF356 := hF239.grow hG354 rfl rfl
          have hR357 := hR240.grow hG354 (by decide) rfl (by omega) (by omega)
          have e363 := PAx.grow e241 hG354 (by omega) (by omega)
          refine r_load (i := 109) (u := 0) (w := 2) rfl rfl rfl ?_
          refine r_load (i := 110) (u := 0) (w := 2) rfl rfl rfl ?_
          refine r_getf (i := 111) (v := 4) (w := 9) (x := (2, S353.p 3)) rfl ly36 rfl rfl fun _ => ?_
          refine r_const (i := 112) (u := 2) (z := 2) rfl rfl ?_
          refine r_load (i := 113) (u := 0) (w := 2) rfl rfl rfl ?_
          have h365 : S353.f 36 5 = S236.f 36 5 := by rw [hG354.f]
          have h366 : S236.f 36 5 = (S.f 36 5) + 1 := by rw [← hS238]; exact ysf_eq
          refine r_getf (i := 114) (v := 5) (w := 9) (x := vi (S353.f 36 5)) rfl ly36 rfl rfl fun h367 => ?_
          have h367 : Rg (S353.f 36 5) := h367
          refine r_imul (i := 115) rfl ?_
          have h368 := hI355.bn
          have h369 := hI355.br
          refine r_grow10 (i := 116) (k := 3) (b := 36) (v := 4) (w := 9) hI355 rfl rfl rfl rfl ly36 rfl rfl (by decide) rfl (by omega) (by omega) (by omega) (by omega) (by omega) (fun S370 hG371 => ?_)
          have h375 := hG371.n 0 (by decide) (by decide)
          have h376 := hG371.n 1 (by decide) (by decide)
          have h377 := hG371.n 2 (by decide) (by decide)
          have h378 := hG371.n1
          have h379 := hG371.n 4 (by decide) (by decide)
          have hI372 := hI355.grow (by decide) hG371 ⟨by omega, by omega, by omega, by omega⟩ (by omega) (by omega) (by omega)
          have hF373 := hF356.grow hG371 rfl rfl
          have hR374 := hR357.grow hG371 (by decide) rfl (by omega) (by omega)
          have e380 := PAx.grow e363 hG371 (by omega) (by omega)
          have pa5 := e380
          have pb5 := (e380).1 bk.toNat (by omega)
          refine r_load (i := 118) (u := 0) (w := 2) rfl rfl rfl ?_
          refine r_getf (i := 119) (v := 4) (w := 9) (x := (2, S370.p 3)) rfl ly36 rfl rfl fun _ => ?_
          refine r_load (i := 120) (u := 0) (w := 2) rfl rfl rfl ?_
          have h382 : S370.f 36 5 = S353.f 36 5 := by rw [hG371.f]
          have h383 : S353.f 36 5 = S236.f 36 5 := by rw [hG354.f]
          have h384 : S236.f 36 5 = (S.f 36 5) + 1 := by rw [← hS238]; exact ysf_eq
          refine r_getf (i := 121) (v := 5) (w := 9) (x := vi (S370.f 36 5)) rfl ly36 rfl rfl fun h385 => ?_
          have h385 : Rg (S370.f 36 5) := h385
          refine r_load (i := 122) (u := 1) (w := 0) rfl rfl rfl ?_
          have h386 := hI372.bn
          have h387 := hI372.br
          refine g_istore (i := 123) (k := 3) rfl (Or.inl (by decide)) rfl (by omega) (by omega) ⟨by omega, by omega⟩ ?_
          have hI389 := hI372.setg (b := 103) (j := (S370.f 36 5).toNat) (z := st0) rfl rfl
          have hF391 := hF373.seta (b := 103) (j := (S370.f 36 5).toNat) (z := st0) rfl
          have hR392 := hR374.seta (b := 103) (j := (S370.f 36 5).toNat) (z := st0)
          refine yT_gen (fun S388 hS390 => ?_)
          rw [hS390] at hI389 hF391 hR392 
          refine r_load (i := 124) (u := 0) (w := 2) rfl rfl rfl ?_
          refine r_getf (i := 125) (v := 3) (w := 9) (x := (2, S388.p 2)) rfl ly36 rfl rfl fun _ => ?_
          refine r_load (i := 126) (u := 0) (w := 2) rfl rfl rfl ?_
          have h394 : S388.f 36 5 = S370.f 36 5 := by rw [← hS390]; rfl
          have h395 : S370.f 36 5 = S353.f 36 5 := by rw [hG371.f]
          have h396 : S353.f 36 5 = S236.f 36 5 := by rw [hG354.f]
          have h397 : S236.f 36 5 = (S.f 36 5) + 1 := by rw [← hS238]; exact ysf_eq
          refine r_getf (i := 127) (v := 5) (w := 9) (x := vi (S388.f 36 5)) rfl ly36 rfl rfl fun h398 => ?_
          have h398 : Rg (S388.f 36 5) := h398
          refine r_load (i := 128) (u := 0) (w := 2) rfl rfl rfl ?_
          refine r_getf (i := 129) (v := 2) (w := 9) (x := (2, 37)) rfl ly36 rfl rfl fun _ => ?_
          refine r_load (i := 130) (u := 3) (w := 0) rfl rfl rfl ?_
          refine a_int (i := 131) rfl ly37 rfl (by omega) (by omega) fun h400 => ?_
          have h401 : S388.a 37 bk.toNat = S370.a 37 bk.toNat := by rw [← hS390]; rfl
          have h402 : S370.a 37 bk.toNat = S353.a 37 bk.toNat := congrFun (hG371.a 37 (by decide) (by decide)) _
          have h403 : S353.a 37 bk.toNat = S236.a 37 bk.toNat := congrFun (hG354.a 37 (by decide) (by decide)) _
          have h404 : S236.a 37 bk.toNat = S.a 37 bk.toNat := by rw [← hS238]; rfl
          have h405 := hI389.bn
          have h406 := hI389.br
          have h407 : S388.n = S370.n := by rw [← hS390]; rfl
          have h408 : S388.n 0 = S370.n 0 := congrFun h407 0
          have h409 : S388.n 1 = S370.n 1 := congrFun h407 1
          have h410 : S388.n 2 = S370.n 2 := congrFun h407 2
          have h411 : S388.n 3 = S370.n 3 := congrFun h407 3
          have h412 : S388.n 4 = S370.n 4 := congrFun h407 4
          refine g_istore (i := 132) (k := 2) rfl (Or.inl (by decide)) rfl (by omega) (by omega) ⟨by omega, by omega⟩ ?_
          have hI414 := hI389.setg (b := 102) (j := (S388.f 36 5).toNat) (z := S388.a 37 bk.toNat) rfl rfl
          have hF416 := hF391.seta (b := 102) (j := (S388.f 36 5).toNat) (z := S388.a 37 bk.toNat) rfl
          have hR417 := hR392.seta (b := 102) (j := (S388.f 36 5).toNat) (z := S388.a 37 bk.toNat)
          refine yT_gen (fun S413 hS415 => ?_)
          rw [hS415] at hI414 hF416 hR417 
          refine r_load (i := 133) (u := 0) (w := 2) rfl rfl rfl ?_
          refine r_getf (i := 134) (v := 2) (w := 9) (x := (2, 37)) rfl ly36 rfl rfl fun _ => ?_
          refine r_load (i := 135) (u := 3) (w := 0) rfl rfl rfl ?_
          refine r_load (i := 136) (u := 0) (w := 2) rfl rfl rfl ?_
          have h419 : S413.f 36 5 = S388.f 36 5 := by rw [← hS415]; rfl
          have h420 : S388.f 36 5 = S370.f 36 5 := by rw [← hS390]; rfl
          have h421 : S370.f 36 5 = S353.f 36 5 := by rw [hG371.f]
          have h422 : S353.f 36 5 = S236.f 36 5 := by rw [hG354.f]
          have h423 : S236.f 36 5 = (S.f 36 5) + 1 := by rw [← hS238]; exact ysf_eq
          refine r_getf (i := 137) (v := 5) (w := 9) (x := vi (S413.f 36 5)) rfl ly36 rfl rfl fun h424 => ?_
          have h424 : Rg (S413.f 36 5) := h424
          refine s_int (i := 138) rfl ly37 rfl (by omega) (by omega) ⟨by omega, by omega⟩ ?_
          have hI426 := hI414.seta0 (b := 37) (j := bk.toNat) (z := S413.f 36 5) rfl rfl
          have hF428 := hF416.seta (b := 37) (j := bk.toNat) (z := S413.f 36 5) rfl
          have hR429 := hR417.seta (b := 37) (j := bk.toNat) (z := S413.f 36 5)
          refine yT_gen (fun S425 hS427 => ?_)
          rw [hS427] at hI426 hF428 hR429 
          refine r_load (i := 139) (u := 0) (w := 2) rfl rfl rfl ?_
          have h430 : S425.f 36 5 = S413.f 36 5 := by rw [← hS427]; rfl
          have h431 : S413.f 36 5 = S388.f 36 5 := by rw [← hS415]; rfl
          have h432 : S388.f 36 5 = S370.f 36 5 := by rw [← hS390]; rfl
          have h433 : S370.f 36 5 = S353.f 36 5 := by rw [hG371.f]
          have h434 : S353.f 36 5 = S236.f 36 5 := by rw [hG354.f]
          have h435 : S236.f 36 5 = (S.f 36 5) + 1 := by rw [← hS238]; exact ysf_eq
          refine r_getf (i := 140) (v := 5) (w := 9) (x := vi (S425.f 36 5)) rfl ly36 rfl rfl fun h436 => ?_
          have h436 : Rg (S425.f 36 5) := h436
          have h437 := hI426.b0
          have h438 : S425.f 31 1 = S413.f 31 1 := by rw [← hS427]; rfl
          have h439 : S413.f 31 1 = S388.f 31 1 := by rw [← hS415]; rfl
          have h440 : S388.f 31 1 = S370.f 31 1 := by rw [← hS390]; rfl
          have h441 : S370.f 31 1 = S353.f 31 1 := by rw [hG371.f]
          have h442 : S353.f 31 1 = S236.f 31 1 := by rw [hG354.f]
          have h443 : S236.f 31 1 = S.f 31 1 := by rw [← hS238]; exact ysf_ne (by decide)
          have h444 := hI426.bn
          have h445 := hI426.br
          have h446 : S425.n = S413.n := by rw [← hS427]; rfl
          have h447 : S425.n 0 = S413.n 0 := congrFun h446 0
          have h448 : S425.n 1 = S413.n 1 := congrFun h446 1
          have h449 : S425.n 2 = S413.n 2 := congrFun h446 2
          have h450 : S425.n 3 = S413.n 3 := congrFun h446 3
          have h451 : S425.n 4 = S413.n 4 := congrFun h446 4
          have h452 : S413.n = S388.n := by rw [← hS415]; rfl
          have h453 : S413.n 0 = S388.n 0 := congrFun h452 0
          have h454 : S413.n 1 = S388.n 1 := congrFun h452 1
          have h455 : S413.n 2 = S388.n 2 := congrFun h452 2
          have h456 : S413.n 3 = S388.n 3 := congrFun h452 3
          have h457 : S413.n 4 = S388.n 4 := congrFun h452 4
          have h458 : S388.n = S370.n := by rw [← hS390]; rfl
          have h459 : S388.n 0 = S370.n 0 := congrFun h458 0
          have h460 : S388.n 1 = S370.n 1 := congrFun h458 1
          have h461 : S388.n 2 = S370.n 2 := congrFun h458 2
          have h462 : S388.n 3 = S370.n 3 := congrFun h458 3
          have h463 : S388.n 4 = S370.n 4 := congrFun h458 4
          exact r_retI (i := 141) rfl ⟨S425.f 36 5, rfl, by omega, by omega, (by omega), (by exact s62_new q_4 (by omega) (by omega) (by omega) (by omega) (fun j hj => ((((((show S425.a 100 j = S413.a 100 j by rw [← hS427]; rfl).trans (show S413.a 100 j = S388.a 100 j by rw [← hS415]; rfl)).trans (show S388.a 100 j = S370.a 100 j by rw [← hS390]; rfl)).trans (congrFun (hG371.a 100 (by decide) (by decide)) j)).trans (congrFun (hG354.a 100 (by decide) (by decide)) j)).trans (show S236.a 100 j = S.a 100 j by rw [← hS238]; rfl))) (fun j hj => ((((((show S425.a 103 j = S413.a 103 j by rw [← hS427]; rfl).trans (show S413.a 103 j = S388.a 103 j by rw [← hS415]; rfl)).trans (show S388.a 103 j = S370.a 103 j by rw [← hS390]; exact ysa_ne (Or.inr (by omega)))).trans (hG371.g j (by omega))).trans (congrFun (hG354.a 103 (by decide) (by decide)) j)).trans (show S236.a 103 j = S.a 103 j by rw [← hS238]; rfl))) ((congrArg (S425.a 103) (show (S.f 36 5 + 1).toNat = (S370.f 36 5).toNat by omega)).trans (((show S425.a 103 ((S370.f 36 5).toNat) = S413.a 103 ((S370.f 36 5).toNat) by rw [← hS427]; rfl).trans ((show S413.a 103 ((S370.f 36 5).toNat) = S388.a 103 ((S370.f 36 5).toNat) by rw [← hS415]; rfl).trans (show S388.a 103 ((S370.f 36 5).toNat) = st0 by rw [← hS390]; exact ysa_eq))).trans (by omega))) (fun j hj => ((((((show S425.a 102 j = S413.a 102 j by rw [← hS427]; rfl).trans (show S413.a 102 j = S388.a 102 j by rw [← hS415]; exact ysa_ne (Or.inr (by omega)))).trans (show S388.a 102 j = S370.a 102 j by rw [← hS390]; rfl)).trans (congrFun (hG371.a 102 (by decide) (by decide)) j)).trans (hG354.g j (by omega))).trans (show S236.a 102 j = S.a 102 j by rw [← hS238]; rfl))) ((congrArg (S425.a 102) (show (S.f 36 5 + 1).toNat = (S388.f 36 5).toNat by omega)).trans (((show S425.a 102 ((S388.f 36 5).toNat) = S413.a 102 ((S388.f 36 5).toNat) by rw [← hS427]; rfl).trans (show S413.a 102 ((S388.f 36 5).toNat) = S388.a 37 bk.toNat by rw [← hS415]; exact ysa_eq)).trans (by omega))) (a37_of hS427 (by omega) (fun j => (((((show S413.a 37 j = S388.a 37 j by rw [← hS415]; rfl).trans (show S388.a 37 j = S370.a 37 j by rw [← hS390]; rfl)).trans (congrFun (hG371.a 37 (by decide) (by decide)) j)).trans (congrFun (hG354.a 37 (by decide) (by decide)) j)).trans (show S236.a 37 j = S.a 37 j by rw [← hS238]; rfl))))), (by exact PL_push (i1 := (S370.f 36 5).toNat) (i2 := (S388.f 36 5).toNat) (x := S388.a 37 bk.toNat) (q := bk.toNat) (v := S413.f 36 5) pa5 (by omega) (by omega) (by omega) (by omega) (by omega) (by omega) (fun b j => by subst_vars; rfl) (by omega) (by omega) (by omega) (by omega)), hI426, hF428, hR429⟩
      · have pm9 := (q_1).1.2.2.2
        have pn9 := (q_1).n
        have pt8 := (q_1).2.2 en.toNat (by omega) (by omega)
        refine r_load (i := 66) (u := 0) (w := 2) rfl rfl rfl ?_
        refine r_getf (i := 67) (v := 1) (w := 9) (x := (2, 31)) rfl ly36 rfl rfl fun _ => ?_
        refine r_load (i := 68) (u := 0) (w := 2) rfl rfl rfl ?_
        refine r_getf (i := 69) (v := 4) (w := 9) (x := (2, S.p 3)) rfl ly36 rfl rfl fun _ => ?_
        refine r_load (i := 70) (u := 4) (w := 0) rfl rfl rfl ?_
        have h467 := hI.bn
        have h468 := hI.br
        have h469 : S.n 0 = S0.n 0 := hR.eq rfl rfl
        have h470 : S.n 1 = S0.n 1 := hR.eq rfl rfl
        have h471 : S0.n 2 ≤ S.n 2 := hR.n 2 (by decide)
        have h472 : S0.n 3 ≤ S.n 3 := hR.n 3 (by decide)
        have h473 : S.n 4 = S0.n 4 := hR.eq rfl rfl
        refine g_iload (i := 71) (k := 3) rfl rfl rfl (by omega) (by omega) fun h466 => ?_
        have h466 : Rg (S.a 103 en.toNat) := h466
        refine r_load (i := 72) (u := 1) (w := 0) rfl rfl rfl ?_
        refine r_call (i := 73) (u := 7) (v := 30) (w := 0) (b := 0) (na := 1027) (C2 := xC30) (as := [(2, 31), vi (S.a 103 en.toNat), vi st0]) (s := []) rfl rfl rfl rfl rfl rfl rfl (sp30_31 (ea := S.a 103 en.toNat) (st0 := st0) hI ⟨by omega, by omega⟩ ⟨by omega, by omega⟩ (by omega)  (by omega)) (fun r474 S475 hq476 => ?_)
        obtain ⟨z477, rfl, h478, h479, yrp480, nrp481, rfl⟩ := hq476
        refine Or.inr (Or.inl ⟨rfl, ?_⟩)
        refine z_eq (i := 74) (v := 81) rfl ⟨by omega, by omega⟩ (fun h482 => ?_) (fun h483 => ?_)
        · refine r_load (i := 81) (u := 0) (w := 2) rfl rfl rfl ?_
          refine r_getf (i := 82) (v := 3) (w := 9) (x := (2, S.p 2)) rfl ly36 rfl rfl fun _ => ?_
          refine r_load (i := 83) (u := 4) (w := 0) rfl rfl rfl ?_
          refine g_iload (i := 84) (k := 2) rfl rfl rfl (by omega) (by omega) fun h485 => ?_
          have h485 : Rg (S.a 102 en.toNat) := h485
          refine r_store (i := 85) (u := 4) (w := 0) (L1 := [some ((2, 36)), some (vi st0), none, some (vi bk), some (vi (S.a 102 en.toNat)), some (vi lf)]) rfl rfl rfl rfl ?_
          refine r_iinc (i := 86) (u := 4294967295) (v := 5) (s := -1) (L1 := [some ((2, 36)), some (vi st0), none, some (vi bk), some (vi (S.a 102 en.toNat)), some (vi (lf + (-1)))]) rfl rfl rfl rfl rfl ?_
          refine r_goto (i := 87) (v := 62) rfl ?_
          exact ih S hI hF hR bk (S.a 102 en.toNat) (lf + (-1)) ⟨by omega, by omega⟩ ⟨by omega, by omega⟩ ⟨by omega, by omega⟩ (by omega) (by exact q_1) (by omega) (by omega) (by exact s62_s q_4 (by omega) (nrp481 (by omega))) (by omega)
        · refine r_load (i := 75) (u := 0) (w := 2) rfl rfl rfl ?_
          refine r_getf (i := 76) (v := 1) (w := 9) (x := (2, 31)) rfl ly36 rfl rfl fun _ => ?_
          refine r_load (i := 77) (u := 1) (w := 0) rfl rfl rfl ?_
          refine r_putI (i := 78) (v := 1) (w := 7) rfl ly31 rfl ⟨by omega, by omega⟩ ?_
          have hI488 := hI.use0 (z := st0) (by omega) (by omega) (by omega)
          have hF490 := hF.setf (b := 31) (w := 1) (z := st0) rfl
          have hR491 := hR.setf (b := 31) (w := 1) (z := st0)
          have e492 := PTx.setf q_1 (b := 31) (w := 1) (z := st0) rfl
          refine yT_gen (fun S487 hS489 => ?_)
          rw [hS489] at hI488 hF490 hR491 e492
          refine r_load (i := 79) (u := 4) (w := 0) rfl rfl rfl ?_
          have h493 := hI488.b0
          have h494 : S487.f 31 1 = st0 := by rw [← hS489]; exact ysf_eq
          have h495 := hI488.bn
          have h496 := hI488.br
          have h497 : S487.n = S.n := by rw [← hS489]; rfl
          have h498 : S487.n 0 = S.n 0 := congrFun h497 0
          have h499 : S487.n 1 = S.n 1 := congrFun h497 1
          have h500 : S487.n 2 = S.n 2 := congrFun h497 2
          have h501 : S487.n 3 = S.n 3 := congrFun h497 3
          have h502 : S487.n 4 = S.n 4 := congrFun h497 4
          have h503 : S.n 0 = S0.n 0 := hR.eq rfl rfl
          have h504 : S.n 1 = S0.n 1 := hR.eq rfl rfl
          have h505 : S0.n 2 ≤ S.n 2 := hR.n 2 (by decide)
          have h506 : S0.n 3 ≤ S.n 3 := hR.n 3 (by decide)
          have h507 : S.n 4 = S0.n 4 := hR.eq rfl rfl
          have h508 : S487.f 36 5 = S.f 36 5 := by rw [← hS489]; exact ysf_ne (by decide)
          exact r_retI (i := 80) rfl ⟨en, rfl, by omega, by omega, (by omega), (by exact s62_hit q_4 (by omega) (yrp480 (by omega)) (by omega) (by subst hS489; rfl) (by subst hS489; rfl) (fun j => by subst hS489; rfl) (fun j => by subst hS489; rfl) (fun j => by subst hS489; rfl) (fun j => by subst hS489; rfl)), (by show PLat _ _; rw [show S487.f 31 1 = st0 by omega]; exact e492), hI488, hF490, hR491⟩
theorem lp96_34 {G : xk} {d : Nat} {S0 : yS} {st0 : Int} (h_st0 : 0 ≤ st0 ∧ st0 ≤ 60000) (p_0 : 0 ≤ st0 ∧ st0 + 3 ≤ S0.f 31 1 ∧ S0.f 31 1 ≤ 60000) (p_1 : PLat S0 st0) (hd : 4 ≤ d + 1) : ∀ (n : Nat), ∀ (S : yS) (hI : yI S) (hF : yFr [(31, 1), (36, 5)] [37, 100, 102, 103, 105] S0 S) (hR : yRm [2, 3] S0 S) (sm i0 : Int) (h_sm : -2147483648 ≤ sm ∧ sm ≤ 2147483647) (h_i0 : 0 ≤ i0 ∧ i0 ≤ 60000) (q_0 : 0 ≤ st0 ∧ st0 + 3 ≤ S.f 31 1 ∧ S.f 31 1 ≤ 60000) (q_1 : PLat S st0) (q_2 : S.f 31 1 = S0.f 31 1) (q_3 : s34 S0 S st0 sm i0) (q_4 : st0 ≤ i0) (hn : 60001 - i0 < (n : Nat)), yT xPr G LY xC96 34 [some ((2, 36)), some (vi st0), some (vi sm), some (vi i0), none, none] [] S (d + 1) (fun r S' => ∃ z : Int, r = (1, vi z) ∧ 0 ≤ z ∧ z ≤ 20001 ∧ (st0 ≤ S'.f 31 1 ∧ S'.f 31 1 ≤ S0.f 31 1) ∧ stQ S0 S' st0 z ∧ PL S' ∧ yI S' ∧ yFr [(31, 1), (36, 5)] [37, 100, 102, 103, 105] S0 S' ∧ yRm [2, 3] S0 S') := by
  intro n
  induction n with
  | zero => intro S hI hF hR sm i0 h_sm h_i0 q_0 q_1 q_2 q_3 q_4 hn; exact absurd hn (by omega)
  | succ n ih =>
    intro S hI hF hR sm i0 h_sm h_i0 q_0 q_1 q_2 q_3 q_4 hn
    have h1 := hI.b0
    refine r_load (i := 34) (u := 3) (w := 0) rfl rfl rfl ?_
    refine r_load (i := 35) (u := 0) (w := 2) rfl rfl rfl ?_
    refine r_getf (i := 36) (v := 1) (w := 9) (x := (2, 31)) rfl ly36 rfl rfl fun _ => ?_
    refine r_getf (i := 37) (v := 1) (w := 7) (x := vi (S.f 31 1)) rfl ly31 rfl rfl fun h3 => ?_
    have h3 : Rg (S.f 31 1) := h3
    refine c_ge (i := 38) (v := 50) rfl ⟨by omega, by omega⟩ ⟨by omega, by omega⟩ (fun h4 => ?_) (fun h5 => ?_)
    · refine r_load (i := 50) (u := 2) (w := 0) rfl rfl rfl ?_
      refine r_const (i := 51) (u := 63) (z := 63) rfl rfl ?_
      refine r_iand (i := 52) rfl ?_
      have h6 := @yand_c sm 63 (by decide) (by decide)
      refine r_store (i := 53) (u := 3) (w := 0) (L1 := [some ((2, 36)), some (vi st0), some (vi sm), some (vi (yand sm 63)), none, none]) rfl rfl rfl rfl ?_
      refine r_load (i := 54) (u := 0) (w := 2) rfl rfl rfl ?_
      refine r_getf (i := 55) (v := 2) (w := 9) (x := (2, 37)) rfl ly36 rfl rfl fun _ => ?_
      refine r_load (i := 56) (u := 3) (w := 0) rfl rfl rfl ?_
      refine a_int (i := 57) rfl ly37 rfl (by omega) (by omega) fun h8 => ?_
      have pt9 := (q_1).2.1 (yand sm 63).toNat (by omega)
      have pn9 := (q_1).n
      refine r_store (i := 58) (u := 4) (w := 0) (L1 := [some ((2, 36)), some (vi st0), some (vi sm), some (vi (yand sm 63)), some (vi (S.a 37 (yand sm 63).toNat)), none]) rfl rfl rfl rfl ?_
      refine r_load (i := 59) (u := 0) (w := 2) rfl rfl rfl ?_
      refine r_getf (i := 60) (v := 5) (w := 9) (x := vi (S.f 36 5)) rfl ly36 rfl rfl fun h9 => ?_
      have h9 : Rg (S.f 36 5) := h9
      refine r_store (i := 61) (u := 5) (w := 0) (L1 := [some ((2, 36)), some (vi st0), some (vi sm), some (vi (yand sm 63)), some (vi (S.a 37 (yand sm 63).toNat)), some (vi (S.f 36 5))]) rfl rfl rfl rfl ?_
      refine yT_drop (L1 := [some ((2, 36)), some (vi st0), none, some (vi (yand sm 63)), some (vi (S.a 37 (yand sm 63).toNat)), some (vi (S.f 36 5))]) rfl ?_
      exact lp96_62 h_st0 p_0 p_1 hd _ S hI hF hR (yand sm 63) (S.a 37 (yand sm 63).toNat) (S.f 36 5) ⟨by omega, by omega⟩ ⟨by omega, by omega⟩ ⟨by omega, by omega⟩ (by omega) (by exact q_1) (by omega) (by omega) (by exact s62_0 q_3 (by omega) (by omega)) (Int.lt_succ_toNat _)
    · refine r_const (i := 39) (u := 31) (z := 31) rfl rfl ?_
      refine r_load (i := 40) (u := 2) (w := 0) rfl rfl rfl ?_
      refine r_imul (i := 41) rfl ?_
      refine r_load (i := 42) (u := 0) (w := 2) rfl rfl rfl ?_
      refine r_getf (i := 43) (v := 1) (w := 9) (x := (2, 31)) rfl ly36 rfl rfl fun _ => ?_
      refine r_load (i := 44) (u := 3) (w := 0) rfl rfl rfl ?_
      have h11 := hI.bn
      have h12 := hI.br
      have h13 : S.n 0 = S0.n 0 := hR.eq rfl rfl
      have h14 : S.n 1 = S0.n 1 := hR.eq rfl rfl
      have h15 : S0.n 2 ≤ S.n 2 := hR.n 2 (by decide)
      have h16 : S0.n 3 ≤ S.n 3 := hR.n 3 (by decide)
      have h17 : S.n 4 = S0.n 4 := hR.eq rfl rfl
      refine r_call (i := 45) (u := 7) (v := 25) (w := 0) (b := 0) (na := 514) (C2 := xC25) (as := [(2, 31), vi i0]) (s := [vi (31 * sm)]) rfl rfl rfl rfl rfl rfl rfl (sp25_31 (k := i0) hI ⟨by omega, by omega⟩ (by omega)  (by omega)) (fun r18 S19 hq20 => ?_)
      obtain ⟨z21, rfl, h22, h23, h24, rfl⟩ := hq20
      refine Or.inr (Or.inl ⟨rfl, ?_⟩)
      refine r_iadd (i := 46) rfl ?_
      rw [vi_sg ((31 * sm) + z21)]
      have h25 := ysg_rg ((31 * sm) + z21)
      refine r_store (i := 47) (u := 2) (w := 0) (L1 := [some ((2, 36)), some (vi st0), some (vi (ysg ((31 * sm) + z21))), some (vi i0), none, none]) rfl rfl rfl rfl ?_
      refine r_iinc (i := 48) (u := 1) (v := 3) (s := 1) (L1 := [some ((2, 36)), some (vi st0), some (vi (ysg ((31 * sm) + z21))), some (vi (i0 + 1)), none, none]) rfl rfl rfl rfl rfl ?_
      refine r_goto (i := 49) (v := 34) rfl ?_
      exact ih S hI hF hR (ysg ((31 * sm) + z21)) (i0 + 1) ⟨by omega, by omega⟩ ⟨by omega, by omega⟩ (by omega) (by exact q_1) (by omega) (by exact s34_s q_3 (by omega) (by omega) (by omega) (by omega)) (by omega) (by omega)
/-- ProxyForge$Pool.settled -/
theorem sp96 {G : xk} {S : yS} {d : Nat} (hI : yI S) {st0 : Int} (h_st0 : 0 ≤ st0 ∧ st0 ≤ 60000) (p_0 : 0 ≤ st0 ∧ st0 + 3 ≤ S.f 31 1 ∧ S.f 31 1 ≤ 60000) (p_1 : PLat S st0) (hd : 4 ≤ d) : yT xPr G LY xC96 0 [some ((2, 36)), some (vi st0)] [] S d (fun r S' => ∃ z : Int, r = (1, vi z) ∧ 0 ≤ z ∧ z ≤ 20001 ∧ (st0 ≤ S'.f 31 1 ∧ S'.f 31 1 ≤ S.f 31 1) ∧ stQ S S' st0 z ∧ PL S' ∧ yI S' ∧ yFr [(31, 1), (36, 5)] [37, 100, 102, 103, 105] S S' ∧ yRm [2, 3] S S') := by
  refine yT_pad 4 ?_
  show yT xPr G LY xC96 0 [some ((2, 36)), some (vi st0), none, none, none, none] [] S d _
  obtain ⟨d, rfl⟩ : ∃ q, d = q + 1 := ⟨d - 1, by omega⟩
  have hF : yFr [(31, 1), (36, 5)] [37, 100, 102, 103, 105] S S := yFr.refl S
  have hR : yRm [2, 3] S S := yRm.refl S
  have h1 := hI.b0
  have e_PT := p_1
  refine r_load (i := 0) (u := 0) (w := 2) rfl rfl rfl ?_
  refine r_getf (i := 1) (v := 1) (w := 9) (x := (2, 31)) rfl ly36 rfl rfl fun _ => ?_
  refine r_load (i := 2) (u := 1) (w := 0) rfl rfl rfl ?_
  have h3 := hI.bn
  have h4 := hI.br
  refine r_call (i := 3) (u := 7) (v := 25) (w := 0) (b := 0) (na := 514) (C2 := xC25) (as := [(2, 31), vi st0]) (s := []) rfl rfl rfl rfl rfl rfl rfl (sp25_31 (k := st0) hI ⟨by omega, by omega⟩ (by omega)  (by omega)) (fun r5 S6 hq7 => ?_)
  obtain ⟨z8, rfl, h9, h10, h11, rfl⟩ := hq7
  refine Or.inr (Or.inl ⟨rfl, ?_⟩)
  refine r_const (i := 4) (u := 1) (z := 1) rfl rfl ?_
  refine c_ne (i := 5) (v := 30) rfl ⟨by omega, by omega⟩ ⟨by omega, by omega⟩ (fun h12 => ?_) (fun h13 => ?_)
  · refine r_const (i := 30) (u := 0) (z := 0) rfl rfl ?_
    refine r_store (i := 31) (u := 2) (w := 0) (L1 := [some ((2, 36)), some (vi st0), some (vi 0), none, none, none]) rfl rfl rfl rfl ?_
    refine r_load (i := 32) (u := 1) (w := 0) rfl rfl rfl ?_
    refine r_store (i := 33) (u := 3) (w := 0) (L1 := [some ((2, 36)), some (vi st0), some (vi 0), some (vi st0), none, none]) rfl rfl rfl rfl ?_
    exact lp96_34 h_st0 p_0 p_1 hd _ S hI hF hR 0 st0 ⟨by omega, by omega⟩ ⟨by omega, by omega⟩ (by omega) (by exact e_PT) (by omega) (by exact s34_o (by omega) (by omega) (by omega)) (by omega) (Int.lt_succ_toNat _)
  · refine r_load (i := 6) (u := 0) (w := 2) rfl rfl rfl ?_
    refine r_getf (i := 7) (v := 1) (w := 9) (x := (2, 31)) rfl ly36 rfl rfl fun _ => ?_
    refine r_getf (i := 8) (v := 1) (w := 7) (x := vi (S.f 31 1)) rfl ly31 rfl rfl fun h15 => ?_
    have h15 : Rg (S.f 31 1) := h15
    refine r_load (i := 9) (u := 1) (w := 0) rfl rfl rfl ?_
    refine r_isub (i := 10) rfl ?_
    refine r_const (i := 11) (u := 3) (z := 3) rfl rfl ?_
    refine r_isub (i := 12) rfl ?_
    rw [vi_sg (((S.f 31 1) - st0) - 3)]
    have h16 := ysg_rg (((S.f 31 1) - st0) - 3)
    refine r_store (i := 13) (u := 2) (w := 0) (L1 := [some ((2, 36)), some (vi st0), some (vi (ysg (((S.f 31 1) - st0) - 3))), none, none, none]) rfl rfl rfl rfl ?_
    refine r_load (i := 14) (u := 0) (w := 2) rfl rfl rfl ?_
    refine r_getf (i := 15) (v := 1) (w := 9) (x := (2, 31)) rfl ly36 rfl rfl fun _ => ?_
    refine r_load (i := 16) (u := 1) (w := 0) rfl rfl rfl ?_
    refine r_const (i := 17) (u := 1) (z := 1) rfl rfl ?_
    refine r_iadd (i := 18) rfl ?_
    refine r_load (i := 19) (u := 2) (w := 0) rfl rfl rfl ?_
    refine r_const (i := 20) (u := 8) (z := 8) rfl rfl ?_
    refine r_iushr (i := 21) rfl (by omega) (by omega) ?_
    have h18 := yshr_rg (ysg (((S.f 31 1) - st0) - 3)) 8
    refine r_call (i := 22) (u := 7) (v := 31) (w := 0) (b := 0) (na := 771) (C2 := xC31) (as := [(2, 31), vi (st0 + 1), vi (yshr (ysg (((S.f 31 1) - st0) - 3)) 8)]) (s := []) rfl rfl rfl rfl rfl rfl rfl (sp31_31 (k := st0 + 1) (b := yshr (ysg (((S.f 31 1) - st0) - 3)) 8) hI ⟨by omega, by omega⟩ ⟨by omega, by omega⟩ (by omega)  (by omega)) (fun r19 S20 hq21 => ?_)
    obtain ⟨rfl, bs22, hI23, hF24, hR25⟩ := hq21
    have hF26 := hF.trans hF24 rfl rfl
    have hR27 := hR.trans hR25 rfl
    have e28 := PTx.fr e_PT hF24 hR25 rfl rfl rfl
    refine Or.inl ⟨rfl, ?_⟩
    refine r_load (i := 23) (u := 0) (w := 2) rfl rfl rfl ?_
    refine r_getf (i := 24) (v := 1) (w := 9) (x := (2, 31)) rfl ly36 rfl rfl fun _ => ?_
    refine r_load (i := 25) (u := 1) (w := 0) rfl rfl rfl ?_
    refine r_const (i := 26) (u := 2) (z := 2) rfl rfl ?_
    refine r_iadd (i := 27) rfl ?_
    refine r_load (i := 28) (u := 2) (w := 0) rfl rfl rfl ?_
    have h30 := hI23.bn
    have h31 := hI23.br
    have h32 : S20.n 0 = S.n 0 := hR25.eq rfl rfl
    have h33 : S20.n 1 = S.n 1 := hR25.eq rfl rfl
    have h34 : S20.n 2 = S.n 2 := hR25.eq rfl rfl
    have h35 : S20.n 3 = S.n 3 := hR25.eq rfl rfl
    have h36 : S20.n 4 = S.n 4 := hR25.eq rfl rfl
    have h37 := hI23.b0
    have h38 : S20.f 31 1 = S.f 31 1 := hF24.f rfl
    refine r_call (i := 29) (u := 7) (v := 31) (w := 0) (b := 0) (na := 771) (C2 := xC31) (as := [(2, 31), vi (st0 + 2), vi (ysg (((S.f 31 1) - st0) - 3))]) (s := []) rfl rfl rfl rfl rfl rfl rfl (sp31_31 (k := st0 + 2) (b := ysg (((S.f 31 1) - st0) - 3)) hI23 ⟨by omega, by omega⟩ ⟨by omega, by omega⟩ (by omega)  (by omega)) (fun r39 S40 hq41 => ?_)
    obtain ⟨rfl, bs42, hI43, hF44, hR45⟩ := hq41
    have hF46 := hF26.trans hF44 rfl rfl
    have hR47 := hR27.trans hR45 rfl
    have e48 := PTx.fr e28 hF44 hR45 rfl rfl rfl
    refine Or.inl ⟨rfl, ?_⟩
    refine r_const (i := 30) (u := 0) (z := 0) rfl rfl ?_
    refine r_store (i := 31) (u := 2) (w := 0) (L1 := [some ((2, 36)), some (vi st0), some (vi 0), none, none, none]) rfl rfl rfl rfl ?_
    refine r_load (i := 32) (u := 1) (w := 0) rfl rfl rfl ?_
    refine r_store (i := 33) (u := 3) (w := 0) (L1 := [some ((2, 36)), some (vi st0), some (vi 0), some (vi st0), none, none]) rfl rfl rfl rfl ?_
    have h49 := hI43.b0
    have h50 : S40.f 31 1 = S20.f 31 1 := hF44.f rfl
    have h51 : S20.f 31 1 = S.f 31 1 := hF24.f rfl
    exact lp96_34 h_st0 p_0 p_1 hd _ S40 hI43 hF46 hR47 0 st0 ⟨by omega, by omega⟩ ⟨by omega, by omega⟩ (by omega) (by exact e48) (by omega) (by exact s34_t (by omega) (by omega) (by omega) ((ysg_fact _).2 (by omega)) (by omega) (by omega) bs22 bs42 (sPl_fr hF24 rfl rfl) (sPl_fr hF44 rfl rfl)) (by omega) (Int.lt_succ_toNat _)
end XNC
