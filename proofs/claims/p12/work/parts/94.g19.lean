set_option linter.unusedVariables false
set_option maxRecDepth 4000
noncomputable section XNC
/-- ProxyForgeLaw.type -/
theorem sp179 {G : xk} {S : yS} {d : Nat} (hI : yI S) {kR : Int} {p0 : Int} (h_p0 : 0 ≤ p0 ∧ p0 ≤ 1) {p1 : Int} (h_p1 : -2147483648 ≤ p1 ∧ p1 ≤ 2147483647) {p2 : Int} (h_p2 : -2147483648 ≤ p2 ∧ p2 ≤ 2147483647) {p3 : Int} (h_p3 : -2147483648 ≤ p3 ∧ p3 ≤ 2147483647) (p_0 : wRM (kR + 1) S) (p_1 : 0 ≤ kR) (e_N23 : N23 S) (e_CR : CR S) (hd : 7 ≤ d) : yT xPr G LY xC179 0 [some ((2, 0)), some (vi p0), some (vi p1), some (vi p2), some (vi p3), some ((2, 81))] [] S d (fun r S' => ∃ z : Int, r = (1, vi z) ∧ 0 ≤ z ∧ z ≤ 2 ∧ wRM kR S' ∧ hTy S S' p0 p1 p2 p3 z ∧ (z = 0 → c6T S S' p3) ∧ N23 S' ∧ CR S' ∧ yI S' ∧ yFr [(1, 7)] [2, 3, 4, 5, 6, 81] S S') := by
  refine yT_pad 1 ?_
  show yT xPr G LY xC179 0 [some ((2, 0)), some (vi p0), some (vi p1), some (vi p2), some (vi p3), some ((2, 81)), none] [] S d _
  obtain ⟨d, rfl⟩ : ∃ q, d = q + 1 := ⟨d - 1, by omega⟩
  have hF : yFr [(1, 7)] [2, 3, 4, 5, 6, 81] S S := yFr.refl S
  have e_RM := p_0
  refine r_load (i := 0) (u := 5) (w := 2) rfl rfl rfl ?_
  refine r_const (i := 1) (u := 0) (z := 0) rfl rfl ?_
  refine r_load (i := 2) (u := 0) (w := 2) rfl rfl rfl ?_
  refine r_load (i := 3) (u := 1) (w := 0) rfl rfl rfl ?_
  refine r_load (i := 4) (u := 2) (w := 0) rfl rfl rfl ?_
  refine r_load (i := 5) (u := 3) (w := 0) rfl rfl rfl ?_
  refine r_load (i := 6) (u := 4) (w := 0) rfl rfl rfl ?_
  have h1 := hI.f tf1_7
  refine r_call (i := 7) (u := 3940705509310464) (v := 21) (w := 11) (b := 0) (na := 1285) (C2 := xC21) (as := [(2, 0), vi p0, vi p1, vi p2, vi p3]) (s := [vi 0, (2, 81)]) rfl rfl rfl rfl rfl rfl rfl (sp21 (b := p0) (fl := p1) (p := p2) (up := p3) hI ⟨by omega, by omega⟩ ⟨by omega, by omega⟩ ⟨by omega, by omega⟩ ⟨by omega, by omega⟩   (by omega)) (fun r2 S3 hq4 => ?_)
  rcases hq4 with hq5 | ⟨a7, c9, rfl, hc6, rfl⟩
  · obtain ⟨z8, rfl, h9, h10, tc11, tl12, tz13, ct14, c6t15, hI16, hF17, hR18⟩ := hq5
    have hF19 := hF.trans hF17 rfl rfl
    have e20 := N23x.fr e_N23 hF17 hR18 rfl rfl rfl
    have e21 := CRx.fr e_CR hF17 rfl rfl
    have e22 := wRM_rm e_RM hR18
    refine Or.inr (Or.inl ⟨rfl, ?_⟩)
    refine r_i2l (i := 8) rfl ⟨by omega, by omega⟩ ?_
    refine r_lastore (i := 9) rfl ly81 (by decide) (by omega) (by omega) ⟨by omega, by omega⟩ ?_
    have hI24 := hI16.seta0 (b := 81) (j := (0 : Int).toNat) (z := z8) rfl rfl
    have hF26 := hF19.seta (b := 81) (j := (0 : Int).toNat) (z := z8) rfl
    have e28 := N23x.seta e20 (b := 81) (j := (0 : Int).toNat) (z := z8) rfl
    have e29 := CRx.seta e21 (b := 81) (j := (0 : Int).toNat) (z := z8) rfl
    have e30 := wRM_a e22 (b := 81) (j := (0 : Int).toNat) (z := z8)
    refine yT_gen (fun S23 hS25 => ?_)
    rw [hS25] at hI24 hF26  e28 e29 e30
    refine r_goto (i := 10) (v := 17) rfl ?_
    refine r_const (i := 17) (u := 0) (z := 0) rfl rfl ?_
    exact r_retI (i := 18) rfl ⟨0, rfl, by omega, by omega, (by exact wRM_le e30 (by omega)), (by exact Or.inl ⟨rfl, tc11, tl12, by first | (subst hS25; exact ysa_eq.trans tz13) | (subst_vars; rfl), by subst hS25; exact cTy81 ct14⟩), (by intro _; subst hS25; exact c6t15), e28, e29, hI24, hF26⟩
  · obtain ⟨hI31, rm32⟩ := wRM_cost e_RM hI (by omega)
    have e33 : N23 (ycost S 1 6) := e_N23
    have e34 : CR (ycost S 1 6) := e_CR
    have hF35 : yFr [(1, 7)] [2, 3, 4, 5, 6, 81] S (ycost S 1 6) := hF
    rcases hc6 with ⟨rfl, xphc6⟩ | ⟨rfl, xphc6⟩
    · refine Or.inr (Or.inr (Or.inl ⟨rfl, rfl, by decide, ?_⟩))
      refine r_store (i := 11) (u := 6) (w := 2) (L1 := [some ((2, 0)), some (vi p0), some (vi p1), some (vi p2), some (vi p3), some ((2, 81)), some ((2, a7))]) rfl rfl rfl rfl ?_
      refine r_const (i := 12) (u := 1) (z := 1) rfl rfl ?_
      exact r_retI (i := 13) rfl ⟨1, rfl, by omega, by omega, (by exact wRM_le rm32 (by omega)), (by first | exact Or.inr (Or.inl ⟨rfl, xphc6, rfl, rfl⟩) | exact Or.inr (Or.inr ⟨rfl, xphc6.1, xphc6.2, rfl, rfl⟩)), (by intro hz; exact absurd hz (by omega)), e33, e34, hI31, hF35⟩
    · refine Or.inr (Or.inr (Or.inr ⟨rfl, (show (13 : Nat) ≠ 3940705509310464 / 65536 % 65536 by decide), rfl, by decide, ?_⟩))
      refine r_store (i := 14) (u := 6) (w := 2) (L1 := [some ((2, 0)), some (vi p0), some (vi p1), some (vi p2), some (vi p3), some ((2, 81)), some ((2, a7))]) rfl rfl rfl rfl ?_
      refine r_const (i := 15) (u := 2) (z := 2) rfl rfl ?_
      exact r_retI (i := 16) rfl ⟨2, rfl, by omega, by omega, (by exact wRM_le rm32 (by omega)), (by first | exact Or.inr (Or.inl ⟨rfl, xphc6, rfl, rfl⟩) | exact Or.inr (Or.inr ⟨rfl, xphc6.1, xphc6.2, rfl, rfl⟩)), (by intro hz; exact absurd hz (by omega)), e33, e34, hI31, hF35⟩
/-- ProxyForgeLaw.implement -/
theorem sp176 {G : xk} {S : yS} {d : Nat} (hI : yI S) {kR : Int} {p0 : Int} (h_p0 : -2147483648 ≤ p0 ∧ p0 ≤ 2147483647) {p1 : Int} (h_p1 : -2147483648 ≤ p1 ∧ p1 ≤ 2147483647) (p_0 : wRM (kR + 1) S) (p_1 : 0 ≤ kR) (e_N23 : N23 S) (e_CR : CR S) (hd : 7 ≤ d) : yT xPr G LY xC176 0 [some ((2, 0)), some (vi p0), some (vi p1)] [] S d (fun r S' => ∃ z : Int, r = (1, vi z) ∧ 0 ≤ z ∧ z ≤ 2 ∧ wRM kR S' ∧ hIm S S' p0 p1 z ∧ N23 S' ∧ CR S' ∧ yI S' ∧ yFr [] [6, 7, 8] S S') := by
  refine yT_pad 1 ?_
  show yT xPr G LY xC176 0 [some ((2, 0)), some (vi p0), some (vi p1), none] [] S d _
  obtain ⟨d, rfl⟩ : ∃ q, d = q + 1 := ⟨d - 1, by omega⟩
  have hF : yFr [] [6, 7, 8] S S := yFr.refl S
  have e_RM := p_0
  refine r_load (i := 0) (u := 0) (w := 2) rfl rfl rfl ?_
  refine r_load (i := 1) (u := 1) (w := 0) rfl rfl rfl ?_
  refine r_load (i := 2) (u := 2) (w := 0) rfl rfl rfl ?_
  refine r_call (i := 3) (u := 786432) (v := 10) (w := 5) (b := 0) (na := 771) (C2 := xC10) (as := [(2, 0), vi p0, vi p1]) (s := []) rfl rfl rfl rfl rfl rfl rfl (sp10 (t := p0) (f := p1) hI ⟨by omega, by omega⟩ ⟨by omega, by omega⟩   (by omega)) (fun r1 S2 hq3 => ?_)
  rcases hq3 with hq4 | ⟨a6, c9, rfl, hc5, rfl⟩
  · obtain ⟨rfl, ic7, ci28, hI9, hF10, hR11⟩ := hq4
    have hF12 := hF.trans hF10 rfl rfl
    have e13 := N23x.fr e_N23 hF10 hR11 rfl rfl rfl
    have e14 := CRx.fr e_CR hF10 rfl rfl
    have e15 := wRM_rm e_RM hR11
    refine Or.inl ⟨rfl, ?_⟩
    refine r_goto (i := 4) (v := 8) rfl ?_
    refine r_const (i := 8) (u := 0) (z := 0) rfl rfl ?_
    exact r_retI (i := 9) rfl ⟨0, rfl, by omega, by omega, (by exact wRM_le e15 (by omega)), (by exact Or.inl ⟨rfl, ic7, ci28⟩), e13, e14, hI9, hF12⟩
  · obtain ⟨hI16, rm17⟩ := wRM_cost e_RM hI (by omega)
    have e18 : N23 (ycost S 1 6) := e_N23
    have e19 : CR (ycost S 1 6) := e_CR
    have hF20 : yFr [] [6, 7, 8] S (ycost S 1 6) := hF
    obtain ⟨rfl, xphc5⟩ := hc5
    · refine Or.inr (Or.inr (Or.inl ⟨rfl, rfl, by decide, ?_⟩))
      refine r_store (i := 5) (u := 3) (w := 2) (L1 := [some ((2, 0)), some (vi p0), some (vi p1), some ((2, a6))]) rfl rfl rfl rfl ?_
      refine r_const (i := 6) (u := 1) (z := 1) rfl rfl ?_
      exact r_retI (i := 7) rfl ⟨1, rfl, by omega, by omega, (by exact wRM_le rm17 (by omega)), (by exact Or.inr ⟨rfl, xphc5, rfl, rfl⟩), e18, e19, hI16, hF20⟩
/-- ProxyForgeLaw.method -/
theorem sp177 {G : xk} {S : yS} {d : Nat} (hI : yI S) {kR : Int} {p0 : Int} (h_p0 : -2147483648 ≤ p0 ∧ p0 ≤ 2147483647) {p1 : Int} (h_p1 : -2147483648 ≤ p1 ∧ p1 ≤ 2147483647) {p2 : Int} (h_p2 : -2147483648 ≤ p2 ∧ p2 ≤ 2147483647) {p3 : Int} (h_p3 : -2147483648 ≤ p3 ∧ p3 ≤ 2147483647) {p4 : Int} (h_p4 : -2147483648 ≤ p4 ∧ p4 ≤ 2147483647) (p_0 : wRM (kR + 1) S) (p_1 : 0 ≤ kR) (e_N23 : N23 S) (e_CR : CR S) (hd : 7 ≤ d) : yT xPr G LY xC177 0 [some ((2, 0)), some (vi p0), some (vi p1), some (vi p2), some (vi p3), some (vi p4), some ((2, 81))] [] S d (fun r S' => ∃ z : Int, r = (1, vi z) ∧ 0 ≤ z ∧ z ≤ 2 ∧ wRM kR S' ∧ hMe S S' p0 p1 p2 p3 p4 z ∧ N23 S' ∧ CR S' ∧ yI S' ∧ yFr [(9, 8)] [10, 11, 12, 13, 14, 81] S S') := by
  refine yT_pad 1 ?_
  show yT xPr G LY xC177 0 [some ((2, 0)), some (vi p0), some (vi p1), some (vi p2), some (vi p3), some (vi p4), some ((2, 81)), none] [] S d _
  obtain ⟨d, rfl⟩ : ∃ q, d = q + 1 := ⟨d - 1, by omega⟩
  have hF : yFr [(9, 8)] [10, 11, 12, 13, 14, 81] S S := yFr.refl S
  have e_RM := p_0
  refine r_load (i := 0) (u := 6) (w := 2) rfl rfl rfl ?_
  refine r_const (i := 1) (u := 0) (z := 0) rfl rfl ?_
  refine r_load (i := 2) (u := 0) (w := 2) rfl rfl rfl ?_
  refine r_load (i := 3) (u := 1) (w := 0) rfl rfl rfl ?_
  refine r_load (i := 4) (u := 2) (w := 0) rfl rfl rfl ?_
  refine r_load (i := 5) (u := 3) (w := 0) rfl rfl rfl ?_
  refine r_load (i := 6) (u := 4) (w := 0) rfl rfl rfl ?_
  refine r_load (i := 7) (u := 5) (w := 0) rfl rfl rfl ?_
  have h1 := hI.f tf9_8
  refine r_call (i := 8) (u := 4222180486021120) (v := 13) (w := 12) (b := 0) (na := 1542) (C2 := xC13) (as := [(2, 0), vi p0, vi p1, vi p2, vi p3, vi p4]) (s := [vi 0, (2, 81)]) rfl rfl rfl rfl rfl rfl rfl (sp13 (t := p0) (w0 := p1) (fl := p2) (p := p3) (b := p4) hI ⟨by omega, by omega⟩ ⟨by omega, by omega⟩ ⟨by omega, by omega⟩ ⟨by omega, by omega⟩ ⟨by omega, by omega⟩   (by omega)) (fun r2 S3 hq4 => ?_)
  rcases hq4 with hq5 | ⟨a7, c9, rfl, hc6, rfl⟩
  · obtain ⟨z8, rfl, h9, h10, tc11, tl12, tz13, ct14, hI15, hF16, hR17⟩ := hq5
    have hF18 := hF.trans hF16 rfl rfl
    have e19 := N23x.fr e_N23 hF16 hR17 rfl rfl rfl
    have e20 := CRx.fr e_CR hF16 rfl rfl
    have e21 := wRM_rm e_RM hR17
    refine Or.inr (Or.inl ⟨rfl, ?_⟩)
    refine r_i2l (i := 9) rfl ⟨by omega, by omega⟩ ?_
    refine r_lastore (i := 10) rfl ly81 (by decide) (by omega) (by omega) ⟨by omega, by omega⟩ ?_
    have hI23 := hI15.seta0 (b := 81) (j := (0 : Int).toNat) (z := z8) rfl rfl
    have hF25 := hF18.seta (b := 81) (j := (0 : Int).toNat) (z := z8) rfl
    have e27 := N23x.seta e19 (b := 81) (j := (0 : Int).toNat) (z := z8) rfl
    have e28 := CRx.seta e20 (b := 81) (j := (0 : Int).toNat) (z := z8) rfl
    have e29 := wRM_a e21 (b := 81) (j := (0 : Int).toNat) (z := z8)
    refine yT_gen (fun S22 hS24 => ?_)
    rw [hS24] at hI23 hF25  e27 e28 e29
    refine r_goto (i := 11) (v := 18) rfl ?_
    refine r_const (i := 18) (u := 0) (z := 0) rfl rfl ?_
    exact r_retI (i := 19) rfl ⟨0, rfl, by omega, by omega, (by exact wRM_le e29 (by omega)), (by exact Or.inl ⟨rfl, tc11, tl12, by first | (subst hS24; exact ysa_eq.trans tz13) | (subst_vars; rfl), by subst hS24; exact cMe81 ct14⟩), e27, e28, hI23, hF25⟩
  · obtain ⟨hI30, rm31⟩ := wRM_cost e_RM hI (by omega)
    have e32 : N23 (ycost S 1 6) := e_N23
    have e33 : CR (ycost S 1 6) := e_CR
    have hF34 : yFr [(9, 8)] [10, 11, 12, 13, 14, 81] S (ycost S 1 6) := hF
    rcases hc6 with ⟨rfl, xphc6⟩ | ⟨rfl, xphc6⟩
    · refine Or.inr (Or.inr (Or.inl ⟨rfl, rfl, by decide, ?_⟩))
      refine r_store (i := 12) (u := 7) (w := 2) (L1 := [some ((2, 0)), some (vi p0), some (vi p1), some (vi p2), some (vi p3), some (vi p4), some ((2, 81)), some ((2, a7))]) rfl rfl rfl rfl ?_
      refine r_const (i := 13) (u := 1) (z := 1) rfl rfl ?_
      exact r_retI (i := 14) rfl ⟨1, rfl, by omega, by omega, (by exact wRM_le rm31 (by omega)), (by first | exact Or.inr (Or.inl ⟨rfl, xphc6, rfl, rfl⟩) | exact Or.inr (Or.inr ⟨rfl, xphc6.1, xphc6.2, rfl, rfl⟩)), e32, e33, hI30, hF34⟩
    · refine Or.inr (Or.inr (Or.inr ⟨rfl, (show (13 : Nat) ≠ 4222180486021120 / 65536 % 65536 by decide), rfl, by decide, ?_⟩))
      refine r_store (i := 15) (u := 7) (w := 2) (L1 := [some ((2, 0)), some (vi p0), some (vi p1), some (vi p2), some (vi p3), some (vi p4), some ((2, 81)), some ((2, a7))]) rfl rfl rfl rfl ?_
      refine r_const (i := 16) (u := 2) (z := 2) rfl rfl ?_
      exact r_retI (i := 17) rfl ⟨2, rfl, by omega, by omega, (by exact wRM_le rm31 (by omega)), (by first | exact Or.inr (Or.inl ⟨rfl, xphc6, rfl, rfl⟩) | exact Or.inr (Or.inr ⟨rfl, xphc6.1, xphc6.2, rfl, rfl⟩)), e32, e33, hI30, hF34⟩
/-- ProxyForgeLaw.throwing -/
theorem sp178 {G : xk} {S : yS} {d : Nat} (hI : yI S) {kR : Int} {p0 : Int} (h_p0 : -2147483648 ≤ p0 ∧ p0 ≤ 2147483647) {p1 : Int} (h_p1 : -2147483648 ≤ p1 ∧ p1 ≤ 2147483647) (p_0 : wRM (kR + 1) S) (p_1 : 0 ≤ kR) (e_N23 : N23 S) (e_CR : CR S) (hd : 7 ≤ d) : yT xPr G LY xC178 0 [some ((2, 0)), some (vi p0), some (vi p1)] [] S d (fun r S' => ∃ z : Int, r = (1, vi z) ∧ 0 ≤ z ∧ z ≤ 2 ∧ wRM kR S' ∧ hTh S S' p0 p1 z ∧ N23 S' ∧ CR S' ∧ yI S' ∧ yFr [] [15, 16] S S') := by
  refine yT_pad 1 ?_
  show yT xPr G LY xC178 0 [some ((2, 0)), some (vi p0), some (vi p1), none] [] S d _
  obtain ⟨d, rfl⟩ : ∃ q, d = q + 1 := ⟨d - 1, by omega⟩
  have hF : yFr [] [15, 16] S S := yFr.refl S
  have e_RM := p_0
  refine r_load (i := 0) (u := 0) (w := 2) rfl rfl rfl ?_
  refine r_load (i := 1) (u := 1) (w := 0) rfl rfl rfl ?_
  refine r_load (i := 2) (u := 2) (w := 0) rfl rfl rfl ?_
  refine r_call (i := 3) (u := 786432) (v := 20) (w := 5) (b := 0) (na := 771) (C2 := xC20) (as := [(2, 0), vi p0, vi p1]) (s := []) rfl rfl rfl rfl rfl rfl rfl (sp20 (m := p0) (t := p1) hI ⟨by omega, by omega⟩ ⟨by omega, by omega⟩   (by omega)) (fun r1 S2 hq3 => ?_)
  rcases hq3 with hq4 | ⟨a6, c9, rfl, hc5, rfl⟩
  · obtain ⟨rfl, tc27, cth28, hI9, hF10, hR11⟩ := hq4
    have hF12 := hF.trans hF10 rfl rfl
    have e13 := N23x.fr e_N23 hF10 hR11 rfl rfl rfl
    have e14 := CRx.fr e_CR hF10 rfl rfl
    have e15 := wRM_rm e_RM hR11
    refine Or.inl ⟨rfl, ?_⟩
    refine r_goto (i := 4) (v := 8) rfl ?_
    refine r_const (i := 8) (u := 0) (z := 0) rfl rfl ?_
    exact r_retI (i := 9) rfl ⟨0, rfl, by omega, by omega, (by exact wRM_le e15 (by omega)), (by exact Or.inl ⟨rfl, tc27, cth28⟩), e13, e14, hI9, hF12⟩
  · obtain ⟨hI16, rm17⟩ := wRM_cost e_RM hI (by omega)
    have e18 : N23 (ycost S 1 6) := e_N23
    have e19 : CR (ycost S 1 6) := e_CR
    have hF20 : yFr [] [15, 16] S (ycost S 1 6) := hF
    obtain ⟨rfl, xphc5⟩ := hc5
    · refine Or.inr (Or.inr (Or.inl ⟨rfl, rfl, by decide, ?_⟩))
      refine r_store (i := 5) (u := 3) (w := 2) (L1 := [some ((2, 0)), some (vi p0), some (vi p1), some ((2, a6))]) rfl rfl rfl rfl ?_
      refine r_const (i := 6) (u := 1) (z := 1) rfl rfl ?_
      exact r_retI (i := 7) rfl ⟨1, rfl, by omega, by omega, (by exact wRM_le rm17 (by omega)), (by exact Or.inr ⟨rfl, xphc5, rfl, rfl⟩), e18, e19, hI16, hF20⟩
/-- ProxyForgeLaw.forge -/
theorem sp175 {G : xk} {S : yS} {d : Nat} (hI : yI S) {kR : Int} {p0 : Int} (h_p0 : -2147483648 ≤ p0 ∧ p0 ≤ 2147483647) {p1 : Int} (h_p1 : -2147483648 ≤ p1 ∧ p1 ≤ 2147483647) {p2 : Int} (h_p2 : -2147483648 ≤ p2 ∧ p2 ≤ 2147483647) {p3 : Int} (h_p3 : -2147483648 ≤ p3 ∧ p3 ≤ 2147483647) (p_0 : wRM (kR + 1) S) (p_1 : 0 ≤ kR) (e_N23 : N23 S) (e_CR : CR S) (hd : 26 ≤ d) : yT xPr G LY xC175 0 [some ((2, 0)), some (vi p0), some (vi p1), some (vi p2), some (vi p3), some ((2, 81))] [] S d (fun r S' => ∃ z : Int, r = (1, vi z) ∧ 0 ≤ z ∧ z ≤ 2 ∧ wRM kR S' ∧ hFx S S' p0 p1 p2 p3 z ∧ N23 S' ∧ CR S' ∧ yI S' ∧ yFr [(17, 6), (17, 7), (17, 8), (17, 9), (17, 10), (17, 11), (17, 12), (22, 3), (31, 1), (33, 7), (33, 8), (33, 9), (33, 10), (33, 11), (33, 12), (33, 13), (33, 14), (33, 15), (34, 1), (36, 5)] [18, 19, 20, 21, 23, 24, 25, 37, 81, 100, 101, 102, 103, 105] S S') := by
  refine yT_pad 1 ?_
  show yT xPr G LY xC175 0 [some ((2, 0)), some (vi p0), some (vi p1), some (vi p2), some (vi p3), some ((2, 81)), none] [] S d _
  obtain ⟨d, rfl⟩ : ∃ q, d = q + 1 := ⟨d - 1, by omega⟩
  have hF : yFr [(17, 6), (17, 7), (17, 8), (17, 9), (17, 10), (17, 11), (17, 12), (22, 3), (31, 1), (33, 7), (33, 8), (33, 9), (33, 10), (33, 11), (33, 12), (33, 13), (33, 14), (33, 15), (34, 1), (36, 5)] [18, 19, 20, 21, 23, 24, 25, 37, 81, 100, 101, 102, 103, 105] S S := yFr.refl S
  have e_RM := p_0
  refine r_load (i := 0) (u := 5) (w := 2) rfl rfl rfl ?_
  refine r_const (i := 1) (u := 0) (z := 0) rfl rfl ?_
  refine r_load (i := 2) (u := 0) (w := 2) rfl rfl rfl ?_
  refine r_load (i := 3) (u := 1) (w := 0) rfl rfl rfl ?_
  refine r_load (i := 4) (u := 2) (w := 0) rfl rfl rfl ?_
  refine r_load (i := 5) (u := 3) (w := 0) rfl rfl rfl ?_
  refine r_load (i := 6) (u := 4) (w := 0) rfl rfl rfl ?_
  refine r_call (i := 7) (u := 786432) (v := 8) (w := 11) (b := 0) (na := 1797) (C2 := xC8) (as := [(2, 0), vi p0, vi p1, vi p2, vi p3]) (s := [vi 0, (2, 81)]) rfl rfl rfl rfl rfl rfl rfl (sp8 (t := p0) (fa := p1) (fb := p2) (fc := p3) hI ⟨by omega, by omega⟩ ⟨by omega, by omega⟩ ⟨by omega, by omega⟩ ⟨by omega, by omega⟩  e_N23 (by omega)) (fun r1 S2 hq3 => ?_)
  rcases hq3 with hq4 | ⟨a6, c9, rfl, hc5, rfl⟩
  · obtain ⟨z7, rfl, h8, h9, fo10, e11, hI12, hF13, hR14⟩ := hq4
    have hF15 := hF.trans hF13 rfl rfl
    have e16 := CRx.fr e_CR hF13 rfl rfl
    have e17 := wRM_rm e_RM hR14
    refine Or.inr (Or.inl ⟨rfl, ?_⟩)
    refine r_i2l (i := 8) rfl ⟨by omega, by omega⟩ ?_
    refine r_lastore (i := 9) rfl ly81 (by decide) (by omega) (by omega) ⟨by omega, by omega⟩ ?_
    have hI19 := hI12.seta0 (b := 81) (j := (0 : Int).toNat) (z := z7) rfl rfl
    have hF21 := hF15.seta (b := 81) (j := (0 : Int).toNat) (z := z7) rfl
    have e23 := CRx.seta e16 (b := 81) (j := (0 : Int).toNat) (z := z7) rfl
    have e24 := wRM_a e17 (b := 81) (j := (0 : Int).toNat) (z := z7)
    have e25 := N23x.seta e11 (b := 81) (j := (0 : Int).toNat) (z := z7) rfl
    refine yT_gen (fun S18 hS20 => ?_)
    rw [hS20] at hI19 hF21  e23 e24 e25
    refine r_goto (i := 10) (v := 14) rfl ?_
    refine r_const (i := 14) (u := 0) (z := 0) rfl rfl ?_
    exact r_retI (i := 15) rfl ⟨0, rfl, by omega, by omega, (by exact wRM_le e24 (by omega)), (by exact Or.inl ⟨rfl, by subst hS20; rw [ysa_eq]; exact foX_81 fo10⟩), e25, e23, hI19, hF21⟩
  · obtain ⟨hI26, rm27⟩ := wRM_cost e_RM hI (by omega)
    have e28 : N23 (ycost S 1 6) := e_N23
    have e29 : CR (ycost S 1 6) := e_CR
    have hF30 : yFr [(17, 6), (17, 7), (17, 8), (17, 9), (17, 10), (17, 11), (17, 12), (22, 3), (31, 1), (33, 7), (33, 8), (33, 9), (33, 10), (33, 11), (33, 12), (33, 13), (33, 14), (33, 15), (34, 1), (36, 5)] [18, 19, 20, 21, 23, 24, 25, 37, 81, 100, 101, 102, 103, 105] S (ycost S 1 6) := hF
    obtain ⟨rfl, xphc5⟩ := hc5
    · refine Or.inr (Or.inr (Or.inl ⟨rfl, rfl, by decide, ?_⟩))
      refine r_store (i := 11) (u := 6) (w := 2) (L1 := [some ((2, 0)), some (vi p0), some (vi p1), some (vi p2), some (vi p3), some ((2, 81)), some ((2, a6))]) rfl rfl rfl rfl ?_
      refine r_const (i := 12) (u := 1) (z := 1) rfl rfl ?_
      exact r_retI (i := 13) rfl ⟨1, rfl, by omega, by omega, (by exact wRM_le rm27 (by omega)), (by exact Or.inr ⟨rfl, xphc5, rfl, fun _ => rfl, fun _ => rfl, fun _ => rfl⟩), e28, e29, hI26, hF30⟩
/-- ProxyForgeLaw.answer -/
theorem sp173 {G : xk} {S : yS} {d : Nat} (hI : yI S) {kR : Int} {p0 : Int} (h_p0 : -2147483648 ≤ p0 ∧ p0 ≤ 2147483647) {p1 : Int} (h_p1 : Rl p1) (p_0 : wRM (kR + 1) S) (p_1 : 0 ≤ kR) (e_N23 : N23 S) (e_CR : CR S) (hd : 7 ≤ d) : yT xPr G LY xC173 0 [some ((2, 0)), some (vi p0), some (vl p1), none] [] S d (fun r S' => ∃ z : Int, r = (1, vi z) ∧ 0 ≤ z ∧ z ≤ 2 ∧ wRM kR S' ∧ hAnV S S' p0 p1 z ∧ N23 S' ∧ CR S' ∧ yI S' ∧ yFr [(26, 4), (26, 5)] [] S S') := by
  refine yT_pad 1 ?_
  show yT xPr G LY xC173 0 [some ((2, 0)), some (vi p0), some (vl p1), none, none] [] S d _
  obtain ⟨d, rfl⟩ : ∃ q, d = q + 1 := ⟨d - 1, by omega⟩
  have hF : yFr [(26, 4), (26, 5)] [] S S := yFr.refl S
  have e_RM := p_0
  refine r_load (i := 0) (u := 0) (w := 2) rfl rfl rfl ?_
  refine r_load (i := 1) (u := 1) (w := 0) rfl rfl rfl ?_
  refine r_load (i := 2) (u := 2) (w := 1) rfl rfl rfl ?_
  refine r_call (i := 3) (u := 786432) (v := 1) (w := 5) (b := 0) (na := 1027) (C2 := xC1) (as := [(2, 0), vi p0, vl p1]) (s := []) rfl rfl rfl rfl rfl rfl rfl (sp1 (k := p0) (v := p1) hI ⟨by omega, by omega⟩ ⟨by omega, by omega⟩   (by omega)) (fun r1 S2 hq3 => ?_)
  rcases hq3 with hq4 | ⟨a6, c9, rfl, hc5, rfl⟩
  · obtain ⟨rfl, ac7, lk8, lv29, hI10, hF11, hR12⟩ := hq4
    have hF13 := hF.trans hF11 rfl rfl
    have e14 := N23x.fr e_N23 hF11 hR12 rfl rfl rfl
    have e15 := CRx.fr e_CR hF11 rfl rfl
    have e16 := wRM_rm e_RM hR12
    refine Or.inl ⟨rfl, ?_⟩
    refine r_goto (i := 4) (v := 8) rfl ?_
    refine r_const (i := 8) (u := 0) (z := 0) rfl rfl ?_
    exact r_retI (i := 9) rfl ⟨0, rfl, by omega, by omega, (by exact wRM_le e16 (by omega)), (by exact ⟨Or.inl ⟨rfl, ac7⟩, fun _ => ⟨lk8, lv29⟩, fun h9 => absurd h9 (by decide)⟩), e14, e15, hI10, hF13⟩
  · obtain ⟨hI17, rm18⟩ := wRM_cost e_RM hI (by omega)
    have e19 : N23 (ycost S 1 6) := e_N23
    have e20 : CR (ycost S 1 6) := e_CR
    have hF21 : yFr [(26, 4), (26, 5)] [] S (ycost S 1 6) := hF
    obtain ⟨rfl, xphc5⟩ := hc5
    · refine Or.inr (Or.inr (Or.inl ⟨rfl, rfl, by decide, ?_⟩))
      refine r_store (i := 5) (u := 4) (w := 2) (L1 := [some ((2, 0)), some (vi p0), some (vl p1), none, some ((2, a6))]) rfl rfl rfl rfl ?_
      refine r_const (i := 6) (u := 1) (z := 1) rfl rfl ?_
      exact r_retI (i := 7) rfl ⟨1, rfl, by omega, by omega, (by exact wRM_le rm18 (by omega)), (by exact ⟨Or.inr ⟨rfl, xphc5⟩, fun h9 => absurd h9 (by decide), fun _ => ⟨rfl, rfl⟩⟩), e19, e20, hI17, hF21⟩
/-- ProxyForgeLaw.call -/
theorem sp174 {G : xk} {S : yS} {d : Nat} (hI : yI S) {kR : Int} {p0 : Int} (h_p0 : -2147483648 ≤ p0 ∧ p0 ≤ 2147483647) {p1 : Int} (h_p1 : Rl p1) {p2 : Int} (h_p2 : Rl p2) {p3 : Int} (h_p3 : Rl p3) {p4 : Int} (h_p4 : Rl p4) (p_0 : wRM (kR + 1) S) (p_1 : 0 ≤ kR) (e_N23 : N23 S) (e_CR : CR S) (hd : 7 ≤ d) : yT xPr G LY xC174 0 [some ((2, 0)), some (vi p0), some (vl p1), none, some (vl p2), none, some (vl p3), none, some (vl p4), none, some ((2, 81))] [] S d (fun r S' => ∃ z : Int, r = (1, vi z) ∧ 0 ≤ z ∧ z ≤ 2 ∧ wRM kR S' ∧ hCa S S' p0 z ∧ N23 S' ∧ CR S' ∧ yI S' ∧ yFr [(26, 2), (26, 3), (29, 5)] [27, 28, 30, 81] S S') := by
  refine yT_pad 1 ?_
  show yT xPr G LY xC174 0 [some ((2, 0)), some (vi p0), some (vl p1), none, some (vl p2), none, some (vl p3), none, some (vl p4), none, some ((2, 81)), none] [] S d _
  obtain ⟨d, rfl⟩ : ∃ q, d = q + 1 := ⟨d - 1, by omega⟩
  have hF : yFr [(26, 2), (26, 3), (29, 5)] [27, 28, 30, 81] S S := yFr.refl S
  have e_RM := p_0
  refine r_load (i := 0) (u := 10) (w := 2) rfl rfl rfl ?_
  refine r_const (i := 1) (u := 0) (z := 0) rfl rfl ?_
  refine r_load (i := 2) (u := 0) (w := 2) rfl rfl rfl ?_
  refine r_load (i := 3) (u := 1) (w := 0) rfl rfl rfl ?_
  refine r_load (i := 4) (u := 2) (w := 1) rfl rfl rfl ?_
  refine r_load (i := 5) (u := 4) (w := 1) rfl rfl rfl ?_
  refine r_load (i := 6) (u := 6) (w := 1) rfl rfl rfl ?_
  refine r_load (i := 7) (u := 8) (w := 1) rfl rfl rfl ?_
  have h1 := hI.f tf22_3
  refine r_call (i := 8) (u := 786432) (v := 5) (w := 12) (b := 0) (na := 2566) (C2 := xC5) (as := [(2, 0), vi p0, vl p1, vl p2, vl p3, vl p4]) (s := [vi 0, (2, 81)]) rfl rfl rfl rfl rfl rfl rfl (sp5 (k := p0) (a := p1) (b := p2) (c := p3) (e := p4) hI ⟨by omega, by omega⟩ ⟨by omega, by omega⟩ ⟨by omega, by omega⟩ ⟨by omega, by omega⟩ ⟨by omega, by omega⟩   (by omega)) (fun r2 S3 hq4 => ?_)
  rcases hq4 with hq5 | ⟨a7, c9, rfl, hc6, rfl⟩
  · obtain ⟨z8, rfl, h9, h10, cin11, cc12, hI13, hF14, hR15⟩ := hq5
    have hF16 := hF.trans hF14 rfl rfl
    have e17 := N23x.fr e_N23 hF14 hR15 rfl rfl rfl
    have e18 := CRx.fr e_CR hF14 rfl rfl
    have e19 := wRM_rm e_RM hR15
    refine Or.inr (Or.inl ⟨rfl, ?_⟩)
    refine r_i2l (i := 9) rfl ⟨by omega, by omega⟩ ?_
    refine r_lastore (i := 10) rfl ly81 (by decide) (by omega) (by omega) ⟨by omega, by omega⟩ ?_
    have hI21 := hI13.seta0 (b := 81) (j := (0 : Int).toNat) (z := z8) rfl rfl
    have hF23 := hF16.seta (b := 81) (j := (0 : Int).toNat) (z := z8) rfl
    have e25 := N23x.seta e17 (b := 81) (j := (0 : Int).toNat) (z := z8) rfl
    have e26 := CRx.seta e18 (b := 81) (j := (0 : Int).toNat) (z := z8) rfl
    have e27 := wRM_a e19 (b := 81) (j := (0 : Int).toNat) (z := z8)
    refine yT_gen (fun S20 hS22 => ?_)
    rw [hS22] at hI21 hF23  e25 e26 e27
    refine r_goto (i := 11) (v := 15) rfl ?_
    refine r_const (i := 15) (u := 0) (z := 0) rfl rfl ?_
    exact r_retI (i := 16) rfl ⟨0, rfl, by omega, by omega, (by exact wRM_le e27 (by omega)), (by exact Or.inl ⟨rfl, cin11, by subst hS22; rw [ysa_eq]; exact cc12⟩), e25, e26, hI21, hF23⟩
  · obtain ⟨hI28, rm29⟩ := wRM_cost e_RM hI (by omega)
    have e30 : N23 (ycost S 1 6) := e_N23
    have e31 : CR (ycost S 1 6) := e_CR
    have hF32 : yFr [(26, 2), (26, 3), (29, 5)] [27, 28, 30, 81] S (ycost S 1 6) := hF
    obtain ⟨rfl, xphc6⟩ := hc6
    · refine Or.inr (Or.inr (Or.inl ⟨rfl, rfl, by decide, ?_⟩))
      refine r_store (i := 12) (u := 11) (w := 2) (L1 := [some ((2, 0)), some (vi p0), some (vl p1), none, some (vl p2), none, some (vl p3), none, some (vl p4), none, some ((2, 81)), some ((2, a7))]) rfl rfl rfl rfl ?_
      refine r_const (i := 13) (u := 1) (z := 1) rfl rfl ?_
      exact r_retI (i := 14) rfl ⟨1, rfl, by omega, by omega, (by exact wRM_le rm29 (by omega)), (by exact Or.inr ⟨rfl, xphc6, rfl⟩), e30, e31, hI28, hF32⟩
set_option maxHeartbeats 4000000 in
theorem lp281_13 {G : xk} {d : Nat} {S0 : yS} {nS : Nat} {sc : Nat → Int} (hG : ySc G nS sc) (hn5 : nS ≤ 5120) (hd : 27 ≤ d + 1) : ∀ (n : Nat), ∀ (S : yS) (hI : yI S) (e_N23 : N23 S) (e_CR : CR S) (e_RT : RT S) (e_RMe : RMe S) (e_RS : RS S) (e_RTh : RTh S) (e_RI : RI S) (e_RK : RK S) (e_RSl : RSl S) (e_RP : RP S) (e_RSk : RSk S) (e_RA : RA S) (e_RB : RB S) (e_RO : RO S) (i : Int) (h_i : 0 ≤ i ∧ i ≤ 5120) (q_0 : wRM (5200 - i) S) (hn : 5120 - i < (n : Nat)), yT xPr G LY xC281 13 [some ((6, 0)), some ((2, 0)), some ((2, 43)), some ((2, 81)), some (vi i), none, none] [] S (d + 1) (fun r S' => ∃ z : Int, r = (1, vi z) ∧ 1 ≤ z ∧ z ≤ 1) := by
  intro n
  induction n with
  | zero => intro S hI e_N23 e_CR e_RT e_RMe e_RS e_RTh e_RI e_RK e_RSl e_RP e_RSk e_RA e_RB e_RO i h_i q_0 hn; exact absurd hn (by omega)
  | succ n ih =>
    intro S hI e_N23 e_CR e_RT e_RMe e_RS e_RTh e_RI e_RK e_RSl e_RP e_RSk e_RA e_RB e_RO i h_i q_0 hn
    refine r_load (i := 13) (u := 4) (w := 0) rfl rfl rfl ?_
    refine r_load (i := 14) (u := 0) (w := 2) rfl rfl rfl ?_
    refine r_scN (i := 15) hG rfl ?_
    refine r_const (i := 16) (u := 10) (z := 10) rfl rfl ?_
    refine r_isub (i := 17) rfl ?_
    refine c_gt (i := 18) (v := 656) rfl ⟨by omega, by omega⟩ ⟨by omega, by omega⟩ (fun h1 => ?_) (fun h2 => ?_)
    · refine r_const (i := 656) (u := 1) (z := 1) rfl rfl ?_
      exact r_retZ (i := 657) rfl (by omega) (by omega) ⟨1, rfl, by omega, by omega⟩
    · refine r_load (i := 19) (u := 0) (w := 2) rfl rfl rfl ?_
      refine r_load (i := 20) (u := 4) (w := 0) rfl rfl rfl ?_
      refine r_scA (i := 21) hG rfl (by omega) (by omega) fun h3 => ?_
      have h3 : Rg (sc i.toNat) := h3
      refine r_const (i := 22) (u := 31) (z := 31) rfl rfl ?_
      refine r_iand (i := 23) rfl ?_
      have h4 := @yand_c (sc i.toNat) 31 (by decide) (by decide)
      rcases (show (yand (sc i.toNat) 31) = 0 ∨ (yand (sc i.toNat) 31) = 1 ∨ (yand (sc i.toNat) 31) = 2 ∨ (yand (sc i.toNat) 31) = 3 ∨ (yand (sc i.toNat) 31) = 4 ∨ (yand (sc i.toNat) 31) = 5 ∨ (yand (sc i.toNat) 31) = 6 ∨ (yand (sc i.toNat) 31) = 7 ∨ (yand (sc i.toNat) 31) = 8 ∨ (yand (sc i.toNat) 31) = 9 ∨ (yand (sc i.toNat) 31) = 10 ∨ (yand (sc i.toNat) 31) = 11 ∨ (yand (sc i.toNat) 31) = 12 ∨ (yand (sc i.toNat) 31) = 13 ∨ (yand (sc i.toNat) 31) = 14 ∨ (yand (sc i.toNat) 31) = 15 ∨ (yand (sc i.toNat) 31) = 16 ∨ (yand (sc i.toNat) 31) = 17 ∨ (yand (sc i.toNat) 31) = 18 ∨ (yand (sc i.toNat) 31) = 19 ∨ (yand (sc i.toNat) 31) = 20 ∨ (yand (sc i.toNat) 31) = 21 ∨ (yand (sc i.toNat) 31) = 22 ∨ (yand (sc i.toNat) 31) = 23 ∨ (yand (sc i.toNat) 31) = 24 ∨ (yand (sc i.toNat) 31) = 25 ∨ (yand (sc i.toNat) 31) = 26 ∨ (yand (sc i.toNat) 31) = 27 ∨ (yand (sc i.toNat) 31) = 28 ∨ (yand (sc i.toNat) 31) = 29 ∨ (yand (sc i.toNat) 31) = 30 ∨ (yand (sc i.toNat) 31) = 31 by omega) with h5 | h6 | h7 | h8 | h9 | h10 | h11 | h12 | h13 | h14 | h15 | h16 | h17 | h18 | h19 | h20 | h21 | h22 | h23 | h24 | h25 | h26 | h27 | h28 | h29 | h30 | h31 | h32 | h33 | h34 | h35 | h36
      · refine r_swK (i := 24) (u := 1) (v := 654) (k := 0) (t := 25) rfl rfl h5 (by decide) (by decide) rfl ?_
        refine r_load (i := 25) (u := 1) (w := 2) rfl rfl rfl ?_
        refine r_load (i := 26) (u := 0) (w := 2) rfl rfl rfl ?_
        refine r_load (i := 27) (u := 4) (w := 0) rfl rfl rfl ?_
        refine r_const (i := 28) (u := 1) (z := 1) rfl rfl ?_
        refine r_iadd (i := 29) rfl ?_
        refine r_scA (i := 30) hG rfl (by omega) (by omega) fun h37 => ?_
        have h37 : Rg (sc (i + 1).toNat) := h37
        refine z_eq (i := 31) (v := 34) rfl ⟨by omega, by omega⟩ (fun h38 => ?_) (fun h39 => ?_)
        · refine r_const (i := 34) (u := 0) (z := 0) rfl rfl ?_
          refine r_load (i := 35) (u := 0) (w := 2) rfl rfl rfl ?_
          refine r_load (i := 36) (u := 4) (w := 0) rfl rfl rfl ?_
          refine r_const (i := 37) (u := 2) (z := 2) rfl rfl ?_
          refine r_iadd (i := 38) rfl ?_
          refine r_scA (i := 39) hG rfl (by omega) (by omega) fun h40 => ?_
          have h40 : Rg (sc (i + 2).toNat) := h40
          refine r_load (i := 40) (u := 0) (w := 2) rfl rfl rfl ?_
          refine r_load (i := 41) (u := 4) (w := 0) rfl rfl rfl ?_
          refine r_const (i := 42) (u := 3) (z := 3) rfl rfl ?_
          refine r_iadd (i := 43) rfl ?_
          refine r_scA (i := 44) hG rfl (by omega) (by omega) fun h41 => ?_
          have h41 : Rg (sc (i + 3).toNat) := h41
          refine r_load (i := 45) (u := 0) (w := 2) rfl rfl rfl ?_
          refine r_load (i := 46) (u := 4) (w := 0) rfl rfl rfl ?_
          refine r_const (i := 47) (u := 4) (z := 4) rfl rfl ?_
          refine r_iadd (i := 48) rfl ?_
          refine r_scA (i := 49) hG rfl (by omega) (by omega) fun h42 => ?_
          have h42 : Rg (sc (i + 4).toNat) := h42
          refine r_load (i := 50) (u := 3) (w := 2) rfl rfl rfl ?_
          refine r_call (i := 51) (u := 65535) (v := 179) (w := 0) (b := 2) (na := 1798) (C2 := xC179) (as := [(2, 0), vi 0, vi (sc (i + 2).toNat), vi (sc (i + 3).toNat), vi (sc (i + 4).toNat), (2, 81)]) (s := []) rfl rfl rfl rfl rfl rfl rfl (sp179 (p0 := 0) (p1 := sc (i + 2).toNat) (p2 := sc (i + 3).toNat) (p3 := sc (i + 4).toNat) (kR := 5199 - i) hI ⟨by omega, by omega⟩ ⟨by omega, by omega⟩ ⟨by omega, by omega⟩ ⟨by omega, by omega⟩ (by exact wRM_le q_0 (by omega)) (by omega) e_N23 e_CR (by omega)) (fun r43 S44 hq45 => ?_)
          obtain ⟨z46, rfl, h47, h48, rm49, ht50, c6h51, e52, e53, hI54, hF55⟩ := hq45
          have e56 := RMex.fr e_RMe hF55 rfl rfl
          have e57 := RThx.fr e_RTh hF55 rfl rfl
          have e58 := RKx.fr e_RK hF55 rfl rfl
          have e59 := RSlx.fr e_RSl hF55 rfl rfl
          have e60 := RPx.fr e_RP hF55 rfl rfl
          have e61 := RSkx.fr e_RSk hF55 rfl rfl
          have e62 := RAx.fr e_RA hF55 rfl rfl
          have e63 := RBx.fr e_RB hF55 rfl rfl
          have e64 := ROx.fr e_RO hF55 rfl rfl
          refine Or.inr (Or.inl ⟨rfl, ?_⟩)
          have rs9 := RS_type e_RS (hI.f tf1_7).1 (by omega) ht50 c6h51 hF55 rfl
          have ri9 := RI_type e_RI e_RS.1 (hI.f tf1_7).1 ht50 hF55 rfl
          refine r_store (i := 52) (u := 5) (w := 0) (L1 := [some ((6, 0)), some ((2, 0)), some ((2, 43)), some ((2, 81)), some (vi i), some (vi z46), none]) rfl rfl rfl rfl ?_
          refine r_load (i := 53) (u := 2) (w := 2) rfl rfl rfl ?_
          refine r_load (i := 54) (u := 0) (w := 2) rfl rfl rfl ?_
          refine r_load (i := 55) (u := 4) (w := 0) rfl rfl rfl ?_
          refine r_const (i := 56) (u := 1) (z := 1) rfl rfl ?_
          refine r_iadd (i := 57) rfl ?_
          refine r_scA (i := 58) hG rfl (by omega) (by omega) fun h65 => ?_
          have h65 : Rg (sc (i + 1).toNat) := h65
          refine z_eq (i := 59) (v := 62) rfl ⟨by omega, by omega⟩ (fun h66 => ?_) (fun h67 => absurd h67 (by omega))
          refine r_const (i := 62) (u := 0) (z := 0) rfl rfl ?_
          refine r_load (i := 63) (u := 0) (w := 2) rfl rfl rfl ?_
          refine r_load (i := 64) (u := 4) (w := 0) rfl rfl rfl ?_
          refine r_const (i := 65) (u := 2) (z := 2) rfl rfl ?_
          refine r_iadd (i := 66) rfl ?_
          refine r_scA (i := 67) hG rfl (by omega) (by omega) fun h68 => ?_
          have h68 : Rg (sc (i + 2).toNat) := h68
          refine r_load (i := 68) (u := 0) (w := 2) rfl rfl rfl ?_
          refine r_load (i := 69) (u := 4) (w := 0) rfl rfl rfl ?_
          refine r_const (i := 70) (u := 3) (z := 3) rfl rfl ?_
          refine r_iadd (i := 71) rfl ?_
          refine r_scA (i := 72) hG rfl (by omega) (by omega) fun h69 => ?_
          have h69 : Rg (sc (i + 3).toNat) := h69
          refine r_load (i := 73) (u := 0) (w := 2) rfl rfl rfl ?_
          refine r_load (i := 74) (u := 4) (w := 0) rfl rfl rfl ?_
          refine r_const (i := 75) (u := 4) (z := 4) rfl rfl ?_
          refine r_iadd (i := 76) rfl ?_
          refine r_scA (i := 77) hG rfl (by omega) (by omega) fun h70 => ?_
          have h70 : Rg (sc (i + 4).toNat) := h70
          refine r_call (i := 78) (u := 11) (v := 259) (w := 0) (b := 0) (na := 1541) (C2 := xC259) (as := [(2, 43), vi 0, vi (sc (i + 2).toNat), vi (sc (i + 3).toNat), vi (sc (i + 4).toNat)]) (s := []) rfl rfl rfl rfl rfl rfl rfl (sp259 (b := 0) (bits := sc (i + 2).toNat) (p := sc (i + 3).toNat) (up := sc (i + 4).toNat) hI54 ⟨by omega, by omega⟩ ⟨by omega, by omega⟩ ⟨by omega, by omega⟩ ⟨by omega, by omega⟩   (by omega)) (fun r71 S72 hq73 => ?_)
          obtain ⟨z74, rfl, h75, h76, mq77, hI78, hF79, hR80⟩ := hq73
          have e81 := RMex.fr e56 hF79 rfl rfl
          have e82 := RThx.fr e57 hF79 rfl rfl
          have e83 := RSlx.fr e59 hF79 rfl rfl
          have e84 := RPx.fr e60 hF79 rfl rfl
          have e85 := RSkx.fr e61 hF79 rfl rfl
          have e86 := RAx.fr e62 hF79 rfl rfl
          have e87 := RBx.fr e63 hF79 rfl rfl
          have e88 := N23x.fr e52 hF79 hR80 rfl rfl rfl
          have e89 := CRx.fr e53 hF79 rfl rfl
          have e90 := wRM_rm rm49 hR80
          have e91 := RSx.fr rs9 hF79 rfl rfl
          have e92 := RIx.fr ri9 hF79 rfl rfl
          refine Or.inr (Or.inl ⟨rfl, ?_⟩)
          have rt9 := (RT_type e_RT (by omega) (Int.le_trans (by decide) (hI.f tf1_7).1) ht50 hF55 rfl rfl mq77 hF79 rfl rfl).1
          have rk9 := (RT_type e_RT (by omega) (Int.le_trans (by decide) (hI.f tf1_7).1) ht50 hF55 rfl rfl mq77 hF79 rfl rfl).2.1
          have ro9 := (RT_type e_RT (by omega) (Int.le_trans (by decide) (hI.f tf1_7).1) ht50 hF55 rfl rfl mq77 hF79 rfl rfl).2.2
          have rk8 := RK_type (RKx.fr e_RK hF55 rfl rfl) mq77 hF79 rfl
          have ro8 := RO_type (ROx.fr e_RO hF55 rfl rfl) mq77 hF79 rfl rfl
          refine r_store (i := 79) (u := 6) (w := 0) (L1 := [some ((6, 0)), some ((2, 0)), some ((2, 43)), some ((2, 81)), some (vi i), some (vi z46), some (vi z74)]) rfl rfl rfl rfl ?_
          refine r_goto (i := 80) (v := 654) rfl ?_
          refine r_iinc (i := 654) (u := 10) (v := 4) (s := 10) (L1 := [some ((6, 0)), some ((2, 0)), some ((2, 43)), some ((2, 81)), some (vi (i + 10)), some (vi z46), some (vi z74)]) rfl rfl rfl rfl rfl ?_
          refine r_goto (i := 655) (v := 13) rfl ?_
          refine yT_drop (L1 := [some ((6, 0)), some ((2, 0)), some ((2, 43)), some ((2, 81)), some (vi (i + 10)), none, none]) rfl ?_
          exact ih S72 hI78 e88 e89 rt9 e81 e91 e82 e92 rk8 e83 e84 e85 e86 e87 ro8 (i + 10) ⟨by omega, by omega⟩ (by exact wRM_le e90 (by omega)) (by omega)
        · refine r_const (i := 32) (u := 1) (z := 1) rfl rfl ?_
          refine r_goto (i := 33) (v := 35) rfl ?_
          refine r_load (i := 35) (u := 0) (w := 2) rfl rfl rfl ?_
          refine r_load (i := 36) (u := 4) (w := 0) rfl rfl rfl ?_
          refine r_const (i := 37) (u := 2) (z := 2) rfl rfl ?_
          refine r_iadd (i := 38) rfl ?_
          refine r_scA (i := 39) hG rfl (by omega) (by omega) fun h93 => ?_
          have h93 : Rg (sc (i + 2).toNat) := h93
          refine r_load (i := 40) (u := 0) (w := 2) rfl rfl rfl ?_
          refine r_load (i := 41) (u := 4) (w := 0) rfl rfl rfl ?_
          refine r_const (i := 42) (u := 3) (z := 3) rfl rfl ?_
          refine r_iadd (i := 43) rfl ?_
          refine r_scA (i := 44) hG rfl (by omega) (by omega) fun h94 => ?_
          have h94 : Rg (sc (i + 3).toNat) := h94
          refine r_load (i := 45) (u := 0) (w := 2) rfl rfl rfl ?_
          refine r_load (i := 46) (u := 4) (w := 0) rfl rfl rfl ?_
          refine r_const (i := 47) (u := 4) (z := 4) rfl rfl ?_
          refine r_iadd (i := 48) rfl ?_
          refine r_scA (i := 49) hG rfl (by omega) (by omega) fun h95 => ?_
          have h95 : Rg (sc (i + 4).toNat) := h95
          refine r_load (i := 50) (u := 3) (w := 2) rfl rfl rfl ?_
          refine r_call (i := 51) (u := 65535) (v := 179) (w := 0) (b := 2) (na := 1798) (C2 := xC179) (as := [(2, 0), vi 1, vi (sc (i + 2).toNat), vi (sc (i + 3).toNat), vi (sc (i + 4).toNat), (2, 81)]) (s := []) rfl rfl rfl rfl rfl rfl rfl (sp179 (p0 := 1) (p1 := sc (i + 2).toNat) (p2 := sc (i + 3).toNat) (p3 := sc (i + 4).toNat) (kR := 5199 - i) hI ⟨by omega, by omega⟩ ⟨by omega, by omega⟩ ⟨by omega, by omega⟩ ⟨by omega, by omega⟩ (by exact wRM_le q_0 (by omega)) (by omega) e_N23 e_CR (by omega)) (fun r96 S97 hq98 => ?_)
          obtain ⟨z99, rfl, h100, h101, rm102, ht103, c6h104, e105, e106, hI107, hF108⟩ := hq98
          have e109 := RMex.fr e_RMe hF108 rfl rfl
          have e110 := RThx.fr e_RTh hF108 rfl rfl
          have e111 := RKx.fr e_RK hF108 rfl rfl
          have e112 := RSlx.fr e_RSl hF108 rfl rfl
          have e113 := RPx.fr e_RP hF108 rfl rfl
          have e114 := RSkx.fr e_RSk hF108 rfl rfl
          have e115 := RAx.fr e_RA hF108 rfl rfl
          have e116 := RBx.fr e_RB hF108 rfl rfl
          have e117 := ROx.fr e_RO hF108 rfl rfl
          refine Or.inr (Or.inl ⟨rfl, ?_⟩)
          have rs9 := RS_type e_RS (hI.f tf1_7).1 (by omega) ht103 c6h104 hF108 rfl
          have ri9 := RI_type e_RI e_RS.1 (hI.f tf1_7).1 ht103 hF108 rfl
          refine r_store (i := 52) (u := 5) (w := 0) (L1 := [some ((6, 0)), some ((2, 0)), some ((2, 43)), some ((2, 81)), some (vi i), some (vi z99), none]) rfl rfl rfl rfl ?_
          refine r_load (i := 53) (u := 2) (w := 2) rfl rfl rfl ?_
          refine r_load (i := 54) (u := 0) (w := 2) rfl rfl rfl ?_
          refine r_load (i := 55) (u := 4) (w := 0) rfl rfl rfl ?_
          refine r_const (i := 56) (u := 1) (z := 1) rfl rfl ?_
          refine r_iadd (i := 57) rfl ?_
          refine r_scA (i := 58) hG rfl (by omega) (by omega) fun h118 => ?_
          have h118 : Rg (sc (i + 1).toNat) := h118
          refine z_eq (i := 59) (v := 62) rfl ⟨by omega, by omega⟩ (fun h119 => absurd h119 (by omega)) (fun h120 => ?_)
          refine r_const (i := 60) (u := 1) (z := 1) rfl rfl ?_
          refine r_goto (i := 61) (v := 63) rfl ?_
          refine r_load (i := 63) (u := 0) (w := 2) rfl rfl rfl ?_
          refine r_load (i := 64) (u := 4) (w := 0) rfl rfl rfl ?_
          refine r_const (i := 65) (u := 2) (z := 2) rfl rfl ?_
          refine r_iadd (i := 66) rfl ?_
          refine r_scA (i := 67) hG rfl (by omega) (by omega) fun h121 => ?_
          have h121 : Rg (sc (i + 2).toNat) := h121
          refine r_load (i := 68) (u := 0) (w := 2) rfl rfl rfl ?_
          refine r_load (i := 69) (u := 4) (w := 0) rfl rfl rfl ?_
          refine r_const (i := 70) (u := 3) (z := 3) rfl rfl ?_
          refine r_iadd (i := 71) rfl ?_
          refine r_scA (i := 72) hG rfl (by omega) (by omega) fun h122 => ?_
          have h122 : Rg (sc (i + 3).toNat) := h122
          refine r_load (i := 73) (u := 0) (w := 2) rfl rfl rfl ?_
          refine r_load (i := 74) (u := 4) (w := 0) rfl rfl rfl ?_
          refine r_const (i := 75) (u := 4) (z := 4) rfl rfl ?_
          refine r_iadd (i := 76) rfl ?_
          refine r_scA (i := 77) hG rfl (by omega) (by omega) fun h123 => ?_
          have h123 : Rg (sc (i + 4).toNat) := h123
          refine r_call (i := 78) (u := 11) (v := 259) (w := 0) (b := 0) (na := 1541) (C2 := xC259) (as := [(2, 43), vi 1, vi (sc (i + 2).toNat), vi (sc (i + 3).toNat), vi (sc (i + 4).toNat)]) (s := []) rfl rfl rfl rfl rfl rfl rfl (sp259 (b := 1) (bits := sc (i + 2).toNat) (p := sc (i + 3).toNat) (up := sc (i + 4).toNat) hI107 ⟨by omega, by omega⟩ ⟨by omega, by omega⟩ ⟨by omega, by omega⟩ ⟨by omega, by omega⟩   (by omega)) (fun r124 S125 hq126 => ?_)
          obtain ⟨z127, rfl, h128, h129, mq130, hI131, hF132, hR133⟩ := hq126
          have e134 := RMex.fr e109 hF132 rfl rfl
          have e135 := RThx.fr e110 hF132 rfl rfl
          have e136 := RSlx.fr e112 hF132 rfl rfl
          have e137 := RPx.fr e113 hF132 rfl rfl
          have e138 := RSkx.fr e114 hF132 rfl rfl
          have e139 := RAx.fr e115 hF132 rfl rfl
          have e140 := RBx.fr e116 hF132 rfl rfl
          have e141 := N23x.fr e105 hF132 hR133 rfl rfl rfl
          have e142 := CRx.fr e106 hF132 rfl rfl
          have e143 := wRM_rm rm102 hR133
          have e144 := RSx.fr rs9 hF132 rfl rfl
          have e145 := RIx.fr ri9 hF132 rfl rfl
          refine Or.inr (Or.inl ⟨rfl, ?_⟩)
          have rt9 := (RT_type e_RT (by omega) (Int.le_trans (by decide) (hI.f tf1_7).1) ht103 hF108 rfl rfl mq130 hF132 rfl rfl).1
          have rk9 := (RT_type e_RT (by omega) (Int.le_trans (by decide) (hI.f tf1_7).1) ht103 hF108 rfl rfl mq130 hF132 rfl rfl).2.1
          have ro9 := (RT_type e_RT (by omega) (Int.le_trans (by decide) (hI.f tf1_7).1) ht103 hF108 rfl rfl mq130 hF132 rfl rfl).2.2
          have rk8 := RK_type (RKx.fr e_RK hF108 rfl rfl) mq130 hF132 rfl
          have ro8 := RO_type (ROx.fr e_RO hF108 rfl rfl) mq130 hF132 rfl rfl
          refine r_store (i := 79) (u := 6) (w := 0) (L1 := [some ((6, 0)), some ((2, 0)), some ((2, 43)), some ((2, 81)), some (vi i), some (vi z99), some (vi z127)]) rfl rfl rfl rfl ?_
          refine r_goto (i := 80) (v := 654) rfl ?_
          refine r_iinc (i := 654) (u := 10) (v := 4) (s := 10) (L1 := [some ((6, 0)), some ((2, 0)), some ((2, 43)), some ((2, 81)), some (vi (i + 10)), some (vi z99), some (vi z127)]) rfl rfl rfl rfl rfl ?_
          refine r_goto (i := 655) (v := 13) rfl ?_
          refine yT_drop (L1 := [some ((6, 0)), some ((2, 0)), some ((2, 43)), some ((2, 81)), some (vi (i + 10)), none, none]) rfl ?_
          exact ih S125 hI131 e141 e142 rt9 e134 e144 e135 e145 rk8 e136 e137 e138 e139 e140 ro8 (i + 10) ⟨by omega, by omega⟩ (by exact wRM_le e143 (by omega)) (by omega)
      · refine r_swK (i := 24) (u := 1) (v := 654) (k := 1) (t := 81) rfl rfl h6 (by decide) (by decide) rfl ?_
        refine r_load (i := 81) (u := 1) (w := 2) rfl rfl rfl ?_
        refine r_load (i := 82) (u := 0) (w := 2) rfl rfl rfl ?_
        refine r_load (i := 83) (u := 4) (w := 0) rfl rfl rfl ?_
        refine r_const (i := 84) (u := 1) (z := 1) rfl rfl ?_
        refine r_iadd (i := 85) rfl ?_
        refine r_scA (i := 86) hG rfl (by omega) (by omega) fun h146 => ?_
        have h146 : Rg (sc (i + 1).toNat) := h146
        refine r_load (i := 87) (u := 0) (w := 2) rfl rfl rfl ?_
        refine r_load (i := 88) (u := 4) (w := 0) rfl rfl rfl ?_
        refine r_const (i := 89) (u := 2) (z := 2) rfl rfl ?_
        refine r_iadd (i := 90) rfl ?_
        refine r_scA (i := 91) hG rfl (by omega) (by omega) fun h147 => ?_
        have h147 : Rg (sc (i + 2).toNat) := h147
        refine r_call (i := 92) (u := 65535) (v := 176) (w := 0) (b := 2) (na := 1027) (C2 := xC176) (as := [(2, 0), vi (sc (i + 1).toNat), vi (sc (i + 2).toNat)]) (s := []) rfl rfl rfl rfl rfl rfl rfl (sp176 (p0 := sc (i + 1).toNat) (p1 := sc (i + 2).toNat) (kR := 5199 - i) hI ⟨by omega, by omega⟩ ⟨by omega, by omega⟩ (by exact wRM_le q_0 (by omega)) (by omega) e_N23 e_CR (by omega)) (fun r148 S149 hq150 => ?_)
        obtain ⟨z151, rfl, h152, h153, rm154, him155, e156, e157, hI158, hF159⟩ := hq150
        have e160 := RTx.fr e_RT hF159 rfl rfl
        have e161 := RMex.fr e_RMe hF159 rfl rfl
        have e162 := RThx.fr e_RTh hF159 rfl rfl
        have e163 := RKx.fr e_RK hF159 rfl rfl
        have e164 := RSlx.fr e_RSl hF159 rfl rfl
        have e165 := RPx.fr e_RP hF159 rfl rfl
        have e166 := RSkx.fr e_RSk hF159 rfl rfl
        have e167 := RAx.fr e_RA hF159 rfl rfl
        have e168 := RBx.fr e_RB hF159 rfl rfl
        have e169 := ROx.fr e_RO hF159 rfl rfl
        refine Or.inr (Or.inl ⟨rfl, ?_⟩)
        have ri9 := RI_impl e_RI e_RS.2.2.2 (fun j => hI.a ta7 j) him155 hF159 rfl rfl
        refine r_store (i := 93) (u := 5) (w := 0) (L1 := [some ((6, 0)), some ((2, 0)), some ((2, 43)), some ((2, 81)), some (vi i), some (vi z151), none]) rfl rfl rfl rfl ?_
        refine r_load (i := 94) (u := 2) (w := 2) rfl rfl rfl ?_
        refine r_load (i := 95) (u := 0) (w := 2) rfl rfl rfl ?_
        refine r_load (i := 96) (u := 4) (w := 0) rfl rfl rfl ?_
        refine r_const (i := 97) (u := 1) (z := 1) rfl rfl ?_
        refine r_iadd (i := 98) rfl ?_
        refine r_scA (i := 99) hG rfl (by omega) (by omega) fun h170 => ?_
        have h170 : Rg (sc (i + 1).toNat) := h170
        refine r_load (i := 100) (u := 0) (w := 2) rfl rfl rfl ?_
        refine r_load (i := 101) (u := 4) (w := 0) rfl rfl rfl ?_
        refine r_const (i := 102) (u := 2) (z := 2) rfl rfl ?_
        refine r_iadd (i := 103) rfl ?_
        refine r_scA (i := 104) hG rfl (by omega) (by omega) fun h171 => ?_
        have h171 : Rg (sc (i + 2).toNat) := h171
        refine r_call (i := 105) (u := 11) (v := 206) (w := 0) (b := 0) (na := 1283) (C2 := xC206) (as := [(2, 43), vi (sc (i + 1).toNat), vi (sc (i + 2).toNat)]) (s := []) rfl rfl rfl rfl rfl rfl rfl (sp206 (t := sc (i + 1).toNat) (f := sc (i + 2).toNat) hI158 ⟨by omega, by omega⟩ ⟨by omega, by omega⟩   (by omega)) (fun r172 S173 hq174 => ?_)
        obtain ⟨rfl, mi175, hI176, hF177, hR178⟩ := hq174
        have e179 := RTx.fr e160 hF177 rfl rfl
        have e180 := RMex.fr e161 hF177 rfl rfl
        have e181 := RThx.fr e162 hF177 rfl rfl
        have e182 := RKx.fr e163 hF177 rfl rfl
        have e183 := RSlx.fr e164 hF177 rfl rfl
        have e184 := RPx.fr e165 hF177 rfl rfl
        have e185 := RSkx.fr e166 hF177 rfl rfl
        have e186 := RAx.fr e167 hF177 rfl rfl
        have e187 := RBx.fr e168 hF177 rfl rfl
        have e188 := ROx.fr e169 hF177 rfl rfl
        have e189 := N23x.fr e156 hF177 hR178 rfl rfl rfl
        have e190 := CRx.fr e157 hF177 rfl rfl
        have e191 := wRM_rm rm154 hR178
        have e192 := RIx.fr ri9 hF177 rfl rfl
        refine Or.inl ⟨rfl, ?_⟩
        have rs9 := (RS_impl e_RT e_RS hI.m3 (fun j => hI.a ta7 j) (hI.f tf1_7).2 him155 hF159 rfl rfl mi175 hF177 rfl rfl).1
        have rk9 := (RS_impl e_RT e_RS hI.m3 (fun j => hI.a ta7 j) (hI.f tf1_7).2 him155 hF159 rfl rfl mi175 hF177 rfl rfl).2
        refine r_goto (i := 106) (v := 654) rfl ?_
        refine r_iinc (i := 654) (u := 10) (v := 4) (s := 10) (L1 := [some ((6, 0)), some ((2, 0)), some ((2, 43)), some ((2, 81)), some (vi (i + 10)), some (vi z151), none]) rfl rfl rfl rfl rfl ?_
        refine r_goto (i := 655) (v := 13) rfl ?_
        refine yT_drop (L1 := [some ((6, 0)), some ((2, 0)), some ((2, 43)), some ((2, 81)), some (vi (i + 10)), none, none]) rfl ?_
        exact ih S173 hI176 e189 e190 e179 e180 rs9 e181 e192 e182 e183 e184 e185 e186 e187 e188 (i + 10) ⟨by omega, by omega⟩ (by exact wRM_le e191 (by omega)) (by omega)
      · refine r_swK (i := 24) (u := 1) (v := 654) (k := 2) (t := 107) rfl rfl h7 (by decide) (by decide) rfl ?_
        refine r_load (i := 107) (u := 1) (w := 2) rfl rfl rfl ?_
        refine r_load (i := 108) (u := 0) (w := 2) rfl rfl rfl ?_
        refine r_load (i := 109) (u := 4) (w := 0) rfl rfl rfl ?_
        refine r_const (i := 110) (u := 1) (z := 1) rfl rfl ?_
        refine r_iadd (i := 111) rfl ?_
        refine r_scA (i := 112) hG rfl (by omega) (by omega) fun h193 => ?_
        have h193 : Rg (sc (i + 1).toNat) := h193
        refine r_load (i := 113) (u := 0) (w := 2) rfl rfl rfl ?_
        refine r_load (i := 114) (u := 4) (w := 0) rfl rfl rfl ?_
        refine r_const (i := 115) (u := 2) (z := 2) rfl rfl ?_
        refine r_iadd (i := 116) rfl ?_
        refine r_scA (i := 117) hG rfl (by omega) (by omega) fun h194 => ?_
        have h194 : Rg (sc (i + 2).toNat) := h194
        refine r_load (i := 118) (u := 0) (w := 2) rfl rfl rfl ?_
        refine r_load (i := 119) (u := 4) (w := 0) rfl rfl rfl ?_
        refine r_const (i := 120) (u := 3) (z := 3) rfl rfl ?_
        refine r_iadd (i := 121) rfl ?_
        refine r_scA (i := 122) hG rfl (by omega) (by omega) fun h195 => ?_
        have h195 : Rg (sc (i + 3).toNat) := h195
        refine r_load (i := 123) (u := 0) (w := 2) rfl rfl rfl ?_
        refine r_load (i := 124) (u := 4) (w := 0) rfl rfl rfl ?_
        refine r_const (i := 125) (u := 4) (z := 4) rfl rfl ?_
        refine r_iadd (i := 126) rfl ?_
        refine r_scA (i := 127) hG rfl (by omega) (by omega) fun h196 => ?_
        have h196 : Rg (sc (i + 4).toNat) := h196
        refine r_load (i := 128) (u := 0) (w := 2) rfl rfl rfl ?_
        refine r_load (i := 129) (u := 4) (w := 0) rfl rfl rfl ?_
        refine r_const (i := 130) (u := 5) (z := 5) rfl rfl ?_
        refine r_iadd (i := 131) rfl ?_
        refine r_scA (i := 132) hG rfl (by omega) (by omega) fun h197 => ?_
        have h197 : Rg (sc (i + 5).toNat) := h197
        refine r_load (i := 133) (u := 3) (w := 2) rfl rfl rfl ?_
        refine r_call (i := 134) (u := 65535) (v := 177) (w := 0) (b := 2) (na := 2055) (C2 := xC177) (as := [(2, 0), vi (sc (i + 1).toNat), vi (sc (i + 2).toNat), vi (sc (i + 3).toNat), vi (sc (i + 4).toNat), vi (sc (i + 5).toNat), (2, 81)]) (s := []) rfl rfl rfl rfl rfl rfl rfl (sp177 (p0 := sc (i + 1).toNat) (p1 := sc (i + 2).toNat) (p2 := sc (i + 3).toNat) (p3 := sc (i + 4).toNat) (p4 := sc (i + 5).toNat) (kR := 5199 - i) hI ⟨by omega, by omega⟩ ⟨by omega, by omega⟩ ⟨by omega, by omega⟩ ⟨by omega, by omega⟩ ⟨by omega, by omega⟩ (by exact wRM_le q_0 (by omega)) (by omega) e_N23 e_CR (by omega)) (fun r198 S199 hq200 => ?_)
        obtain ⟨z201, rfl, h202, h203, rm204, hme205, e206, e207, hI208, hF209⟩ := hq200
        have e210 := RTx.fr e_RT hF209 rfl rfl
        have e211 := RSx.fr e_RS hF209 rfl rfl
        have e212 := RThx.fr e_RTh hF209 rfl rfl
        have e213 := RIx.fr e_RI hF209 rfl rfl
        have e214 := RKx.fr e_RK hF209 rfl rfl
        have e215 := RSlx.fr e_RSl hF209 rfl rfl
        have e216 := RPx.fr e_RP hF209 rfl rfl
        have e217 := RSkx.fr e_RSk hF209 rfl rfl
        have e218 := RAx.fr e_RA hF209 rfl rfl
        have e219 := RBx.fr e_RB hF209 rfl rfl
        have e220 := ROx.fr e_RO hF209 rfl rfl
        refine Or.inr (Or.inl ⟨rfl, ?_⟩)
        refine r_store (i := 135) (u := 5) (w := 0) (L1 := [some ((6, 0)), some ((2, 0)), some ((2, 43)), some ((2, 81)), some (vi i), some (vi z201), none]) rfl rfl rfl rfl ?_
        refine r_load (i := 136) (u := 2) (w := 2) rfl rfl rfl ?_
        refine r_load (i := 137) (u := 0) (w := 2) rfl rfl rfl ?_
        refine r_load (i := 138) (u := 4) (w := 0) rfl rfl rfl ?_
        refine r_const (i := 139) (u := 1) (z := 1) rfl rfl ?_
        refine r_iadd (i := 140) rfl ?_
        refine r_scA (i := 141) hG rfl (by omega) (by omega) fun h221 => ?_
        have h221 : Rg (sc (i + 1).toNat) := h221
        refine r_load (i := 142) (u := 0) (w := 2) rfl rfl rfl ?_
        refine r_load (i := 143) (u := 4) (w := 0) rfl rfl rfl ?_
        refine r_const (i := 144) (u := 2) (z := 2) rfl rfl ?_
        refine r_iadd (i := 145) rfl ?_
        refine r_scA (i := 146) hG rfl (by omega) (by omega) fun h222 => ?_
        have h222 : Rg (sc (i + 2).toNat) := h222
        refine r_load (i := 147) (u := 0) (w := 2) rfl rfl rfl ?_
        refine r_load (i := 148) (u := 4) (w := 0) rfl rfl rfl ?_
        refine r_const (i := 149) (u := 3) (z := 3) rfl rfl ?_
        refine r_iadd (i := 150) rfl ?_
        refine r_scA (i := 151) hG rfl (by omega) (by omega) fun h223 => ?_
        have h223 : Rg (sc (i + 3).toNat) := h223
        refine r_load (i := 152) (u := 0) (w := 2) rfl rfl rfl ?_
        refine r_load (i := 153) (u := 4) (w := 0) rfl rfl rfl ?_
        refine r_const (i := 154) (u := 4) (z := 4) rfl rfl ?_
        refine r_iadd (i := 155) rfl ?_
        refine r_scA (i := 156) hG rfl (by omega) (by omega) fun h224 => ?_
        have h224 : Rg (sc (i + 4).toNat) := h224
        refine r_load (i := 157) (u := 0) (w := 2) rfl rfl rfl ?_
        refine r_load (i := 158) (u := 4) (w := 0) rfl rfl rfl ?_
        refine r_const (i := 159) (u := 5) (z := 5) rfl rfl ?_
        refine r_iadd (i := 160) rfl ?_
        refine r_scA (i := 161) hG rfl (by omega) (by omega) fun h225 => ?_
        have h225 : Rg (sc (i + 5).toNat) := h225
        refine r_call (i := 162) (u := 11) (v := 220) (w := 0) (b := 0) (na := 1542) (C2 := xC220) (as := [(2, 43), vi (sc (i + 1).toNat), vi (sc (i + 2).toNat), vi (sc (i + 3).toNat), vi (sc (i + 4).toNat), vi (sc (i + 5).toNat)]) (s := []) rfl rfl rfl rfl rfl rfl rfl (sp220 (t := sc (i + 1).toNat) (w0 := sc (i + 2).toNat) (bits := sc (i + 3).toNat) (al := sc (i + 4).toNat) (back := sc (i + 5).toNat) hI208 ⟨by omega, by omega⟩ ⟨by omega, by omega⟩ ⟨by omega, by omega⟩ ⟨by omega, by omega⟩ ⟨by omega, by omega⟩  e207 (by omega)) (fun r226 S227 hq228 => ?_)
        obtain ⟨z229, rfl, h230, h231, mq232, e233, hI234, hF235, hR236⟩ := hq228
        have e237 := RTx.fr e210 hF235 rfl rfl
        have e238 := RSx.fr e211 hF235 rfl rfl
        have e239 := RThx.fr e212 hF235 rfl rfl
        have e240 := RIx.fr e213 hF235 rfl rfl
        have e241 := RSlx.fr e215 hF235 rfl rfl
        have e242 := RPx.fr e216 hF235 rfl rfl
        have e243 := RSkx.fr e217 hF235 rfl rfl
        have e244 := RAx.fr e218 hF235 rfl rfl
        have e245 := RBx.fr e219 hF235 rfl rfl
        have e246 := N23x.fr e206 hF235 hR236 rfl rfl rfl
        have e247 := wRM_rm rm204 hR236
        refine Or.inr (Or.inl ⟨rfl, ?_⟩)
        have rm9 := (RMe_method e_RT e_RMe hme205 hF209 rfl rfl mq232 hF235 rfl rfl).1
        have rk9 := (RMe_method e_RT e_RMe hme205 hF209 rfl rfl mq232 hF235 rfl rfl).2.1
        have ro9 := (RMe_method e_RT e_RMe hme205 hF209 rfl rfl mq232 hF235 rfl rfl).2.2
        have rk8 := RK_meth (RKx.fr e_RK hF209 rfl rfl) (Int.le_trans (hI.f tf43_1).1 (Int.le_of_eq (hF209.f rfl).symm)) mq232 hF235 rfl
        have ro8 := RO_meth (ROx.fr e_RO hF209 rfl rfl) mq232 hF235 rfl rfl
        refine r_store (i := 163) (u := 6) (w := 0) (L1 := [some ((6, 0)), some ((2, 0)), some ((2, 43)), some ((2, 81)), some (vi i), some (vi z201), some (vi z229)]) rfl rfl rfl rfl ?_
        refine r_goto (i := 164) (v := 654) rfl ?_
        refine r_iinc (i := 654) (u := 10) (v := 4) (s := 10) (L1 := [some ((6, 0)), some ((2, 0)), some ((2, 43)), some ((2, 81)), some (vi (i + 10)), some (vi z201), some (vi z229)]) rfl rfl rfl rfl rfl ?_
        refine r_goto (i := 655) (v := 13) rfl ?_
        refine yT_drop (L1 := [some ((6, 0)), some ((2, 0)), some ((2, 43)), some ((2, 81)), some (vi (i + 10)), none, none]) rfl ?_
        exact ih S227 hI234 e246 e233 e237 rm9 e238 e239 e240 rk8 e241 e242 e243 e244 e245 ro8 (i + 10) ⟨by omega, by omega⟩ (by exact wRM_le e247 (by omega)) (by omega)
      · refine r_swK (i := 24) (u := 1) (v := 654) (k := 3) (t := 165) rfl rfl h8 (by decide) (by decide) rfl ?_
        refine r_load (i := 165) (u := 1) (w := 2) rfl rfl rfl ?_
        refine r_load (i := 166) (u := 0) (w := 2) rfl rfl rfl ?_
        refine r_load (i := 167) (u := 4) (w := 0) rfl rfl rfl ?_
        refine r_const (i := 168) (u := 1) (z := 1) rfl rfl ?_
        refine r_iadd (i := 169) rfl ?_
        refine r_scA (i := 170) hG rfl (by omega) (by omega) fun h248 => ?_
        have h248 : Rg (sc (i + 1).toNat) := h248
        refine r_load (i := 171) (u := 0) (w := 2) rfl rfl rfl ?_
        refine r_load (i := 172) (u := 4) (w := 0) rfl rfl rfl ?_
        refine r_const (i := 173) (u := 2) (z := 2) rfl rfl ?_
        refine r_iadd (i := 174) rfl ?_
        refine r_scA (i := 175) hG rfl (by omega) (by omega) fun h249 => ?_
        have h249 : Rg (sc (i + 2).toNat) := h249
        refine r_call (i := 176) (u := 65535) (v := 178) (w := 0) (b := 2) (na := 1027) (C2 := xC178) (as := [(2, 0), vi (sc (i + 1).toNat), vi (sc (i + 2).toNat)]) (s := []) rfl rfl rfl rfl rfl rfl rfl (sp178 (p0 := sc (i + 1).toNat) (p1 := sc (i + 2).toNat) (kR := 5199 - i) hI ⟨by omega, by omega⟩ ⟨by omega, by omega⟩ (by exact wRM_le q_0 (by omega)) (by omega) e_N23 e_CR (by omega)) (fun r250 S251 hq252 => ?_)
        obtain ⟨z253, rfl, h254, h255, rm256, hth257, e258, e259, hI260, hF261⟩ := hq252
        have e262 := RTx.fr e_RT hF261 rfl rfl
        have e263 := RMex.fr e_RMe hF261 rfl rfl
        have e264 := RSx.fr e_RS hF261 rfl rfl
        have e265 := RIx.fr e_RI hF261 rfl rfl
        have e266 := RKx.fr e_RK hF261 rfl rfl
        have e267 := RSlx.fr e_RSl hF261 rfl rfl
        have e268 := RPx.fr e_RP hF261 rfl rfl
        have e269 := RSkx.fr e_RSk hF261 rfl rfl
        have e270 := RAx.fr e_RA hF261 rfl rfl
        have e271 := RBx.fr e_RB hF261 rfl rfl
        have e272 := ROx.fr e_RO hF261 rfl rfl
        refine Or.inr (Or.inl ⟨rfl, ?_⟩)
        refine r_store (i := 177) (u := 5) (w := 0) (L1 := [some ((6, 0)), some ((2, 0)), some ((2, 43)), some ((2, 81)), some (vi i), some (vi z253), none]) rfl rfl rfl rfl ?_
        refine r_load (i := 178) (u := 2) (w := 2) rfl rfl rfl ?_
        refine r_load (i := 179) (u := 0) (w := 2) rfl rfl rfl ?_
        refine r_load (i := 180) (u := 4) (w := 0) rfl rfl rfl ?_
        refine r_const (i := 181) (u := 1) (z := 1) rfl rfl ?_
        refine r_iadd (i := 182) rfl ?_
        refine r_scA (i := 183) hG rfl (by omega) (by omega) fun h273 => ?_
        have h273 : Rg (sc (i + 1).toNat) := h273
        refine r_load (i := 184) (u := 0) (w := 2) rfl rfl rfl ?_
        refine r_load (i := 185) (u := 4) (w := 0) rfl rfl rfl ?_
        refine r_const (i := 186) (u := 2) (z := 2) rfl rfl ?_
        refine r_iadd (i := 187) rfl ?_
        refine r_scA (i := 188) hG rfl (by omega) (by omega) fun h274 => ?_
        have h274 : Rg (sc (i + 2).toNat) := h274
        refine r_call (i := 189) (u := 11) (v := 255) (w := 0) (b := 0) (na := 1283) (C2 := xC255) (as := [(2, 43), vi (sc (i + 1).toNat), vi (sc (i + 2).toNat)]) (s := []) rfl rfl rfl rfl rfl rfl rfl (sp255 (m := sc (i + 1).toNat) (t := sc (i + 2).toNat) hI260 ⟨by omega, by omega⟩ ⟨by omega, by omega⟩   (by omega)) (fun r275 S276 hq277 => ?_)
        obtain ⟨rfl, mt278, hI279, hF280, hR281⟩ := hq277
        have e282 := RTx.fr e262 hF280 rfl rfl
        have e283 := RMex.fr e263 hF280 rfl rfl
        have e284 := RSx.fr e264 hF280 rfl rfl
        have e285 := RIx.fr e265 hF280 rfl rfl
        have e286 := RKx.fr e266 hF280 rfl rfl
        have e287 := RSlx.fr e267 hF280 rfl rfl
        have e288 := RPx.fr e268 hF280 rfl rfl
        have e289 := RAx.fr e270 hF280 rfl rfl
        have e290 := RBx.fr e271 hF280 rfl rfl
        have e291 := N23x.fr e258 hF280 hR281 rfl rfl rfl
        have e292 := CRx.fr e259 hF280 rfl rfl
        have e293 := wRM_rm rm256 hR281
        refine Or.inl ⟨rfl, ?_⟩
        have rt9 := (RTh_thr e_RT e_RS e_RMe e_RTh hI.m3 hth257 hF261 rfl rfl mt278 hF280 rfl).1
        have rk9 := (RTh_thr e_RT e_RS e_RMe e_RTh hI.m3 hth257 hF261 rfl rfl mt278 hF280 rfl).2
        have rs9 := RSk_thr e_RSk (fun j => (hI.a ta60 j).1) (fun j => hI.a ta58 j) hF261 rfl rfl (FM_of e_RT e_RS hI.m3 (hF261.f rfl) (hF261.a rfl) (hF261.a rfl) (hF261.a rfl)) mt278 hF280 rfl rfl
        have ro8 := RO_thr (ROx.fr e_RO hF261 rfl rfl) (FM_of e_RT e_RS hI.m3 (hF261.f rfl) (hF261.a rfl) (hF261.a rfl) (hF261.a rfl)) mt278 hF280 rfl rfl
        refine r_goto (i := 190) (v := 654) rfl ?_
        refine r_iinc (i := 654) (u := 10) (v := 4) (s := 10) (L1 := [some ((6, 0)), some ((2, 0)), some ((2, 43)), some ((2, 81)), some (vi (i + 10)), some (vi z253), none]) rfl rfl rfl rfl rfl ?_
        refine r_goto (i := 655) (v := 13) rfl ?_
        refine yT_drop (L1 := [some ((6, 0)), some ((2, 0)), some ((2, 43)), some ((2, 81)), some (vi (i + 10)), none, none]) rfl ?_
        exact ih S276 hI279 e291 e292 e282 e283 e284 rt9 e285 e286 e287 e288 rs9 e289 e290 ro8 (i + 10) ⟨by omega, by omega⟩ (by exact wRM_le e293 (by omega)) (by omega)
      · refine r_swK (i := 24) (u := 1) (v := 654) (k := 4) (t := 191) rfl rfl h9 (by decide) (by decide) rfl ?_
        refine r_load (i := 191) (u := 1) (w := 2) rfl rfl rfl ?_
        refine r_load (i := 192) (u := 0) (w := 2) rfl rfl rfl ?_
        refine r_load (i := 193) (u := 4) (w := 0) rfl rfl rfl ?_
        refine r_const (i := 194) (u := 1) (z := 1) rfl rfl ?_
        refine r_iadd (i := 195) rfl ?_
        refine r_scA (i := 196) hG rfl (by omega) (by omega) fun h294 => ?_
        have h294 : Rg (sc (i + 1).toNat) := h294
        refine r_load (i := 197) (u := 0) (w := 2) rfl rfl rfl ?_
        refine r_load (i := 198) (u := 4) (w := 0) rfl rfl rfl ?_
        refine r_const (i := 199) (u := 2) (z := 2) rfl rfl ?_
        refine r_iadd (i := 200) rfl ?_
        refine r_scA (i := 201) hG rfl (by omega) (by omega) fun h295 => ?_
        have h295 : Rg (sc (i + 2).toNat) := h295
        have h296 := hI.f tf1_7
        refine r_call (i := 202) (u := 0) (v := 12) (w := 0) (b := 0) (na := 771) (C2 := xC12) (as := [(2, 0), vi (sc (i + 1).toNat), vi (sc (i + 2).toNat)]) (s := []) rfl rfl rfl rfl rfl rfl rfl (sp12 (t := sc (i + 1).toNat) (o := sc (i + 2).toNat) hI ⟨by omega, by omega⟩ ⟨by omega, by omega⟩   (by omega)) (fun r297 S298 hq299 => ?_)
        obtain ⟨z300, rfl, h301, h302, cs303, rfl⟩ := hq299
        refine Or.inr (Or.inl ⟨rfl, ?_⟩)
        refine r_pop (i := 203) rfl rfl ?_
        refine r_load (i := 204) (u := 2) (w := 2) rfl rfl rfl ?_
        refine r_load (i := 205) (u := 0) (w := 2) rfl rfl rfl ?_
        refine r_load (i := 206) (u := 4) (w := 0) rfl rfl rfl ?_
        refine r_const (i := 207) (u := 1) (z := 1) rfl rfl ?_
        refine r_iadd (i := 208) rfl ?_
        refine r_scA (i := 209) hG rfl (by omega) (by omega) fun h304 => ?_
        have h304 : Rg (sc (i + 1).toNat) := h304
        refine r_load (i := 210) (u := 0) (w := 2) rfl rfl rfl ?_
        refine r_load (i := 211) (u := 4) (w := 0) rfl rfl rfl ?_
        refine r_const (i := 212) (u := 2) (z := 2) rfl rfl ?_
        refine r_iadd (i := 213) rfl ?_
        refine r_scA (i := 214) hG rfl (by omega) (by omega) fun h305 => ?_
        have h305 : Rg (sc (i + 2).toNat) := h305
        have h306 := hI.f tf43_1
        refine r_call (i := 215) (u := 11) (v := 211) (w := 0) (b := 0) (na := 771) (C2 := xC211) (as := [(2, 43), vi (sc (i + 1).toNat), vi (sc (i + 2).toNat)]) (s := []) rfl rfl rfl rfl rfl rfl rfl (sp211 (t := sc (i + 1).toNat) (o := sc (i + 2).toNat) hI ⟨by omega, by omega⟩ ⟨by omega, by omega⟩   (by omega)) (fun r307 S308 hq309 => ?_)
        obtain ⟨z310, rfl, h311, h312, ms313, hI314, hF315, hR316⟩ := hq309
        have e317 := N23x.fr e_N23 hF315 hR316 rfl rfl rfl
        have e318 := CRx.fr e_CR hF315 rfl rfl
        have e319 := RTx.fr e_RT hF315 rfl rfl
        have e320 := RMex.fr e_RMe hF315 rfl rfl
        have e321 := RSx.fr e_RS hF315 rfl rfl
        have e322 := RThx.fr e_RTh hF315 rfl rfl
        have e323 := RIx.fr e_RI hF315 rfl rfl
        have e324 := RKx.fr e_RK hF315 rfl rfl
        have e325 := RSlx.fr e_RSl hF315 rfl rfl
        have e326 := RPx.fr e_RP hF315 rfl rfl
        have e327 := RSkx.fr e_RSk hF315 rfl rfl
        have e328 := RAx.fr e_RA hF315 rfl rfl
        have e329 := RBx.fr e_RB hF315 rfl rfl
        have e330 := ROx.fr e_RO hF315 rfl rfl
        have e331 := wRM_rm q_0 hR316
        refine Or.inr (Or.inl ⟨rfl, ?_⟩)
        have eq9 := RS_sub e_RT e_RS hI.m3 (hI.f tf1_7).2 cs303 ms313 rfl (fun _ => rfl) (fun _ => rfl) (fun _ => rfl)
        refine r_pop (i := 216) rfl rfl ?_
        refine r_goto (i := 217) (v := 654) rfl ?_
        refine r_iinc (i := 654) (u := 10) (v := 4) (s := 10) (L1 := [some ((6, 0)), some ((2, 0)), some ((2, 43)), some ((2, 81)), some (vi (i + 10)), none, none]) rfl rfl rfl rfl rfl ?_
        refine r_goto (i := 655) (v := 13) rfl ?_
        exact ih S308 hI314 e317 e318 e319 e320 e321 e322 e323 e324 e325 e326 e327 e328 e329 e330 (i + 10) ⟨by omega, by omega⟩ (by exact wRM_le e331 (by omega)) (by omega)
      · refine r_swK (i := 24) (u := 1) (v := 654) (k := 5) (t := 218) rfl rfl h10 (by decide) (by decide) rfl ?_
        refine r_load (i := 218) (u := 1) (w := 2) rfl rfl rfl ?_
        refine r_load (i := 219) (u := 0) (w := 2) rfl rfl rfl ?_
        refine r_load (i := 220) (u := 4) (w := 0) rfl rfl rfl ?_
        refine r_const (i := 221) (u := 1) (z := 1) rfl rfl ?_
        refine r_iadd (i := 222) rfl ?_
        refine r_scA (i := 223) hG rfl (by omega) (by omega) fun h332 => ?_
        have h332 : Rg (sc (i + 1).toNat) := h332
        refine r_load (i := 224) (u := 0) (w := 2) rfl rfl rfl ?_
        refine r_load (i := 225) (u := 4) (w := 0) rfl rfl rfl ?_
        refine r_const (i := 226) (u := 2) (z := 2) rfl rfl ?_
        refine r_iadd (i := 227) rfl ?_
        refine r_scA (i := 228) hG rfl (by omega) (by omega) fun h333 => ?_
        have h333 : Rg (sc (i + 2).toNat) := h333
        refine r_call (i := 229) (u := 0) (v := 14) (w := 0) (b := 0) (na := 771) (C2 := xC14) (as := [(2, 0), vi (sc (i + 1).toNat), vi (sc (i + 2).toNat)]) (s := []) rfl rfl rfl rfl rfl rfl rfl (sp14 (w0 := sc (i + 1).toNat) (k := sc (i + 2).toNat) hI ⟨by omega, by omega⟩ ⟨by omega, by omega⟩   (by omega)) (fun r334 S335 hq336 => ?_)
        obtain ⟨z337, rfl, h338, h339, h340, pl341, hI342, hF343, hR344⟩ := hq336
        have e345 := N23x.fr e_N23 hF343 hR344 rfl rfl rfl
        have e346 := CRx.fr e_CR hF343 rfl rfl
        have e347 := RTx.fr e_RT hF343 rfl rfl
        have e348 := RMex.fr e_RMe hF343 rfl rfl
        have e349 := RSx.fr e_RS hF343 rfl rfl
        have e350 := RThx.fr e_RTh hF343 rfl rfl
        have e351 := RIx.fr e_RI hF343 rfl rfl
        have e352 := RKx.fr e_RK hF343 rfl rfl
        have e353 := RSlx.fr e_RSl hF343 rfl rfl
        have e354 := RSkx.fr e_RSk hF343 rfl rfl
        have e355 := RAx.fr e_RA hF343 rfl rfl
        have e356 := RBx.fr e_RB hF343 rfl rfl
        have e357 := ROx.fr e_RO hF343 rfl rfl
        have e358 := wRM_rm q_0 hR344
        refine Or.inr (Or.inl ⟨rfl, ?_⟩)
        refine r_pop (i := 230) rfl rfl ?_
        refine r_load (i := 231) (u := 2) (w := 2) rfl rfl rfl ?_
        refine r_load (i := 232) (u := 0) (w := 2) rfl rfl rfl ?_
        refine r_load (i := 233) (u := 4) (w := 0) rfl rfl rfl ?_
        refine r_const (i := 234) (u := 1) (z := 1) rfl rfl ?_
        refine r_iadd (i := 235) rfl ?_
        refine r_scA (i := 236) hG rfl (by omega) (by omega) fun h359 => ?_
        have h359 : Rg (sc (i + 1).toNat) := h359
        refine r_load (i := 237) (u := 0) (w := 2) rfl rfl rfl ?_
        refine r_load (i := 238) (u := 4) (w := 0) rfl rfl rfl ?_
        refine r_const (i := 239) (u := 2) (z := 2) rfl rfl ?_
        refine r_iadd (i := 240) rfl ?_
        refine r_scA (i := 241) hG rfl (by omega) (by omega) fun h360 => ?_
        have h360 : Rg (sc (i + 2).toNat) := h360
        refine r_call (i := 242) (u := 11) (v := 232) (w := 0) (b := 0) (na := 771) (C2 := xC232) (as := [(2, 43), vi (sc (i + 1).toNat), vi (sc (i + 2).toNat)]) (s := []) rfl rfl rfl rfl rfl rfl rfl (sp232 (w0 := sc (i + 1).toNat) (k := sc (i + 2).toNat) hI342 ⟨by omega, by omega⟩ ⟨by omega, by omega⟩   (by omega)) (fun r361 S362 hq363 => ?_)
        obtain ⟨z364, rfl, h365, h366, h367, pl368, hI369, hF370, hR371⟩ := hq363
        have e372 := N23x.fr e345 hF370 hR371 rfl rfl rfl
        have e373 := CRx.fr e346 hF370 rfl rfl
        have e374 := RTx.fr e347 hF370 rfl rfl
        have e375 := RMex.fr e348 hF370 rfl rfl
        have e376 := RSx.fr e349 hF370 rfl rfl
        have e377 := RThx.fr e350 hF370 rfl rfl
        have e378 := RIx.fr e351 hF370 rfl rfl
        have e379 := RKx.fr e352 hF370 rfl rfl
        have e380 := RSlx.fr e353 hF370 rfl rfl
        have e381 := RSkx.fr e354 hF370 rfl rfl
        have e382 := RAx.fr e355 hF370 rfl rfl
        have e383 := RBx.fr e356 hF370 rfl rfl
        have e384 := ROx.fr e357 hF370 rfl rfl
        have e385 := wRM_rm e358 hR371
        refine Or.inr (Or.inl ⟨rfl, ?_⟩)
        have rp9 := RP_pol e_RP pl341 hF343 rfl pl368 hF370 rfl (by omega)
        refine r_pop (i := 243) rfl rfl ?_
        refine r_goto (i := 244) (v := 654) rfl ?_
        refine r_iinc (i := 654) (u := 10) (v := 4) (s := 10) (L1 := [some ((6, 0)), some ((2, 0)), some ((2, 43)), some ((2, 81)), some (vi (i + 10)), none, none]) rfl rfl rfl rfl rfl ?_
        refine r_goto (i := 655) (v := 13) rfl ?_
        exact ih S362 hI369 e372 e373 e374 e375 e376 e377 e378 e379 e380 rp9 e381 e382 e383 e384 (i + 10) ⟨by omega, by omega⟩ (by exact wRM_le e385 (by omega)) (by omega)
      · refine r_swK (i := 24) (u := 1) (v := 654) (k := 6) (t := 245) rfl rfl h11 (by decide) (by decide) rfl ?_
        refine r_load (i := 245) (u := 1) (w := 2) rfl rfl rfl ?_
        refine r_load (i := 246) (u := 0) (w := 2) rfl rfl rfl ?_
        refine r_load (i := 247) (u := 4) (w := 0) rfl rfl rfl ?_
        refine r_const (i := 248) (u := 1) (z := 1) rfl rfl ?_
        refine r_iadd (i := 249) rfl ?_
        refine r_scA (i := 250) hG rfl (by omega) (by omega) fun h386 => ?_
        have h386 : Rg (sc (i + 1).toNat) := h386
        refine r_load (i := 251) (u := 0) (w := 2) rfl rfl rfl ?_
        refine r_load (i := 252) (u := 4) (w := 0) rfl rfl rfl ?_
        refine r_const (i := 253) (u := 2) (z := 2) rfl rfl ?_
        refine r_iadd (i := 254) rfl ?_
        refine r_scA (i := 255) hG rfl (by omega) (by omega) fun h387 => ?_
        have h387 : Rg (sc (i + 2).toNat) := h387
        refine r_load (i := 256) (u := 0) (w := 2) rfl rfl rfl ?_
        refine r_load (i := 257) (u := 4) (w := 0) rfl rfl rfl ?_
        refine r_const (i := 258) (u := 3) (z := 3) rfl rfl ?_
        refine r_iadd (i := 259) rfl ?_
        refine r_scA (i := 260) hG rfl (by omega) (by omega) fun h388 => ?_
        have h388 : Rg (sc (i + 3).toNat) := h388
        refine r_load (i := 261) (u := 0) (w := 2) rfl rfl rfl ?_
        refine r_load (i := 262) (u := 4) (w := 0) rfl rfl rfl ?_
        refine r_const (i := 263) (u := 4) (z := 4) rfl rfl ?_
        refine r_iadd (i := 264) rfl ?_
        refine r_scA (i := 265) hG rfl (by omega) (by omega) fun h389 => ?_
        have h389 : Rg (sc (i + 4).toNat) := h389
        refine r_load (i := 266) (u := 3) (w := 2) rfl rfl rfl ?_
        refine r_call (i := 267) (u := 65535) (v := 175) (w := 0) (b := 2) (na := 1798) (C2 := xC175) (as := [(2, 0), vi (sc (i + 1).toNat), vi (sc (i + 2).toNat), vi (sc (i + 3).toNat), vi (sc (i + 4).toNat), (2, 81)]) (s := []) rfl rfl rfl rfl rfl rfl rfl (sp175 (p0 := sc (i + 1).toNat) (p1 := sc (i + 2).toNat) (p2 := sc (i + 3).toNat) (p3 := sc (i + 4).toNat) (kR := 5199 - i) hI ⟨by omega, by omega⟩ ⟨by omega, by omega⟩ ⟨by omega, by omega⟩ ⟨by omega, by omega⟩ (by exact wRM_le q_0 (by omega)) (by omega) e_N23 e_CR (by omega)) (fun r390 S391 hq392 => ?_)
        obtain ⟨z393, rfl, h394, h395, rm396, hfo397, e398, e399, hI400, hF401⟩ := hq392
        have e402 := RTx.fr e_RT hF401 rfl rfl
        have e403 := RMex.fr e_RMe hF401 rfl rfl
        have e404 := RSx.fr e_RS hF401 rfl rfl
        have e405 := RThx.fr e_RTh hF401 rfl rfl
        have e406 := RIx.fr e_RI hF401 rfl rfl
        have e407 := RKx.fr e_RK hF401 rfl rfl
        have e408 := RPx.fr e_RP hF401 rfl rfl
        have e409 := RAx.fr e_RA hF401 rfl rfl
        have e410 := RBx.fr e_RB hF401 rfl rfl
        have e411 := ROx.fr e_RO hF401 rfl rfl
        refine Or.inr (Or.inl ⟨rfl, ?_⟩)
        refine r_store (i := 268) (u := 5) (w := 0) (L1 := [some ((6, 0)), some ((2, 0)), some ((2, 43)), some ((2, 81)), some (vi i), some (vi z393), none]) rfl rfl rfl rfl ?_
        refine r_load (i := 269) (u := 2) (w := 2) rfl rfl rfl ?_
        refine r_load (i := 270) (u := 0) (w := 2) rfl rfl rfl ?_
        refine r_load (i := 271) (u := 4) (w := 0) rfl rfl rfl ?_
        refine r_const (i := 272) (u := 1) (z := 1) rfl rfl ?_
        refine r_iadd (i := 273) rfl ?_
        refine r_scA (i := 274) hG rfl (by omega) (by omega) fun h412 => ?_
        have h412 : Rg (sc (i + 1).toNat) := h412
        refine r_load (i := 275) (u := 0) (w := 2) rfl rfl rfl ?_
        refine r_load (i := 276) (u := 4) (w := 0) rfl rfl rfl ?_
        refine r_const (i := 277) (u := 2) (z := 2) rfl rfl ?_
        refine r_iadd (i := 278) rfl ?_
        refine r_scA (i := 279) hG rfl (by omega) (by omega) fun h413 => ?_
        have h413 : Rg (sc (i + 2).toNat) := h413
        refine r_load (i := 280) (u := 0) (w := 2) rfl rfl rfl ?_
        refine r_load (i := 281) (u := 4) (w := 0) rfl rfl rfl ?_
        refine r_const (i := 282) (u := 3) (z := 3) rfl rfl ?_
        refine r_iadd (i := 283) rfl ?_
        refine r_scA (i := 284) hG rfl (by omega) (by omega) fun h414 => ?_
        have h414 : Rg (sc (i + 3).toNat) := h414
        refine r_load (i := 285) (u := 0) (w := 2) rfl rfl rfl ?_
        refine r_load (i := 286) (u := 4) (w := 0) rfl rfl rfl ?_
        refine r_const (i := 287) (u := 4) (z := 4) rfl rfl ?_
        refine r_iadd (i := 288) rfl ?_
        refine r_scA (i := 289) hG rfl (by omega) (by omega) fun h415 => ?_
        have h415 : Rg (sc (i + 4).toNat) := h415
        refine r_call (i := 290) (u := 11) (v := 203) (w := 0) (b := 0) (na := 2565) (C2 := xC203) (as := [(2, 43), vi (sc (i + 1).toNat), vi (sc (i + 2).toNat), vi (sc (i + 3).toNat), vi (sc (i + 4).toNat)]) (s := []) rfl rfl rfl rfl rfl rfl rfl (sp203 (c := sc (i + 1).toNat) (a := sc (i + 2).toNat) (b := sc (i + 3).toNat) (e := sc (i + 4).toNat) hI400 ⟨by omega, by omega⟩ ⟨by omega, by omega⟩ ⟨by omega, by omega⟩ ⟨by omega, by omega⟩  e399 (by omega)) (fun r416 S417 hq418 => ?_)
        obtain ⟨z419, rfl, h420, h421, mf422, mkq423, e424, hI425, hF426, hR427⟩ := hq418
        have e428 := RTx.fr e402 hF426 rfl rfl
        have e429 := RMex.fr e403 hF426 rfl rfl
        have e430 := RSx.fr e404 hF426 rfl rfl
        have e431 := RThx.fr e405 hF426 rfl rfl
        have e432 := RIx.fr e406 hF426 rfl rfl
        have e433 := RKx.fr e407 hF426 rfl rfl
        have e434 := RPx.fr e408 hF426 rfl rfl
        have e435 := RAx.fr e409 hF426 rfl rfl
        have e436 := RBx.fr e410 hF426 rfl rfl
        have e437 := ROx.fr e411 hF426 rfl rfl
        have e438 := N23x.fr e398 hF426 hR427 rfl rfl rfl
        have e439 := wRM_rm rm396 hR427
        refine Or.inr (Or.inl ⟨rfl, ?_⟩)
        have rs9 := (FX_eq e_RT e_RS e_RMe e_RI e_RK hI.m3 (hI.f tf1_7).2 hfo397 (sMa_fr hF401 rfl rfl) mf422 e_RSl (sSm_fr hF401 rfl rfl) (sSl_fr hF426 rfl rfl) (hI425.f tf43_20).1).2.2
        have rk9 := (FX_eq e_RT e_RS e_RMe e_RI e_RK hI.m3 (hI.f tf1_7).2 hfo397 (sMa_fr hF401 rfl rfl) mf422 e_RSl (sSm_fr hF401 rfl rfl) (sSl_fr hF426 rfl rfl) (hI425.f tf43_20).1).1
        have ro9 := (FX_eq e_RT e_RS e_RMe e_RI e_RK hI.m3 (hI.f tf1_7).2 hfo397 (sMa_fr hF401 rfl rfl) mf422 e_RSl (sSm_fr hF401 rfl rfl) (sSl_fr hF426 rfl rfl) (hI425.f tf43_20).1).2.1
        have rs8 := RSk_forge e_RSk hfo397 hF401 rfl mf422 mkq423 hF426 rfl rfl rk9 ro9 rs9 e434 e429 e431
        refine r_store (i := 291) (u := 6) (w := 0) (L1 := [some ((6, 0)), some ((2, 0)), some ((2, 43)), some ((2, 81)), some (vi i), some (vi z393), some (vi z419)]) rfl rfl rfl rfl ?_
        refine r_goto (i := 292) (v := 654) rfl ?_
        refine r_iinc (i := 654) (u := 10) (v := 4) (s := 10) (L1 := [some ((6, 0)), some ((2, 0)), some ((2, 43)), some ((2, 81)), some (vi (i + 10)), some (vi z393), some (vi z419)]) rfl rfl rfl rfl rfl ?_
        refine r_goto (i := 655) (v := 13) rfl ?_
        refine yT_drop (L1 := [some ((6, 0)), some ((2, 0)), some ((2, 43)), some ((2, 81)), some (vi (i + 10)), none, none]) rfl ?_
        exact ih S417 hI425 e438 e424 e428 e429 e430 e431 e432 e433 rs9 e434 rs8 e435 e436 e437 (i + 10) ⟨by omega, by omega⟩ (by exact wRM_le e439 (by omega)) (by omega)
      · refine r_swK (i := 24) (u := 1) (v := 654) (k := 7) (t := 293) rfl rfl h12 (by decide) (by decide) rfl ?_
        refine r_load (i := 293) (u := 1) (w := 2) rfl rfl rfl ?_
        have h440 := hI.f tf22_3
        refine r_call (i := 294) (u := 0) (v := 19) (w := 0) (b := 0) (na := 257) (C2 := xC19) (as := [(2, 0)]) (s := []) rfl rfl rfl rfl rfl rfl rfl (sp19  hI    (by omega)) (fun r441 S442 hq443 => ?_)
        obtain ⟨z444, rfl, h445, h446, sc_slots447, rfl⟩ := hq443
        refine Or.inr (Or.inl ⟨rfl, ?_⟩)
        refine r_pop (i := 295) rfl rfl ?_
        refine r_load (i := 296) (u := 2) (w := 2) rfl rfl rfl ?_
        have h448 := hI.f tf43_20
        refine r_call (i := 297) (u := 11) (v := 244) (w := 0) (b := 0) (na := 257) (C2 := xC244) (as := [(2, 43)]) (s := []) rfl rfl rfl rfl rfl rfl rfl (sp244  hI    (by omega)) (fun r449 S450 hq451 => ?_)
        obtain ⟨z452, rfl, h453, h454, sm_slots455, hI456, hF457, hR458⟩ := hq451
        have e459 := N23x.fr e_N23 hF457 hR458 rfl rfl rfl
        have e460 := CRx.fr e_CR hF457 rfl rfl
        have e461 := RTx.fr e_RT hF457 rfl rfl
        have e462 := RMex.fr e_RMe hF457 rfl rfl
        have e463 := RSx.fr e_RS hF457 rfl rfl
        have e464 := RThx.fr e_RTh hF457 rfl rfl
        have e465 := RIx.fr e_RI hF457 rfl rfl
        have e466 := RKx.fr e_RK hF457 rfl rfl
        have e467 := RSlx.fr e_RSl hF457 rfl rfl
        have e468 := RPx.fr e_RP hF457 rfl rfl
        have e469 := RSkx.fr e_RSk hF457 rfl rfl
        have e470 := RAx.fr e_RA hF457 rfl rfl
        have e471 := RBx.fr e_RB hF457 rfl rfl
        have e472 := ROx.fr e_RO hF457 rfl rfl
        have e473 := wRM_rm q_0 hR458
        refine Or.inr (Or.inl ⟨rfl, ?_⟩)
        have eq9 := e_RSl.1
        refine r_pop (i := 298) rfl rfl ?_
        refine r_goto (i := 299) (v := 654) rfl ?_
        refine r_iinc (i := 654) (u := 10) (v := 4) (s := 10) (L1 := [some ((6, 0)), some ((2, 0)), some ((2, 43)), some ((2, 81)), some (vi (i + 10)), none, none]) rfl rfl rfl rfl rfl ?_
        refine r_goto (i := 655) (v := 13) rfl ?_
        exact ih S450 hI456 e459 e460 e461 e462 e463 e464 e465 e466 e467 e468 e469 e470 e471 e472 (i + 10) ⟨by omega, by omega⟩ (by exact wRM_le e473 (by omega)) (by omega)
      · refine r_swK (i := 24) (u := 1) (v := 654) (k := 8) (t := 300) rfl rfl h13 (by decide) (by decide) rfl ?_
        refine r_load (i := 300) (u := 1) (w := 2) rfl rfl rfl ?_
        refine r_load (i := 301) (u := 0) (w := 2) rfl rfl rfl ?_
        refine r_load (i := 302) (u := 4) (w := 0) rfl rfl rfl ?_
        refine r_const (i := 303) (u := 1) (z := 1) rfl rfl ?_
        refine r_iadd (i := 304) rfl ?_
        refine r_scA (i := 305) hG rfl (by omega) (by omega) fun h474 => ?_
        have h474 : Rg (sc (i + 1).toNat) := h474
        have h475 := hI.f tf22_3
        refine r_call (i := 306) (u := 0) (v := 18) (w := 0) (b := 0) (na := 514) (C2 := xC18) (as := [(2, 0), vi (sc (i + 1).toNat)]) (s := []) rfl rfl rfl rfl rfl rfl rfl (sp18 (k := sc (i + 1).toNat) hI ⟨by omega, by omega⟩   (by omega)) (fun r476 S477 hq478 => ?_)
        obtain ⟨z479, rfl, h480, h481, sc_slot482, rfl⟩ := hq478
        refine Or.inr (Or.inl ⟨rfl, ?_⟩)
        refine r_pop (i := 307) rfl rfl ?_
        refine r_load (i := 308) (u := 2) (w := 2) rfl rfl rfl ?_
        refine r_load (i := 309) (u := 0) (w := 2) rfl rfl rfl ?_
        refine r_load (i := 310) (u := 4) (w := 0) rfl rfl rfl ?_
        refine r_const (i := 311) (u := 1) (z := 1) rfl rfl ?_
        refine r_iadd (i := 312) rfl ?_
        refine r_scA (i := 313) hG rfl (by omega) (by omega) fun h483 => ?_
        have h483 : Rg (sc (i + 1).toNat) := h483
        have h484 := hI.f tf43_20
        refine r_call (i := 314) (u := 11) (v := 243) (w := 0) (b := 0) (na := 514) (C2 := xC243) (as := [(2, 43), vi (sc (i + 1).toNat)]) (s := []) rfl rfl rfl rfl rfl rfl rfl (sp243 (k := sc (i + 1).toNat) hI ⟨by omega, by omega⟩   (by omega)) (fun r485 S486 hq487 => ?_)
        obtain ⟨z488, rfl, h489, h490, sm_slot491, hI492, hF493, hR494⟩ := hq487
        have e495 := N23x.fr e_N23 hF493 hR494 rfl rfl rfl
        have e496 := CRx.fr e_CR hF493 rfl rfl
        have e497 := RTx.fr e_RT hF493 rfl rfl
        have e498 := RMex.fr e_RMe hF493 rfl rfl
        have e499 := RSx.fr e_RS hF493 rfl rfl
        have e500 := RThx.fr e_RTh hF493 rfl rfl
        have e501 := RIx.fr e_RI hF493 rfl rfl
        have e502 := RKx.fr e_RK hF493 rfl rfl
        have e503 := RSlx.fr e_RSl hF493 rfl rfl
        have e504 := RPx.fr e_RP hF493 rfl rfl
        have e505 := RSkx.fr e_RSk hF493 rfl rfl
        have e506 := RAx.fr e_RA hF493 rfl rfl
        have e507 := RBx.fr e_RB hF493 rfl rfl
        have e508 := ROx.fr e_RO hF493 rfl rfl
        have e509 := wRM_rm q_0 hR494
        refine Or.inr (Or.inl ⟨rfl, ?_⟩)
        have eq9 := RSl_slot e_RSl sc_slot482 sm_slot491
        refine r_pop (i := 315) rfl rfl ?_
        refine r_goto (i := 316) (v := 654) rfl ?_
        refine r_iinc (i := 654) (u := 10) (v := 4) (s := 10) (L1 := [some ((6, 0)), some ((2, 0)), some ((2, 43)), some ((2, 81)), some (vi (i + 10)), none, none]) rfl rfl rfl rfl rfl ?_
        refine r_goto (i := 655) (v := 13) rfl ?_
        exact ih S486 hI492 e495 e496 e497 e498 e499 e500 e501 e502 e503 e504 e505 e506 e507 e508 (i + 10) ⟨by omega, by omega⟩ (by exact wRM_le e509 (by omega)) (by omega)
      · refine r_swK (i := 24) (u := 1) (v := 654) (k := 9) (t := 317) rfl rfl h14 (by decide) (by decide) rfl ?_
        refine r_load (i := 317) (u := 1) (w := 2) rfl rfl rfl ?_
        refine r_load (i := 318) (u := 0) (w := 2) rfl rfl rfl ?_
        refine r_load (i := 319) (u := 4) (w := 0) rfl rfl rfl ?_
        refine r_const (i := 320) (u := 1) (z := 1) rfl rfl ?_
        refine r_iadd (i := 321) rfl ?_
        refine r_scA (i := 322) hG rfl (by omega) (by omega) fun h510 => ?_
        have h510 : Rg (sc (i + 1).toNat) := h510
        refine r_load (i := 323) (u := 0) (w := 2) rfl rfl rfl ?_
        refine r_load (i := 324) (u := 4) (w := 0) rfl rfl rfl ?_
        refine r_const (i := 325) (u := 2) (z := 2) rfl rfl ?_
        refine r_iadd (i := 326) rfl ?_
        refine r_scA (i := 327) hG rfl (by omega) (by omega) fun h511 => ?_
        have h511 : Rg (sc (i + 2).toNat) := h511
        refine r_i2l (i := 328) rfl ⟨by omega, by omega⟩ ?_
        refine r_const (i := 329) (u := 32) (z := 32) rfl rfl ?_
        refine r_lshl (i := 330) rfl ?_
        refine r_load (i := 331) (u := 0) (w := 2) rfl rfl rfl ?_
        refine r_load (i := 332) (u := 4) (w := 0) rfl rfl rfl ?_
        refine r_const (i := 333) (u := 3) (z := 3) rfl rfl ?_
        refine r_iadd (i := 334) rfl ?_
        refine r_scA (i := 335) hG rfl (by omega) (by omega) fun h512 => ?_
        have h512 : Rg (sc (i + 3).toNat) := h512
        refine r_i2l (i := 336) rfl ⟨by omega, by omega⟩ ?_
        refine r_lconst (i := 337) (u := 4294967295) (z := 4294967295) rfl rfl ?_
        refine r_land (i := 338) rfl ?_
        have h513 := @yland_c (sc (i + 3).toNat) 4294967295 (by decide) (by decide)
        refine r_lor (i := 339) rfl ?_
        have h514 := ylor_rl ((sc (i + 2).toNat) * 4294967296) (yland (sc (i + 3).toNat) 4294967295)
        refine r_call (i := 340) (u := 65535) (v := 173) (w := 0) (b := 2) (na := 1283) (C2 := xC173) (as := [(2, 0), vi (sc (i + 1).toNat), vl (ylor ((sc (i + 2).toNat) * 4294967296) (yland (sc (i + 3).toNat) 4294967295))]) (s := []) rfl rfl rfl rfl rfl rfl rfl (sp173 (p0 := sc (i + 1).toNat) (p1 := ylor ((sc (i + 2).toNat) * 4294967296) (yland (sc (i + 3).toNat) 4294967295)) (kR := 5199 - i) hI ⟨by omega, by omega⟩ ⟨by omega, by omega⟩ (by exact wRM_le q_0 (by omega)) (by omega) e_N23 e_CR (by omega)) (fun r515 S516 hq517 => ?_)
        obtain ⟨z518, rfl, h519, h520, rm521, han522, e523, e524, hI525, hF526⟩ := hq517
        have e527 := RTx.fr e_RT hF526 rfl rfl
        have e528 := RMex.fr e_RMe hF526 rfl rfl
        have e529 := RSx.fr e_RS hF526 rfl rfl
        have e530 := RThx.fr e_RTh hF526 rfl rfl
        have e531 := RIx.fr e_RI hF526 rfl rfl
        have e532 := RKx.fr e_RK hF526 rfl rfl
        have e533 := RSlx.fr e_RSl hF526 rfl rfl
        have e534 := RPx.fr e_RP hF526 rfl rfl
        have e535 := RSkx.fr e_RSk hF526 rfl rfl
        have e536 := RBx.fr e_RB hF526 rfl rfl
        have e537 := ROx.fr e_RO hF526 rfl rfl
        refine Or.inr (Or.inl ⟨rfl, ?_⟩)
        refine r_store (i := 341) (u := 5) (w := 0) (L1 := [some ((6, 0)), some ((2, 0)), some ((2, 43)), some ((2, 81)), some (vi i), some (vi z518), none]) rfl rfl rfl rfl ?_
        refine r_load (i := 342) (u := 2) (w := 2) rfl rfl rfl ?_
        refine r_load (i := 343) (u := 0) (w := 2) rfl rfl rfl ?_
        refine r_load (i := 344) (u := 4) (w := 0) rfl rfl rfl ?_
        refine r_const (i := 345) (u := 1) (z := 1) rfl rfl ?_
        refine r_iadd (i := 346) rfl ?_
        refine r_scA (i := 347) hG rfl (by omega) (by omega) fun h538 => ?_
        have h538 : Rg (sc (i + 1).toNat) := h538
        refine r_load (i := 348) (u := 0) (w := 2) rfl rfl rfl ?_
        refine r_load (i := 349) (u := 4) (w := 0) rfl rfl rfl ?_
        refine r_const (i := 350) (u := 2) (z := 2) rfl rfl ?_
        refine r_iadd (i := 351) rfl ?_
        refine r_scA (i := 352) hG rfl (by omega) (by omega) fun h539 => ?_
        have h539 : Rg (sc (i + 2).toNat) := h539
        refine r_i2l (i := 353) rfl ⟨by omega, by omega⟩ ?_
        refine r_const (i := 354) (u := 32) (z := 32) rfl rfl ?_
        refine r_lshl (i := 355) rfl ?_
        refine r_load (i := 356) (u := 0) (w := 2) rfl rfl rfl ?_
        refine r_load (i := 357) (u := 4) (w := 0) rfl rfl rfl ?_
        refine r_const (i := 358) (u := 3) (z := 3) rfl rfl ?_
        refine r_iadd (i := 359) rfl ?_
        refine r_scA (i := 360) hG rfl (by omega) (by omega) fun h540 => ?_
        have h540 : Rg (sc (i + 3).toNat) := h540
        refine r_i2l (i := 361) rfl ⟨by omega, by omega⟩ ?_
        refine r_lconst (i := 362) (u := 4294967295) (z := 4294967295) rfl rfl ?_
        refine r_land (i := 363) rfl ?_
        have h541 := @yland_c (sc (i + 3).toNat) 4294967295 (by decide) (by decide)
        refine r_lor (i := 364) rfl ?_
        have h542 := ylor_rl ((sc (i + 2).toNat) * 4294967296) (yland (sc (i + 3).toNat) 4294967295)
        have h543 := hI525.f tf43_33
        have h544 := hI525.m2
        have h545 : S516.f 43 33 = S.f 43 33 := hF526.f rfl
        have h546 := hI525.m2
        have h547 : S516.f 43 36 = S.f 43 36 := hF526.f rfl
        refine r_call (i := 365) (u := 11) (v := 181) (w := 0) (b := 0) (na := 1539) (C2 := xC181) (as := [(2, 43), vi (sc (i + 1).toNat), vl (ylor ((sc (i + 2).toNat) * 4294967296) (yland (sc (i + 3).toNat) 4294967295))]) (s := []) rfl rfl rfl rfl rfl rfl rfl (sp181 (w0 := sc (i + 1).toNat) (v := ylor ((sc (i + 2).toNat) * 4294967296) (yland (sc (i + 3).toNat) 4294967295)) hI525 ⟨by omega, by omega⟩ ⟨by omega, by omega⟩   (by omega)) (fun r548 S549 hq550 => ?_)
        obtain ⟨rfl, ma551, mv1552, mv2553, h554, hI555, hF556, hR557⟩ := hq550
        have e558 := RTx.fr e527 hF556 rfl rfl
        have e559 := RMex.fr e528 hF556 rfl rfl
        have e560 := RSx.fr e529 hF556 rfl rfl
        have e561 := RThx.fr e530 hF556 rfl rfl
        have e562 := RIx.fr e531 hF556 rfl rfl
        have e563 := RKx.fr e532 hF556 rfl rfl
        have e564 := RSlx.fr e533 hF556 rfl rfl
        have e565 := RPx.fr e534 hF556 rfl rfl
        have e566 := RSkx.fr e535 hF556 rfl rfl
        have e567 := RBx.fr e536 hF556 rfl rfl
        have e568 := N23x.fr e523 hF556 hR557 rfl rfl rfl
        have e569 := CRx.fr e524 hF556 rfl rfl
        have e570 := wRM_rm rm521 hR557
        refine Or.inl ⟨rfl, ?_⟩
        have rk9 := RS_ans e_RT e_RS hI.m3 han522.1 hF526 rfl rfl ma551
        have ra9 := (AN_eq e_RT e_RA e_RO han522 hF526 rfl rfl mv1552 mv2553 rk9 hF556 rfl rfl).1
        have ro9 := (AN_eq e_RT e_RA e_RO han522 hF526 rfl rfl mv1552 mv2553 rk9 hF556 rfl rfl).2
        refine r_goto (i := 366) (v := 654) rfl ?_
        refine r_iinc (i := 654) (u := 10) (v := 4) (s := 10) (L1 := [some ((6, 0)), some ((2, 0)), some ((2, 43)), some ((2, 81)), some (vi (i + 10)), some (vi z518), none]) rfl rfl rfl rfl rfl ?_
        refine r_goto (i := 655) (v := 13) rfl ?_
        refine yT_drop (L1 := [some ((6, 0)), some ((2, 0)), some ((2, 43)), some ((2, 81)), some (vi (i + 10)), none, none]) rfl ?_
        exact ih S549 hI555 e568 e569 e558 e559 e560 e561 e562 e563 e564 e565 e566 ra9 e567 ro9 (i + 10) ⟨by omega, by omega⟩ (by exact wRM_le e570 (by omega)) (by omega)
      · refine r_swK (i := 24) (u := 1) (v := 654) (k := 10) (t := 367) rfl rfl h15 (by decide) (by decide) rfl ?_
        refine r_load (i := 367) (u := 1) (w := 2) rfl rfl rfl ?_
        refine r_load (i := 368) (u := 0) (w := 2) rfl rfl rfl ?_
        refine r_load (i := 369) (u := 4) (w := 0) rfl rfl rfl ?_
        refine r_const (i := 370) (u := 1) (z := 1) rfl rfl ?_
        refine r_iadd (i := 371) rfl ?_
        refine r_scA (i := 372) hG rfl (by omega) (by omega) fun h571 => ?_
        have h571 : Rg (sc (i + 1).toNat) := h571
        refine r_load (i := 373) (u := 0) (w := 2) rfl rfl rfl ?_
        refine r_load (i := 374) (u := 4) (w := 0) rfl rfl rfl ?_
        refine r_const (i := 375) (u := 2) (z := 2) rfl rfl ?_
        refine r_iadd (i := 376) rfl ?_
        refine r_scA (i := 377) hG rfl (by omega) (by omega) fun h572 => ?_
        have h572 : Rg (sc (i + 2).toNat) := h572
        refine r_i2l (i := 378) rfl ⟨by omega, by omega⟩ ?_
        refine r_const (i := 379) (u := 32) (z := 32) rfl rfl ?_
        refine r_lshl (i := 380) rfl ?_
        refine r_load (i := 381) (u := 0) (w := 2) rfl rfl rfl ?_
        refine r_load (i := 382) (u := 4) (w := 0) rfl rfl rfl ?_
        refine r_const (i := 383) (u := 3) (z := 3) rfl rfl ?_
        refine r_iadd (i := 384) rfl ?_
        refine r_scA (i := 385) hG rfl (by omega) (by omega) fun h573 => ?_
        have h573 : Rg (sc (i + 3).toNat) := h573
        refine r_i2l (i := 386) rfl ⟨by omega, by omega⟩ ?_
        refine r_lconst (i := 387) (u := 4294967295) (z := 4294967295) rfl rfl ?_
        refine r_land (i := 388) rfl ?_
        have h574 := @yland_c (sc (i + 3).toNat) 4294967295 (by decide) (by decide)
        refine r_lor (i := 389) rfl ?_
        have h575 := ylor_rl ((sc (i + 2).toNat) * 4294967296) (yland (sc (i + 3).toNat) 4294967295)
        refine r_load (i := 390) (u := 0) (w := 2) rfl rfl rfl ?_
        refine r_load (i := 391) (u := 4) (w := 0) rfl rfl rfl ?_
        refine r_const (i := 392) (u := 4) (z := 4) rfl rfl ?_
        refine r_iadd (i := 393) rfl ?_
        refine r_scA (i := 394) hG rfl (by omega) (by omega) fun h576 => ?_
        have h576 : Rg (sc (i + 4).toNat) := h576
        refine r_i2l (i := 395) rfl ⟨by omega, by omega⟩ ?_
        refine r_const (i := 396) (u := 32) (z := 32) rfl rfl ?_
        refine r_lshl (i := 397) rfl ?_
        refine r_load (i := 398) (u := 0) (w := 2) rfl rfl rfl ?_
        refine r_load (i := 399) (u := 4) (w := 0) rfl rfl rfl ?_
        refine r_const (i := 400) (u := 5) (z := 5) rfl rfl ?_
        refine r_iadd (i := 401) rfl ?_
        refine r_scA (i := 402) hG rfl (by omega) (by omega) fun h577 => ?_
        have h577 : Rg (sc (i + 5).toNat) := h577
        refine r_i2l (i := 403) rfl ⟨by omega, by omega⟩ ?_
        refine r_lconst (i := 404) (u := 4294967295) (z := 4294967295) rfl rfl ?_
        refine r_land (i := 405) rfl ?_
        have h578 := @yland_c (sc (i + 5).toNat) 4294967295 (by decide) (by decide)
        refine r_lor (i := 406) rfl ?_
        have h579 := ylor_rl ((sc (i + 4).toNat) * 4294967296) (yland (sc (i + 5).toNat) 4294967295)
        refine r_load (i := 407) (u := 0) (w := 2) rfl rfl rfl ?_
        refine r_load (i := 408) (u := 4) (w := 0) rfl rfl rfl ?_
        refine r_const (i := 409) (u := 6) (z := 6) rfl rfl ?_
        refine r_iadd (i := 410) rfl ?_
        refine r_scA (i := 411) hG rfl (by omega) (by omega) fun h580 => ?_
        have h580 : Rg (sc (i + 6).toNat) := h580
        refine r_i2l (i := 412) rfl ⟨by omega, by omega⟩ ?_
        refine r_const (i := 413) (u := 32) (z := 32) rfl rfl ?_
        refine r_lshl (i := 414) rfl ?_
        refine r_load (i := 415) (u := 0) (w := 2) rfl rfl rfl ?_
        refine r_load (i := 416) (u := 4) (w := 0) rfl rfl rfl ?_
        refine r_const (i := 417) (u := 7) (z := 7) rfl rfl ?_
        refine r_iadd (i := 418) rfl ?_
        refine r_scA (i := 419) hG rfl (by omega) (by omega) fun h581 => ?_
        have h581 : Rg (sc (i + 7).toNat) := h581
        refine r_i2l (i := 420) rfl ⟨by omega, by omega⟩ ?_
        refine r_lconst (i := 421) (u := 4294967295) (z := 4294967295) rfl rfl ?_
        refine r_land (i := 422) rfl ?_
        have h582 := @yland_c (sc (i + 7).toNat) 4294967295 (by decide) (by decide)
        refine r_lor (i := 423) rfl ?_
        have h583 := ylor_rl ((sc (i + 6).toNat) * 4294967296) (yland (sc (i + 7).toNat) 4294967295)
        refine r_load (i := 424) (u := 0) (w := 2) rfl rfl rfl ?_
        refine r_load (i := 425) (u := 4) (w := 0) rfl rfl rfl ?_
        refine r_const (i := 426) (u := 8) (z := 8) rfl rfl ?_
        refine r_iadd (i := 427) rfl ?_
        refine r_scA (i := 428) hG rfl (by omega) (by omega) fun h584 => ?_
        have h584 : Rg (sc (i + 8).toNat) := h584
        refine r_i2l (i := 429) rfl ⟨by omega, by omega⟩ ?_
        refine r_const (i := 430) (u := 32) (z := 32) rfl rfl ?_
        refine r_lshl (i := 431) rfl ?_
        refine r_load (i := 432) (u := 0) (w := 2) rfl rfl rfl ?_
        refine r_load (i := 433) (u := 4) (w := 0) rfl rfl rfl ?_
        refine r_const (i := 434) (u := 9) (z := 9) rfl rfl ?_
        refine r_iadd (i := 435) rfl ?_
        refine r_scA (i := 436) hG rfl (by omega) (by omega) fun h585 => ?_
        have h585 : Rg (sc (i + 9).toNat) := h585
        refine r_i2l (i := 437) rfl ⟨by omega, by omega⟩ ?_
        refine r_lconst (i := 438) (u := 4294967295) (z := 4294967295) rfl rfl ?_
        refine r_land (i := 439) rfl ?_
        have h586 := @yland_c (sc (i + 9).toNat) 4294967295 (by decide) (by decide)
        refine r_lor (i := 440) rfl ?_
        have h587 := ylor_rl ((sc (i + 8).toNat) * 4294967296) (yland (sc (i + 9).toNat) 4294967295)
        refine r_load (i := 441) (u := 3) (w := 2) rfl rfl rfl ?_
        refine r_call (i := 442) (u := 65535) (v := 174) (w := 0) (b := 2) (na := 3079) (C2 := xC174) (as := [(2, 0), vi (sc (i + 1).toNat), vl (ylor ((sc (i + 2).toNat) * 4294967296) (yland (sc (i + 3).toNat) 4294967295)), vl (ylor ((sc (i + 4).toNat) * 4294967296) (yland (sc (i + 5).toNat) 4294967295)), vl (ylor ((sc (i + 6).toNat) * 4294967296) (yland (sc (i + 7).toNat) 4294967295)), vl (ylor ((sc (i + 8).toNat) * 4294967296) (yland (sc (i + 9).toNat) 4294967295)), (2, 81)]) (s := []) rfl rfl rfl rfl rfl rfl rfl (sp174 (p0 := sc (i + 1).toNat) (p1 := ylor ((sc (i + 2).toNat) * 4294967296) (yland (sc (i + 3).toNat) 4294967295)) (p2 := ylor ((sc (i + 4).toNat) * 4294967296) (yland (sc (i + 5).toNat) 4294967295)) (p3 := ylor ((sc (i + 6).toNat) * 4294967296) (yland (sc (i + 7).toNat) 4294967295)) (p4 := ylor ((sc (i + 8).toNat) * 4294967296) (yland (sc (i + 9).toNat) 4294967295)) (kR := 5199 - i) hI ⟨by omega, by omega⟩ ⟨by omega, by omega⟩ ⟨by omega, by omega⟩ ⟨by omega, by omega⟩ ⟨by omega, by omega⟩ (by exact wRM_le q_0 (by omega)) (by omega) e_N23 e_CR (by omega)) (fun r588 S589 hq590 => ?_)
        obtain ⟨z591, rfl, h592, h593, rm594, hca595, e596, e597, hI598, hF599⟩ := hq590
        have e600 := RTx.fr e_RT hF599 rfl rfl
        have e601 := RMex.fr e_RMe hF599 rfl rfl
        have e602 := RSx.fr e_RS hF599 rfl rfl
        have e603 := RThx.fr e_RTh hF599 rfl rfl
        have e604 := RIx.fr e_RI hF599 rfl rfl
        have e605 := RKx.fr e_RK hF599 rfl rfl
        have e606 := RSlx.fr e_RSl hF599 rfl rfl
        have e607 := RPx.fr e_RP hF599 rfl rfl
        have e608 := RSkx.fr e_RSk hF599 rfl rfl
        have e609 := RAx.fr e_RA hF599 rfl rfl
        have e610 := ROx.fr e_RO hF599 rfl rfl
        refine Or.inr (Or.inl ⟨rfl, ?_⟩)
        refine r_store (i := 443) (u := 5) (w := 0) (L1 := [some ((6, 0)), some ((2, 0)), some ((2, 43)), some ((2, 81)), some (vi i), some (vi z591), none]) rfl rfl rfl rfl ?_
        refine r_load (i := 444) (u := 2) (w := 2) rfl rfl rfl ?_
        refine r_load (i := 445) (u := 0) (w := 2) rfl rfl rfl ?_
        refine r_load (i := 446) (u := 4) (w := 0) rfl rfl rfl ?_
        refine r_const (i := 447) (u := 1) (z := 1) rfl rfl ?_
        refine r_iadd (i := 448) rfl ?_
        refine r_scA (i := 449) hG rfl (by omega) (by omega) fun h611 => ?_
        have h611 : Rg (sc (i + 1).toNat) := h611
        refine r_load (i := 450) (u := 0) (w := 2) rfl rfl rfl ?_
        refine r_load (i := 451) (u := 4) (w := 0) rfl rfl rfl ?_
        refine r_const (i := 452) (u := 2) (z := 2) rfl rfl ?_
        refine r_iadd (i := 453) rfl ?_
        refine r_scA (i := 454) hG rfl (by omega) (by omega) fun h612 => ?_
        have h612 : Rg (sc (i + 2).toNat) := h612
        refine r_i2l (i := 455) rfl ⟨by omega, by omega⟩ ?_
        refine r_const (i := 456) (u := 32) (z := 32) rfl rfl ?_
        refine r_lshl (i := 457) rfl ?_
        refine r_load (i := 458) (u := 0) (w := 2) rfl rfl rfl ?_
        refine r_load (i := 459) (u := 4) (w := 0) rfl rfl rfl ?_
        refine r_const (i := 460) (u := 3) (z := 3) rfl rfl ?_
        refine r_iadd (i := 461) rfl ?_
        refine r_scA (i := 462) hG rfl (by omega) (by omega) fun h613 => ?_
        have h613 : Rg (sc (i + 3).toNat) := h613
        refine r_i2l (i := 463) rfl ⟨by omega, by omega⟩ ?_
        refine r_lconst (i := 464) (u := 4294967295) (z := 4294967295) rfl rfl ?_
        refine r_land (i := 465) rfl ?_
        have h614 := @yland_c (sc (i + 3).toNat) 4294967295 (by decide) (by decide)
        refine r_lor (i := 466) rfl ?_
        have h615 := ylor_rl ((sc (i + 2).toNat) * 4294967296) (yland (sc (i + 3).toNat) 4294967295)
        refine r_load (i := 467) (u := 0) (w := 2) rfl rfl rfl ?_
        refine r_load (i := 468) (u := 4) (w := 0) rfl rfl rfl ?_
        refine r_const (i := 469) (u := 4) (z := 4) rfl rfl ?_
        refine r_iadd (i := 470) rfl ?_
        refine r_scA (i := 471) hG rfl (by omega) (by omega) fun h616 => ?_
        have h616 : Rg (sc (i + 4).toNat) := h616
        refine r_i2l (i := 472) rfl ⟨by omega, by omega⟩ ?_
        refine r_const (i := 473) (u := 32) (z := 32) rfl rfl ?_
        refine r_lshl (i := 474) rfl ?_
        refine r_load (i := 475) (u := 0) (w := 2) rfl rfl rfl ?_
        refine r_load (i := 476) (u := 4) (w := 0) rfl rfl rfl ?_
        refine r_const (i := 477) (u := 5) (z := 5) rfl rfl ?_
        refine r_iadd (i := 478) rfl ?_
        refine r_scA (i := 479) hG rfl (by omega) (by omega) fun h617 => ?_
        have h617 : Rg (sc (i + 5).toNat) := h617
        refine r_i2l (i := 480) rfl ⟨by omega, by omega⟩ ?_
        refine r_lconst (i := 481) (u := 4294967295) (z := 4294967295) rfl rfl ?_
        refine r_land (i := 482) rfl ?_
        have h618 := @yland_c (sc (i + 5).toNat) 4294967295 (by decide) (by decide)
        refine r_lor (i := 483) rfl ?_
        have h619 := ylor_rl ((sc (i + 4).toNat) * 4294967296) (yland (sc (i + 5).toNat) 4294967295)
        refine r_load (i := 484) (u := 0) (w := 2) rfl rfl rfl ?_
        refine r_load (i := 485) (u := 4) (w := 0) rfl rfl rfl ?_
        refine r_const (i := 486) (u := 6) (z := 6) rfl rfl ?_
        refine r_iadd (i := 487) rfl ?_
        refine r_scA (i := 488) hG rfl (by omega) (by omega) fun h620 => ?_
        have h620 : Rg (sc (i + 6).toNat) := h620
        refine r_i2l (i := 489) rfl ⟨by omega, by omega⟩ ?_
        refine r_const (i := 490) (u := 32) (z := 32) rfl rfl ?_
        refine r_lshl (i := 491) rfl ?_
        refine r_load (i := 492) (u := 0) (w := 2) rfl rfl rfl ?_
        refine r_load (i := 493) (u := 4) (w := 0) rfl rfl rfl ?_
        refine r_const (i := 494) (u := 7) (z := 7) rfl rfl ?_
        refine r_iadd (i := 495) rfl ?_
        refine r_scA (i := 496) hG rfl (by omega) (by omega) fun h621 => ?_
        have h621 : Rg (sc (i + 7).toNat) := h621
        refine r_i2l (i := 497) rfl ⟨by omega, by omega⟩ ?_
        refine r_lconst (i := 498) (u := 4294967295) (z := 4294967295) rfl rfl ?_
        refine r_land (i := 499) rfl ?_
        have h622 := @yland_c (sc (i + 7).toNat) 4294967295 (by decide) (by decide)
        refine r_lor (i := 500) rfl ?_
        have h623 := ylor_rl ((sc (i + 6).toNat) * 4294967296) (yland (sc (i + 7).toNat) 4294967295)
        refine r_load (i := 501) (u := 0) (w := 2) rfl rfl rfl ?_
        refine r_load (i := 502) (u := 4) (w := 0) rfl rfl rfl ?_
        refine r_const (i := 503) (u := 8) (z := 8) rfl rfl ?_
        refine r_iadd (i := 504) rfl ?_
        refine r_scA (i := 505) hG rfl (by omega) (by omega) fun h624 => ?_
        have h624 : Rg (sc (i + 8).toNat) := h624
        refine r_i2l (i := 506) rfl ⟨by omega, by omega⟩ ?_
        refine r_const (i := 507) (u := 32) (z := 32) rfl rfl ?_
        refine r_lshl (i := 508) rfl ?_
        refine r_load (i := 509) (u := 0) (w := 2) rfl rfl rfl ?_
        refine r_load (i := 510) (u := 4) (w := 0) rfl rfl rfl ?_
        refine r_const (i := 511) (u := 9) (z := 9) rfl rfl ?_
        refine r_iadd (i := 512) rfl ?_
        refine r_scA (i := 513) hG rfl (by omega) (by omega) fun h625 => ?_
        have h625 : Rg (sc (i + 9).toNat) := h625
        refine r_i2l (i := 514) rfl ⟨by omega, by omega⟩ ?_
        refine r_lconst (i := 515) (u := 4294967295) (z := 4294967295) rfl rfl ?_
        refine r_land (i := 516) rfl ?_
        have h626 := @yland_c (sc (i + 9).toNat) 4294967295 (by decide) (by decide)
        refine r_lor (i := 517) rfl ?_
        have h627 := ylor_rl ((sc (i + 8).toNat) * 4294967296) (yland (sc (i + 9).toNat) 4294967295)
        have h628 := hI598.f tf43_20
        have h629 : S589.f 43 20 = S.f 43 20 := hF599.f rfl
        have h630 : S589.f 43 37 = S.f 43 37 := hF599.f rfl
        refine r_call (i := 518) (u := 11) (v := 188) (w := 0) (b := 0) (na := 4102) (C2 := xC188) (as := [(2, 43), vi (sc (i + 1).toNat), vl (ylor ((sc (i + 2).toNat) * 4294967296) (yland (sc (i + 3).toNat) 4294967295)), vl (ylor ((sc (i + 4).toNat) * 4294967296) (yland (sc (i + 5).toNat) 4294967295)), vl (ylor ((sc (i + 6).toNat) * 4294967296) (yland (sc (i + 7).toNat) 4294967295)), vl (ylor ((sc (i + 8).toNat) * 4294967296) (yland (sc (i + 9).toNat) 4294967295))]) (s := []) rfl rfl rfl rfl rfl rfl rfl (sp188 (k := sc (i + 1).toNat) (a := ylor ((sc (i + 2).toNat) * 4294967296) (yland (sc (i + 3).toNat) 4294967295)) (b := ylor ((sc (i + 4).toNat) * 4294967296) (yland (sc (i + 5).toNat) 4294967295)) (c := ylor ((sc (i + 6).toNat) * 4294967296) (yland (sc (i + 7).toNat) 4294967295)) (e := ylor ((sc (i + 8).toNat) * 4294967296) (yland (sc (i + 9).toNat) 4294967295)) hI598 ⟨by omega, by omega⟩ ⟨by omega, by omega⟩ ⟨by omega, by omega⟩ ⟨by omega, by omega⟩ ⟨by omega, by omega⟩   (by omega)) (fun r631 S632 hq633 => ?_)
        obtain ⟨z634, rfl, h635, h636, ocm637, ocd638, hI639, hF640, hR641⟩ := hq633
        have e642 := RTx.fr e600 hF640 rfl rfl
        have e643 := RMex.fr e601 hF640 rfl rfl
        have e644 := RSx.fr e602 hF640 rfl rfl
        have e645 := RThx.fr e603 hF640 rfl rfl
        have e646 := RIx.fr e604 hF640 rfl rfl
        have e647 := RKx.fr e605 hF640 rfl rfl
        have e648 := RSlx.fr e606 hF640 rfl rfl
        have e649 := RPx.fr e607 hF640 rfl rfl
        have e650 := RSkx.fr e608 hF640 rfl rfl
        have e651 := RAx.fr e609 hF640 rfl rfl
        have e652 := ROx.fr e610 hF640 rfl rfl
        have e653 := N23x.fr e596 hF640 hR641 rfl rfl rfl
        have e654 := CRx.fr e597 hF640 rfl rfl
        have e655 := wRM_rm rm594 hR641
        refine Or.inr (Or.inl ⟨rfl, ?_⟩)
        have rb9 := (CA_eq e_RT e_RS e_RMe e_RTh e_RK e_RSl e_RSk e_RA e_RB e_RO hI.m3 hI hca595 hF599 rfl rfl ocm637 ocd638 hF640 rfl).2.2
        have rk9 := (CA_eq e_RT e_RS e_RMe e_RTh e_RK e_RSl e_RSk e_RA e_RB e_RO hI.m3 hI hca595 hF599 rfl rfl ocm637 ocd638 hF640 rfl).1
        have ro9 := (CA_eq e_RT e_RS e_RMe e_RTh e_RK e_RSl e_RSk e_RA e_RB e_RO hI.m3 hI hca595 hF599 rfl rfl ocm637 ocd638 hF640 rfl).2.1
        refine r_store (i := 519) (u := 6) (w := 0) (L1 := [some ((6, 0)), some ((2, 0)), some ((2, 43)), some ((2, 81)), some (vi i), some (vi z591), some (vi z634)]) rfl rfl rfl rfl ?_
        refine r_load (i := 520) (u := 2) (w := 2) rfl rfl rfl ?_
        have h656 := hI639.f tf43_0
        refine r_call (i := 521) (u := 11) (v := 256) (w := 0) (b := 0) (na := 257) (C2 := xC256) (as := [(2, 43)]) (s := []) rfl rfl rfl rfl rfl rfl rfl (sp256  hI639    (by omega)) (fun r657 S658 hq659 => ?_)
        obtain ⟨z660, rfl, h661, h662, h663, rfl⟩ := hq659
        refine Or.inr (Or.inl ⟨rfl, ?_⟩)
        refine r_load (i := 522) (u := 5) (w := 0) rfl rfl rfl ?_
        refine c_eq (i := 523) (v := 526) rfl ⟨by omega, by omega⟩ ⟨by omega, by omega⟩ (fun h664 => ?_) (fun h665 => ?_)
        · refine r_load (i := 526) (u := 5) (w := 0) rfl rfl rfl ?_
          refine z_ne (i := 527) (v := 537) rfl ⟨by omega, by omega⟩ (fun h666 => ?_) (fun h667 => ?_)
          · refine r_goto (i := 537) (v := 654) rfl ?_
            refine r_iinc (i := 654) (u := 10) (v := 4) (s := 10) (L1 := [some ((6, 0)), some ((2, 0)), some ((2, 43)), some ((2, 81)), some (vi (i + 10)), some (vi z591), some (vi z634)]) rfl rfl rfl rfl rfl ?_
            refine r_goto (i := 655) (v := 13) rfl ?_
            refine yT_drop (L1 := [some ((6, 0)), some ((2, 0)), some ((2, 43)), some ((2, 81)), some (vi (i + 10)), none, none]) rfl ?_
            exact ih S632 hI639 e653 e654 e642 e643 e644 e645 e646 e647 e648 e649 e650 e651 rb9 e652 (i + 10) ⟨by omega, by omega⟩ (by exact wRM_le e655 (by omega)) (by omega)
          · refine r_load (i := 528) (u := 3) (w := 2) rfl rfl rfl ?_
            refine r_const (i := 529) (u := 0) (z := 0) rfl rfl ?_
            refine r_laload (i := 530) rfl ly81 (by decide) (by omega) (by omega) fun h668 => ?_
            have h669 : S632.a 81 (0 : Int).toNat = S589.a 81 (0 : Int).toNat := hF640.a rfl _
            refine r_load (i := 531) (u := 6) (w := 0) rfl rfl rfl ?_
            refine r_i2l (i := 532) rfl ⟨by omega, by omega⟩ ?_
            refine r_lcmp (i := 533) rfl ⟨by omega, by omega⟩ ⟨by omega, by omega⟩ (fun h670 => ?_) (fun h671 => ?_) (fun h672 => ?_)
            · refine z_eq (i := 534) (v := 537) rfl ⟨by omega, by omega⟩ (fun h673 => absurd h673 (by omega)) (fun h674 => ?_)
              refine r_const (i := 535) (u := 0) (z := 0) rfl rfl ?_
              exact r_retZ (i := 536) rfl (by omega) (by omega) ⟨0, rfl, by omega, by omega⟩
            · refine z_eq (i := 534) (v := 537) rfl ⟨by omega, by omega⟩ (fun h675 => ?_) (fun h676 => absurd h676 (by omega))
              refine r_goto (i := 537) (v := 654) rfl ?_
              refine r_iinc (i := 654) (u := 10) (v := 4) (s := 10) (L1 := [some ((6, 0)), some ((2, 0)), some ((2, 43)), some ((2, 81)), some (vi (i + 10)), some (vi z591), some (vi z634)]) rfl rfl rfl rfl rfl ?_
              refine r_goto (i := 655) (v := 13) rfl ?_
              refine yT_drop (L1 := [some ((6, 0)), some ((2, 0)), some ((2, 43)), some ((2, 81)), some (vi (i + 10)), none, none]) rfl ?_
              exact ih S632 hI639 e653 e654 e642 e643 e644 e645 e646 e647 e648 e649 e650 e651 rb9 e652 (i + 10) ⟨by omega, by omega⟩ (by exact wRM_le e655 (by omega)) (by omega)
            · refine z_eq (i := 534) (v := 537) rfl ⟨by omega, by omega⟩ (fun h677 => absurd h677 (by omega)) (fun h678 => ?_)
              refine r_const (i := 535) (u := 0) (z := 0) rfl rfl ?_
              exact r_retZ (i := 536) rfl (by omega) (by omega) ⟨0, rfl, by omega, by omega⟩
        · refine r_const (i := 524) (u := 0) (z := 0) rfl rfl ?_
          exact r_retZ (i := 525) rfl (by omega) (by omega) ⟨0, rfl, by omega, by omega⟩
      · refine r_swK (i := 24) (u := 1) (v := 654) (k := 11) (t := 538) rfl rfl h16 (by decide) (by decide) rfl ?_
        refine r_load (i := 538) (u := 1) (w := 2) rfl rfl rfl ?_
        refine r_call (i := 539) (u := 0) (v := 16) (w := 0) (b := 0) (na := 257) (C2 := xC16) (as := [(2, 0)]) (s := []) rfl rfl rfl rfl rfl rfl rfl (sp16  hI    (by omega)) (fun r679 S680 hq681 => ?_)
        obtain ⟨z682, rfl, h683, h684, rfl⟩ := hq681
        refine Or.inr (Or.inl ⟨rfl, ?_⟩)
        refine r_pop2 (i := 540) rfl rfl ?_
        refine r_load (i := 541) (u := 2) (w := 2) rfl rfl rfl ?_
        refine r_call (i := 542) (u := 11) (v := 239) (w := 0) (b := 0) (na := 257) (C2 := xC239) (as := [(2, 43)]) (s := []) rfl rfl rfl rfl rfl rfl rfl (sp239  hI    (by omega)) (fun r685 S686 hq687 => ?_)
        obtain ⟨z688, rfl, h689, h690, hI691, hF692, hR693⟩ := hq687
        have e694 := N23x.fr e_N23 hF692 hR693 rfl rfl rfl
        have e695 := CRx.fr e_CR hF692 rfl rfl
        have e696 := RTx.fr e_RT hF692 rfl rfl
        have e697 := RMex.fr e_RMe hF692 rfl rfl
        have e698 := RSx.fr e_RS hF692 rfl rfl
        have e699 := RThx.fr e_RTh hF692 rfl rfl
        have e700 := RIx.fr e_RI hF692 rfl rfl
        have e701 := RKx.fr e_RK hF692 rfl rfl
        have e702 := RSlx.fr e_RSl hF692 rfl rfl
        have e703 := RPx.fr e_RP hF692 rfl rfl
        have e704 := RSkx.fr e_RSk hF692 rfl rfl
        have e705 := RAx.fr e_RA hF692 rfl rfl
        have e706 := RBx.fr e_RB hF692 rfl rfl
        have e707 := ROx.fr e_RO hF692 rfl rfl
        have e708 := wRM_rm q_0 hR693
        refine Or.inr (Or.inl ⟨rfl, ?_⟩)
        have eq9 : _ = _ := e_RB
        refine r_pop2 (i := 543) rfl rfl ?_
        refine r_goto (i := 544) (v := 654) rfl ?_
        refine r_iinc (i := 654) (u := 10) (v := 4) (s := 10) (L1 := [some ((6, 0)), some ((2, 0)), some ((2, 43)), some ((2, 81)), some (vi (i + 10)), none, none]) rfl rfl rfl rfl rfl ?_
        refine r_goto (i := 655) (v := 13) rfl ?_
        exact ih S686 hI691 e694 e695 e696 e697 e698 e699 e700 e701 e702 e703 e704 e705 e706 e707 (i + 10) ⟨by omega, by omega⟩ (by exact wRM_le e708 (by omega)) (by omega)
      · refine r_swK (i := 24) (u := 1) (v := 654) (k := 12) (t := 545) rfl rfl h17 (by decide) (by decide) rfl ?_
        refine r_load (i := 545) (u := 1) (w := 2) rfl rfl rfl ?_
        refine r_call (i := 546) (u := 0) (v := 3) (w := 0) (b := 0) (na := 257) (C2 := xC3) (as := [(2, 0)]) (s := []) rfl rfl rfl rfl rfl rfl rfl (sp3  hI    (by omega)) (fun r709 S710 hq711 => ?_)
        obtain ⟨z712, rfl, h713, h714, rfl⟩ := hq711
        refine Or.inr (Or.inl ⟨rfl, ?_⟩)
        refine r_pop (i := 547) rfl rfl ?_
        refine r_load (i := 548) (u := 2) (w := 2) rfl rfl rfl ?_
        refine r_call (i := 549) (u := 11) (v := 184) (w := 0) (b := 0) (na := 257) (C2 := xC184) (as := [(2, 43)]) (s := []) rfl rfl rfl rfl rfl rfl rfl (sp184  hI    (by omega)) (fun r715 S716 hq717 => ?_)
        obtain ⟨z718, rfl, h719, h720, hI721, hF722, hR723⟩ := hq717
        have e724 := N23x.fr e_N23 hF722 hR723 rfl rfl rfl
        have e725 := CRx.fr e_CR hF722 rfl rfl
        have e726 := RTx.fr e_RT hF722 rfl rfl
        have e727 := RMex.fr e_RMe hF722 rfl rfl
        have e728 := RSx.fr e_RS hF722 rfl rfl
        have e729 := RThx.fr e_RTh hF722 rfl rfl
        have e730 := RIx.fr e_RI hF722 rfl rfl
        have e731 := RKx.fr e_RK hF722 rfl rfl
        have e732 := RSlx.fr e_RSl hF722 rfl rfl
        have e733 := RPx.fr e_RP hF722 rfl rfl
        have e734 := RSkx.fr e_RSk hF722 rfl rfl
        have e735 := RAx.fr e_RA hF722 rfl rfl
        have e736 := RBx.fr e_RB hF722 rfl rfl
        have e737 := ROx.fr e_RO hF722 rfl rfl
        have e738 := wRM_rm q_0 hR723
        refine Or.inr (Or.inl ⟨rfl, ?_⟩)
        refine r_pop (i := 550) rfl rfl ?_
        refine r_goto (i := 551) (v := 654) rfl ?_
        refine r_iinc (i := 654) (u := 10) (v := 4) (s := 10) (L1 := [some ((6, 0)), some ((2, 0)), some ((2, 43)), some ((2, 81)), some (vi (i + 10)), none, none]) rfl rfl rfl rfl rfl ?_
        refine r_goto (i := 655) (v := 13) rfl ?_
        exact ih S716 hI721 e724 e725 e726 e727 e728 e729 e730 e731 e732 e733 e734 e735 e736 e737 (i + 10) ⟨by omega, by omega⟩ (by exact wRM_le e738 (by omega)) (by omega)
      · refine r_swK (i := 24) (u := 1) (v := 654) (k := 13) (t := 552) rfl rfl h18 (by decide) (by decide) rfl ?_
        refine r_load (i := 552) (u := 1) (w := 2) rfl rfl rfl ?_
        refine r_load (i := 553) (u := 0) (w := 2) rfl rfl rfl ?_
        refine r_load (i := 554) (u := 4) (w := 0) rfl rfl rfl ?_
        refine r_const (i := 555) (u := 1) (z := 1) rfl rfl ?_
        refine r_iadd (i := 556) rfl ?_
        refine r_scA (i := 557) hG rfl (by omega) (by omega) fun h739 => ?_
        have h739 : Rg (sc (i + 1).toNat) := h739
        refine r_load (i := 558) (u := 0) (w := 2) rfl rfl rfl ?_
        refine r_load (i := 559) (u := 4) (w := 0) rfl rfl rfl ?_
        refine r_const (i := 560) (u := 2) (z := 2) rfl rfl ?_
        refine r_iadd (i := 561) rfl ?_
        refine r_scA (i := 562) hG rfl (by omega) (by omega) fun h740 => ?_
        have h740 : Rg (sc (i + 2).toNat) := h740
        refine r_call (i := 563) (u := 0) (v := 9) (w := 0) (b := 0) (na := 771) (C2 := xC9) (as := [(2, 0), vi (sc (i + 1).toNat), vi (sc (i + 2).toNat)]) (s := []) rfl rfl rfl rfl rfl rfl rfl (sp9 (i0 := sc (i + 1).toNat) (w0 := sc (i + 2).toNat) hI ⟨by omega, by omega⟩ ⟨by omega, by omega⟩   (by omega)) (fun r741 S742 hq743 => ?_)
        obtain ⟨z744, rfl, h745, rfl⟩ := hq743
        refine Or.inr (Or.inl ⟨rfl, ?_⟩)
        refine r_pop2 (i := 564) rfl rfl ?_
        refine r_load (i := 565) (u := 2) (w := 2) rfl rfl rfl ?_
        refine r_load (i := 566) (u := 0) (w := 2) rfl rfl rfl ?_
        refine r_load (i := 567) (u := 4) (w := 0) rfl rfl rfl ?_
        refine r_const (i := 568) (u := 1) (z := 1) rfl rfl ?_
        refine r_iadd (i := 569) rfl ?_
        refine r_scA (i := 570) hG rfl (by omega) (by omega) fun h746 => ?_
        have h746 : Rg (sc (i + 1).toNat) := h746
        refine r_load (i := 571) (u := 0) (w := 2) rfl rfl rfl ?_
        refine r_load (i := 572) (u := 4) (w := 0) rfl rfl rfl ?_
        refine r_const (i := 573) (u := 2) (z := 2) rfl rfl ?_
        refine r_iadd (i := 574) rfl ?_
        refine r_scA (i := 575) hG rfl (by omega) (by omega) fun h747 => ?_
        have h747 : Rg (sc (i + 2).toNat) := h747
        refine r_call (i := 576) (u := 11) (v := 205) (w := 0) (b := 0) (na := 771) (C2 := xC205) (as := [(2, 43), vi (sc (i + 1).toNat), vi (sc (i + 2).toNat)]) (s := []) rfl rfl rfl rfl rfl rfl rfl (sp205 (i0 := sc (i + 1).toNat) (w0 := sc (i + 2).toNat) hI ⟨by omega, by omega⟩ ⟨by omega, by omega⟩   (by omega)) (fun r748 S749 hq750 => ?_)
        obtain ⟨z751, rfl, h752, hI753, hF754, hR755⟩ := hq750
        have e756 := N23x.fr e_N23 hF754 hR755 rfl rfl rfl
        have e757 := CRx.fr e_CR hF754 rfl rfl
        have e758 := RTx.fr e_RT hF754 rfl rfl
        have e759 := RMex.fr e_RMe hF754 rfl rfl
        have e760 := RSx.fr e_RS hF754 rfl rfl
        have e761 := RThx.fr e_RTh hF754 rfl rfl
        have e762 := RIx.fr e_RI hF754 rfl rfl
        have e763 := RKx.fr e_RK hF754 rfl rfl
        have e764 := RSlx.fr e_RSl hF754 rfl rfl
        have e765 := RPx.fr e_RP hF754 rfl rfl
        have e766 := RSkx.fr e_RSk hF754 rfl rfl
        have e767 := RAx.fr e_RA hF754 rfl rfl
        have e768 := RBx.fr e_RB hF754 rfl rfl
        have e769 := ROx.fr e_RO hF754 rfl rfl
        have e770 := wRM_rm q_0 hR755
        refine Or.inr (Or.inl ⟨rfl, ?_⟩)
        refine r_pop2 (i := 577) rfl rfl ?_
        refine r_goto (i := 578) (v := 654) rfl ?_
        refine r_iinc (i := 654) (u := 10) (v := 4) (s := 10) (L1 := [some ((6, 0)), some ((2, 0)), some ((2, 43)), some ((2, 81)), some (vi (i + 10)), none, none]) rfl rfl rfl rfl rfl ?_
        refine r_goto (i := 655) (v := 13) rfl ?_
        exact ih S749 hI753 e756 e757 e758 e759 e760 e761 e762 e763 e764 e765 e766 e767 e768 e769 (i + 10) ⟨by omega, by omega⟩ (by exact wRM_le e770 (by omega)) (by omega)
      · refine r_swK (i := 24) (u := 1) (v := 654) (k := 14) (t := 579) rfl rfl h19 (by decide) (by decide) rfl ?_
        refine r_load (i := 579) (u := 1) (w := 2) rfl rfl rfl ?_
        refine r_call (i := 580) (u := 0) (v := 17) (w := 0) (b := 0) (na := 257) (C2 := xC17) (as := [(2, 0)]) (s := []) rfl rfl rfl rfl rfl rfl rfl (sp17  hI    (by omega)) (fun r771 S772 hq773 => ?_)
        obtain ⟨z774, rfl, h775, h776, rfl⟩ := hq773
        refine Or.inr (Or.inl ⟨rfl, ?_⟩)
        refine r_pop (i := 581) rfl rfl ?_
        refine r_load (i := 582) (u := 2) (w := 2) rfl rfl rfl ?_
        refine r_call (i := 583) (u := 11) (v := 242) (w := 0) (b := 0) (na := 257) (C2 := xC242) (as := [(2, 43)]) (s := []) rfl rfl rfl rfl rfl rfl rfl (sp242  hI    (by omega)) (fun r777 S778 hq779 => ?_)
        obtain ⟨z780, rfl, h781, h782, hI783, hF784, hR785⟩ := hq779
        have e786 := N23x.fr e_N23 hF784 hR785 rfl rfl rfl
        have e787 := CRx.fr e_CR hF784 rfl rfl
        have e788 := RTx.fr e_RT hF784 rfl rfl
        have e789 := RMex.fr e_RMe hF784 rfl rfl
        have e790 := RSx.fr e_RS hF784 rfl rfl
        have e791 := RThx.fr e_RTh hF784 rfl rfl
        have e792 := RIx.fr e_RI hF784 rfl rfl
        have e793 := RKx.fr e_RK hF784 rfl rfl
        have e794 := RSlx.fr e_RSl hF784 rfl rfl
        have e795 := RPx.fr e_RP hF784 rfl rfl
        have e796 := RSkx.fr e_RSk hF784 rfl rfl
        have e797 := RAx.fr e_RA hF784 rfl rfl
        have e798 := RBx.fr e_RB hF784 rfl rfl
        have e799 := ROx.fr e_RO hF784 rfl rfl
        have e800 := wRM_rm q_0 hR785
        refine Or.inr (Or.inl ⟨rfl, ?_⟩)
        refine r_pop (i := 584) rfl rfl ?_
        refine r_goto (i := 585) (v := 654) rfl ?_
        refine r_iinc (i := 654) (u := 10) (v := 4) (s := 10) (L1 := [some ((6, 0)), some ((2, 0)), some ((2, 43)), some ((2, 81)), some (vi (i + 10)), none, none]) rfl rfl rfl rfl rfl ?_
        refine r_goto (i := 655) (v := 13) rfl ?_
        exact ih S778 hI783 e786 e787 e788 e789 e790 e791 e792 e793 e794 e795 e796 e797 e798 e799 (i + 10) ⟨by omega, by omega⟩ (by exact wRM_le e800 (by omega)) (by omega)
      · refine r_swK (i := 24) (u := 1) (v := 654) (k := 15) (t := 586) rfl rfl h20 (by decide) (by decide) rfl ?_
        refine r_load (i := 586) (u := 1) (w := 2) rfl rfl rfl ?_
        refine r_load (i := 587) (u := 0) (w := 2) rfl rfl rfl ?_
        refine r_load (i := 588) (u := 4) (w := 0) rfl rfl rfl ?_
        refine r_const (i := 589) (u := 1) (z := 1) rfl rfl ?_
        refine r_iadd (i := 590) rfl ?_
        refine r_scA (i := 591) hG rfl (by omega) (by omega) fun h801 => ?_
        have h801 : Rg (sc (i + 1).toNat) := h801
        refine r_call (i := 592) (u := 0) (v := 4) (w := 0) (b := 0) (na := 514) (C2 := xC4) (as := [(2, 0), vi (sc (i + 1).toNat)]) (s := []) rfl rfl rfl rfl rfl rfl rfl (sp4 (k := sc (i + 1).toNat) hI ⟨by omega, by omega⟩   (by omega)) (fun r802 S803 hq804 => ?_)
        obtain ⟨z805, rfl, h806, h807, rfl⟩ := hq804
        refine Or.inr (Or.inl ⟨rfl, ?_⟩)
        refine r_pop (i := 593) rfl rfl ?_
        refine r_load (i := 594) (u := 2) (w := 2) rfl rfl rfl ?_
        refine r_load (i := 595) (u := 0) (w := 2) rfl rfl rfl ?_
        refine r_load (i := 596) (u := 4) (w := 0) rfl rfl rfl ?_
        refine r_const (i := 597) (u := 1) (z := 1) rfl rfl ?_
        refine r_iadd (i := 598) rfl ?_
        refine r_scA (i := 599) hG rfl (by omega) (by omega) fun h808 => ?_
        have h808 : Rg (sc (i + 1).toNat) := h808
        refine r_call (i := 600) (u := 11) (v := 187) (w := 0) (b := 0) (na := 514) (C2 := xC187) (as := [(2, 43), vi (sc (i + 1).toNat)]) (s := []) rfl rfl rfl rfl rfl rfl rfl (sp187 (k := sc (i + 1).toNat) hI ⟨by omega, by omega⟩   (by omega)) (fun r809 S810 hq811 => ?_)
        obtain ⟨z812, rfl, h813, h814, hI815, hF816, hR817⟩ := hq811
        have e818 := N23x.fr e_N23 hF816 hR817 rfl rfl rfl
        have e819 := CRx.fr e_CR hF816 rfl rfl
        have e820 := RTx.fr e_RT hF816 rfl rfl
        have e821 := RMex.fr e_RMe hF816 rfl rfl
        have e822 := RSx.fr e_RS hF816 rfl rfl
        have e823 := RThx.fr e_RTh hF816 rfl rfl
        have e824 := RIx.fr e_RI hF816 rfl rfl
        have e825 := RKx.fr e_RK hF816 rfl rfl
        have e826 := RSlx.fr e_RSl hF816 rfl rfl
        have e827 := RPx.fr e_RP hF816 rfl rfl
        have e828 := RSkx.fr e_RSk hF816 rfl rfl
        have e829 := RAx.fr e_RA hF816 rfl rfl
        have e830 := RBx.fr e_RB hF816 rfl rfl
        have e831 := ROx.fr e_RO hF816 rfl rfl
        have e832 := wRM_rm q_0 hR817
        refine Or.inr (Or.inl ⟨rfl, ?_⟩)
        refine r_pop (i := 601) rfl rfl ?_
        refine r_goto (i := 602) (v := 654) rfl ?_
        refine r_iinc (i := 654) (u := 10) (v := 4) (s := 10) (L1 := [some ((6, 0)), some ((2, 0)), some ((2, 43)), some ((2, 81)), some (vi (i + 10)), none, none]) rfl rfl rfl rfl rfl ?_
        refine r_goto (i := 655) (v := 13) rfl ?_
        exact ih S810 hI815 e818 e819 e820 e821 e822 e823 e824 e825 e826 e827 e828 e829 e830 e831 (i + 10) ⟨by omega, by omega⟩ (by exact wRM_le e832 (by omega)) (by omega)
      · refine r_swK (i := 24) (u := 1) (v := 654) (k := 16) (t := 603) rfl rfl h21 (by decide) (by decide) rfl ?_
        refine r_load (i := 603) (u := 1) (w := 2) rfl rfl rfl ?_
        refine r_load (i := 604) (u := 0) (w := 2) rfl rfl rfl ?_
        refine r_load (i := 605) (u := 4) (w := 0) rfl rfl rfl ?_
        refine r_const (i := 606) (u := 1) (z := 1) rfl rfl ?_
        refine r_iadd (i := 607) rfl ?_
        refine r_scA (i := 608) hG rfl (by omega) (by omega) fun h833 => ?_
        have h833 : Rg (sc (i + 1).toNat) := h833
        refine r_load (i := 609) (u := 0) (w := 2) rfl rfl rfl ?_
        refine r_load (i := 610) (u := 4) (w := 0) rfl rfl rfl ?_
        refine r_const (i := 611) (u := 2) (z := 2) rfl rfl ?_
        refine r_iadd (i := 612) rfl ?_
        refine r_scA (i := 613) hG rfl (by omega) (by omega) fun h834 => ?_
        have h834 : Rg (sc (i + 2).toNat) := h834
        refine r_call (i := 614) (u := 0) (v := 6) (w := 0) (b := 0) (na := 771) (C2 := xC6) (as := [(2, 0), vi (sc (i + 1).toNat), vi (sc (i + 2).toNat)]) (s := []) rfl rfl rfl rfl rfl rfl rfl (sp6 (k := sc (i + 1).toNat) (b := sc (i + 2).toNat) hI ⟨by omega, by omega⟩ ⟨by omega, by omega⟩   (by omega)) (fun r835 S836 hq837 => ?_)
        obtain ⟨z838, rfl, h839, h840, hI841, hF842, hR843⟩ := hq837
        have e844 := N23x.fr e_N23 hF842 hR843 rfl rfl rfl
        have e845 := CRx.fr e_CR hF842 rfl rfl
        have e846 := RTx.fr e_RT hF842 rfl rfl
        have e847 := RMex.fr e_RMe hF842 rfl rfl
        have e848 := RSx.fr e_RS hF842 rfl rfl
        have e849 := RThx.fr e_RTh hF842 rfl rfl
        have e850 := RIx.fr e_RI hF842 rfl rfl
        have e851 := RKx.fr e_RK hF842 rfl rfl
        have e852 := RSlx.fr e_RSl hF842 rfl rfl
        have e853 := RPx.fr e_RP hF842 rfl rfl
        have e854 := RSkx.fr e_RSk hF842 rfl rfl
        have e855 := RAx.fr e_RA hF842 rfl rfl
        have e856 := RBx.fr e_RB hF842 rfl rfl
        have e857 := ROx.fr e_RO hF842 rfl rfl
        have e858 := wRM_rm q_0 hR843
        refine Or.inr (Or.inl ⟨rfl, ?_⟩)
        refine r_pop (i := 615) rfl rfl ?_
        refine r_load (i := 616) (u := 2) (w := 2) rfl rfl rfl ?_
        refine r_load (i := 617) (u := 0) (w := 2) rfl rfl rfl ?_
        refine r_load (i := 618) (u := 4) (w := 0) rfl rfl rfl ?_
        refine r_const (i := 619) (u := 1) (z := 1) rfl rfl ?_
        refine r_iadd (i := 620) rfl ?_
        refine r_scA (i := 621) hG rfl (by omega) (by omega) fun h859 => ?_
        have h859 : Rg (sc (i + 1).toNat) := h859
        refine r_load (i := 622) (u := 0) (w := 2) rfl rfl rfl ?_
        refine r_load (i := 623) (u := 4) (w := 0) rfl rfl rfl ?_
        refine r_const (i := 624) (u := 2) (z := 2) rfl rfl ?_
        refine r_iadd (i := 625) rfl ?_
        refine r_scA (i := 626) hG rfl (by omega) (by omega) fun h860 => ?_
        have h860 : Rg (sc (i + 2).toNat) := h860
        refine r_call (i := 627) (u := 11) (v := 191) (w := 0) (b := 0) (na := 771) (C2 := xC191) (as := [(2, 43), vi (sc (i + 1).toNat), vi (sc (i + 2).toNat)]) (s := []) rfl rfl rfl rfl rfl rfl rfl (sp191 (k := sc (i + 1).toNat) (b := sc (i + 2).toNat) hI841 ⟨by omega, by omega⟩ ⟨by omega, by omega⟩   (by omega)) (fun r861 S862 hq863 => ?_)
        obtain ⟨z864, rfl, h865, h866, hI867, hF868, hR869⟩ := hq863
        have e870 := N23x.fr e844 hF868 hR869 rfl rfl rfl
        have e871 := CRx.fr e845 hF868 rfl rfl
        have e872 := RTx.fr e846 hF868 rfl rfl
        have e873 := RMex.fr e847 hF868 rfl rfl
        have e874 := RSx.fr e848 hF868 rfl rfl
        have e875 := RThx.fr e849 hF868 rfl rfl
        have e876 := RIx.fr e850 hF868 rfl rfl
        have e877 := RKx.fr e851 hF868 rfl rfl
        have e878 := RSlx.fr e852 hF868 rfl rfl
        have e879 := RPx.fr e853 hF868 rfl rfl
        have e880 := RSkx.fr e854 hF868 rfl rfl
        have e881 := RAx.fr e855 hF868 rfl rfl
        have e882 := RBx.fr e856 hF868 rfl rfl
        have e883 := ROx.fr e857 hF868 rfl rfl
        have e884 := wRM_rm e858 hR869
        refine Or.inr (Or.inl ⟨rfl, ?_⟩)
        refine r_pop (i := 628) rfl rfl ?_
        refine r_goto (i := 629) (v := 654) rfl ?_
        refine r_iinc (i := 654) (u := 10) (v := 4) (s := 10) (L1 := [some ((6, 0)), some ((2, 0)), some ((2, 43)), some ((2, 81)), some (vi (i + 10)), none, none]) rfl rfl rfl rfl rfl ?_
        refine r_goto (i := 655) (v := 13) rfl ?_
        exact ih S862 hI867 e870 e871 e872 e873 e874 e875 e876 e877 e878 e879 e880 e881 e882 e883 (i + 10) ⟨by omega, by omega⟩ (by exact wRM_le e884 (by omega)) (by omega)
      · refine r_swK (i := 24) (u := 1) (v := 654) (k := 17) (t := 630) rfl rfl h22 (by decide) (by decide) rfl ?_
        refine r_load (i := 630) (u := 1) (w := 2) rfl rfl rfl ?_
        refine r_load (i := 631) (u := 0) (w := 2) rfl rfl rfl ?_
        refine r_load (i := 632) (u := 4) (w := 0) rfl rfl rfl ?_
        refine r_const (i := 633) (u := 1) (z := 1) rfl rfl ?_
        refine r_iadd (i := 634) rfl ?_
        refine r_scA (i := 635) hG rfl (by omega) (by omega) fun h885 => ?_
        have h885 : Rg (sc (i + 1).toNat) := h885
        refine r_call (i := 636) (u := 0) (v := 7) (w := 0) (b := 0) (na := 514) (C2 := xC7) (as := [(2, 0), vi (sc (i + 1).toNat)]) (s := []) rfl rfl rfl rfl rfl rfl rfl (sp7 (k := sc (i + 1).toNat) hI ⟨by omega, by omega⟩   (by omega)) (fun r886 S887 hq888 => ?_)
        obtain ⟨z889, rfl, h890, h891, hI892, hF893, hR894⟩ := hq888
        have e895 := N23x.fr e_N23 hF893 hR894 rfl rfl rfl
        have e896 := CRx.fr e_CR hF893 rfl rfl
        have e897 := RTx.fr e_RT hF893 rfl rfl
        have e898 := RMex.fr e_RMe hF893 rfl rfl
        have e899 := RSx.fr e_RS hF893 rfl rfl
        have e900 := RThx.fr e_RTh hF893 rfl rfl
        have e901 := RIx.fr e_RI hF893 rfl rfl
        have e902 := RKx.fr e_RK hF893 rfl rfl
        have e903 := RSlx.fr e_RSl hF893 rfl rfl
        have e904 := RPx.fr e_RP hF893 rfl rfl
        have e905 := RSkx.fr e_RSk hF893 rfl rfl
        have e906 := RAx.fr e_RA hF893 rfl rfl
        have e907 := RBx.fr e_RB hF893 rfl rfl
        have e908 := ROx.fr e_RO hF893 rfl rfl
        have e909 := wRM_rm q_0 hR894
        refine Or.inr (Or.inl ⟨rfl, ?_⟩)
        refine r_pop (i := 637) rfl rfl ?_
        refine r_load (i := 638) (u := 2) (w := 2) rfl rfl rfl ?_
        refine r_load (i := 639) (u := 0) (w := 2) rfl rfl rfl ?_
        refine r_load (i := 640) (u := 4) (w := 0) rfl rfl rfl ?_
        refine r_const (i := 641) (u := 1) (z := 1) rfl rfl ?_
        refine r_iadd (i := 642) rfl ?_
        refine r_scA (i := 643) hG rfl (by omega) (by omega) fun h910 => ?_
        have h910 : Rg (sc (i + 1).toNat) := h910
        refine r_call (i := 644) (u := 11) (v := 197) (w := 0) (b := 0) (na := 514) (C2 := xC197) (as := [(2, 43), vi (sc (i + 1).toNat)]) (s := []) rfl rfl rfl rfl rfl rfl rfl (sp197 (k := sc (i + 1).toNat) hI892 ⟨by omega, by omega⟩   (by omega)) (fun r911 S912 hq913 => ?_)
        obtain ⟨z914, rfl, h915, h916, hI917, hF918, hR919⟩ := hq913
        have e920 := N23x.fr e895 hF918 hR919 rfl rfl rfl
        have e921 := CRx.fr e896 hF918 rfl rfl
        have e922 := RTx.fr e897 hF918 rfl rfl
        have e923 := RMex.fr e898 hF918 rfl rfl
        have e924 := RSx.fr e899 hF918 rfl rfl
        have e925 := RThx.fr e900 hF918 rfl rfl
        have e926 := RIx.fr e901 hF918 rfl rfl
        have e927 := RKx.fr e902 hF918 rfl rfl
        have e928 := RSlx.fr e903 hF918 rfl rfl
        have e929 := RPx.fr e904 hF918 rfl rfl
        have e930 := RSkx.fr e905 hF918 rfl rfl
        have e931 := RAx.fr e906 hF918 rfl rfl
        have e932 := RBx.fr e907 hF918 rfl rfl
        have e933 := ROx.fr e908 hF918 rfl rfl
        have e934 := wRM_rm e909 hR919
        refine Or.inr (Or.inl ⟨rfl, ?_⟩)
        refine r_pop (i := 645) rfl rfl ?_
        refine r_goto (i := 646) (v := 654) rfl ?_
        refine r_iinc (i := 654) (u := 10) (v := 4) (s := 10) (L1 := [some ((6, 0)), some ((2, 0)), some ((2, 43)), some ((2, 81)), some (vi (i + 10)), none, none]) rfl rfl rfl rfl rfl ?_
        refine r_goto (i := 655) (v := 13) rfl ?_
        exact ih S912 hI917 e920 e921 e922 e923 e924 e925 e926 e927 e928 e929 e930 e931 e932 e933 (i + 10) ⟨by omega, by omega⟩ (by exact wRM_le e934 (by omega)) (by omega)
      · refine r_swK (i := 24) (u := 1) (v := 654) (k := 18) (t := 647) rfl rfl h23 (by decide) (by decide) rfl ?_
        refine r_load (i := 647) (u := 1) (w := 2) rfl rfl rfl ?_
        refine r_call (i := 648) (u := 0) (v := 15) (w := 0) (b := 0) (na := 257) (C2 := xC15) (as := [(2, 0)]) (s := []) rfl rfl rfl rfl rfl rfl rfl (sp15  hI    (by omega)) (fun r935 S936 hq937 => ?_)
        obtain ⟨z938, rfl, h939, h940, hI941, hF942, hR943⟩ := hq937
        have e944 := N23x.fr e_N23 hF942 hR943 rfl rfl rfl
        have e945 := CRx.fr e_CR hF942 rfl rfl
        have e946 := RTx.fr e_RT hF942 rfl rfl
        have e947 := RMex.fr e_RMe hF942 rfl rfl
        have e948 := RSx.fr e_RS hF942 rfl rfl
        have e949 := RThx.fr e_RTh hF942 rfl rfl
        have e950 := RIx.fr e_RI hF942 rfl rfl
        have e951 := RKx.fr e_RK hF942 rfl rfl
        have e952 := RSlx.fr e_RSl hF942 rfl rfl
        have e953 := RPx.fr e_RP hF942 rfl rfl
        have e954 := RSkx.fr e_RSk hF942 rfl rfl
        have e955 := RAx.fr e_RA hF942 rfl rfl
        have e956 := RBx.fr e_RB hF942 rfl rfl
        have e957 := ROx.fr e_RO hF942 rfl rfl
        have e958 := wRM_rm q_0 hR943
        refine Or.inr (Or.inl ⟨rfl, ?_⟩)
        refine r_pop (i := 649) rfl rfl ?_
        refine r_load (i := 650) (u := 2) (w := 2) rfl rfl rfl ?_
        refine r_call (i := 651) (u := 11) (v := 235) (w := 0) (b := 0) (na := 1025) (C2 := xC235) (as := [(2, 43)]) (s := []) rfl rfl rfl rfl rfl rfl rfl (sp235  hI941    (by omega)) (fun r959 S960 hq961 => ?_)
        obtain ⟨z962, rfl, h963, h964, hI965, hF966, hR967⟩ := hq961
        have e968 := N23x.fr e944 hF966 hR967 rfl rfl rfl
        have e969 := CRx.fr e945 hF966 rfl rfl
        have e970 := RTx.fr e946 hF966 rfl rfl
        have e971 := RMex.fr e947 hF966 rfl rfl
        have e972 := RSx.fr e948 hF966 rfl rfl
        have e973 := RThx.fr e949 hF966 rfl rfl
        have e974 := RIx.fr e950 hF966 rfl rfl
        have e975 := RKx.fr e951 hF966 rfl rfl
        have e976 := RSlx.fr e952 hF966 rfl rfl
        have e977 := RPx.fr e953 hF966 rfl rfl
        have e978 := RSkx.fr e954 hF966 rfl rfl
        have e979 := RAx.fr e955 hF966 rfl rfl
        have e980 := RBx.fr e956 hF966 rfl rfl
        have e981 := ROx.fr e957 hF966 rfl rfl
        have e982 := wRM_rm e958 hR967
        refine Or.inr (Or.inl ⟨rfl, ?_⟩)
        refine r_pop (i := 652) rfl rfl ?_
        refine r_goto (i := 653) (v := 654) rfl ?_
        refine r_iinc (i := 654) (u := 10) (v := 4) (s := 10) (L1 := [some ((6, 0)), some ((2, 0)), some ((2, 43)), some ((2, 81)), some (vi (i + 10)), none, none]) rfl rfl rfl rfl rfl ?_
        refine r_goto (i := 655) (v := 13) rfl ?_
        exact ih S960 hI965 e968 e969 e970 e971 e972 e973 e974 e975 e976 e977 e978 e979 e980 e981 (i + 10) ⟨by omega, by omega⟩ (by exact wRM_le e982 (by omega)) (by omega)
      · refine r_swK (i := 24) (u := 1) (v := 654) (k := 19) (t := 654) rfl rfl h24 (by decide) (by decide) rfl ?_
        refine r_iinc (i := 654) (u := 10) (v := 4) (s := 10) (L1 := [some ((6, 0)), some ((2, 0)), some ((2, 43)), some ((2, 81)), some (vi (i + 10)), none, none]) rfl rfl rfl rfl rfl ?_
        refine r_goto (i := 655) (v := 13) rfl ?_
        exact ih S hI e_N23 e_CR e_RT e_RMe e_RS e_RTh e_RI e_RK e_RSl e_RP e_RSk e_RA e_RB e_RO (i + 10) ⟨by omega, by omega⟩ (by exact wRM_le q_0 (by omega)) (by omega)
      · refine r_swK (i := 24) (u := 1) (v := 654) (k := 20) (t := 654) rfl rfl h25 (by decide) (by decide) rfl ?_
        refine r_iinc (i := 654) (u := 10) (v := 4) (s := 10) (L1 := [some ((6, 0)), some ((2, 0)), some ((2, 43)), some ((2, 81)), some (vi (i + 10)), none, none]) rfl rfl rfl rfl rfl ?_
        refine r_goto (i := 655) (v := 13) rfl ?_
        exact ih S hI e_N23 e_CR e_RT e_RMe e_RS e_RTh e_RI e_RK e_RSl e_RP e_RSk e_RA e_RB e_RO (i + 10) ⟨by omega, by omega⟩ (by exact wRM_le q_0 (by omega)) (by omega)
      · refine r_swK (i := 24) (u := 1) (v := 654) (k := 21) (t := 654) rfl rfl h26 (by decide) (by decide) rfl ?_
        refine r_iinc (i := 654) (u := 10) (v := 4) (s := 10) (L1 := [some ((6, 0)), some ((2, 0)), some ((2, 43)), some ((2, 81)), some (vi (i + 10)), none, none]) rfl rfl rfl rfl rfl ?_
        refine r_goto (i := 655) (v := 13) rfl ?_
        exact ih S hI e_N23 e_CR e_RT e_RMe e_RS e_RTh e_RI e_RK e_RSl e_RP e_RSk e_RA e_RB e_RO (i + 10) ⟨by omega, by omega⟩ (by exact wRM_le q_0 (by omega)) (by omega)
      · refine r_swK (i := 24) (u := 1) (v := 654) (k := 22) (t := 654) rfl rfl h27 (by decide) (by decide) rfl ?_
        refine r_iinc (i := 654) (u := 10) (v := 4) (s := 10) (L1 := [some ((6, 0)), some ((2, 0)), some ((2, 43)), some ((2, 81)), some (vi (i + 10)), none, none]) rfl rfl rfl rfl rfl ?_
        refine r_goto (i := 655) (v := 13) rfl ?_
        exact ih S hI e_N23 e_CR e_RT e_RMe e_RS e_RTh e_RI e_RK e_RSl e_RP e_RSk e_RA e_RB e_RO (i + 10) ⟨by omega, by omega⟩ (by exact wRM_le q_0 (by omega)) (by omega)
      · refine r_swK (i := 24) (u := 1) (v := 654) (k := 23) (t := 654) rfl rfl h28 (by decide) (by decide) rfl ?_
        refine r_iinc (i := 654) (u := 10) (v := 4) (s := 10) (L1 := [some ((6, 0)), some ((2, 0)), some ((2, 43)), some ((2, 81)), some (vi (i + 10)), none, none]) rfl rfl rfl rfl rfl ?_
        refine r_goto (i := 655) (v := 13) rfl ?_
        exact ih S hI e_N23 e_CR e_RT e_RMe e_RS e_RTh e_RI e_RK e_RSl e_RP e_RSk e_RA e_RB e_RO (i + 10) ⟨by omega, by omega⟩ (by exact wRM_le q_0 (by omega)) (by omega)
      · refine r_swK (i := 24) (u := 1) (v := 654) (k := 24) (t := 654) rfl rfl h29 (by decide) (by decide) rfl ?_
        refine r_iinc (i := 654) (u := 10) (v := 4) (s := 10) (L1 := [some ((6, 0)), some ((2, 0)), some ((2, 43)), some ((2, 81)), some (vi (i + 10)), none, none]) rfl rfl rfl rfl rfl ?_
        refine r_goto (i := 655) (v := 13) rfl ?_
        exact ih S hI e_N23 e_CR e_RT e_RMe e_RS e_RTh e_RI e_RK e_RSl e_RP e_RSk e_RA e_RB e_RO (i + 10) ⟨by omega, by omega⟩ (by exact wRM_le q_0 (by omega)) (by omega)
      · refine r_swK (i := 24) (u := 1) (v := 654) (k := 25) (t := 654) rfl rfl h30 (by decide) (by decide) rfl ?_
        refine r_iinc (i := 654) (u := 10) (v := 4) (s := 10) (L1 := [some ((6, 0)), some ((2, 0)), some ((2, 43)), some ((2, 81)), some (vi (i + 10)), none, none]) rfl rfl rfl rfl rfl ?_
        refine r_goto (i := 655) (v := 13) rfl ?_
        exact ih S hI e_N23 e_CR e_RT e_RMe e_RS e_RTh e_RI e_RK e_RSl e_RP e_RSk e_RA e_RB e_RO (i + 10) ⟨by omega, by omega⟩ (by exact wRM_le q_0 (by omega)) (by omega)
      · refine r_swK (i := 24) (u := 1) (v := 654) (k := 26) (t := 654) rfl rfl h31 (by decide) (by decide) rfl ?_
        refine r_iinc (i := 654) (u := 10) (v := 4) (s := 10) (L1 := [some ((6, 0)), some ((2, 0)), some ((2, 43)), some ((2, 81)), some (vi (i + 10)), none, none]) rfl rfl rfl rfl rfl ?_
        refine r_goto (i := 655) (v := 13) rfl ?_
        exact ih S hI e_N23 e_CR e_RT e_RMe e_RS e_RTh e_RI e_RK e_RSl e_RP e_RSk e_RA e_RB e_RO (i + 10) ⟨by omega, by omega⟩ (by exact wRM_le q_0 (by omega)) (by omega)
      · refine r_swK (i := 24) (u := 1) (v := 654) (k := 27) (t := 654) rfl rfl h32 (by decide) (by decide) rfl ?_
        refine r_iinc (i := 654) (u := 10) (v := 4) (s := 10) (L1 := [some ((6, 0)), some ((2, 0)), some ((2, 43)), some ((2, 81)), some (vi (i + 10)), none, none]) rfl rfl rfl rfl rfl ?_
        refine r_goto (i := 655) (v := 13) rfl ?_
        exact ih S hI e_N23 e_CR e_RT e_RMe e_RS e_RTh e_RI e_RK e_RSl e_RP e_RSk e_RA e_RB e_RO (i + 10) ⟨by omega, by omega⟩ (by exact wRM_le q_0 (by omega)) (by omega)
      · refine r_swK (i := 24) (u := 1) (v := 654) (k := 28) (t := 654) rfl rfl h33 (by decide) (by decide) rfl ?_
        refine r_iinc (i := 654) (u := 10) (v := 4) (s := 10) (L1 := [some ((6, 0)), some ((2, 0)), some ((2, 43)), some ((2, 81)), some (vi (i + 10)), none, none]) rfl rfl rfl rfl rfl ?_
        refine r_goto (i := 655) (v := 13) rfl ?_
        exact ih S hI e_N23 e_CR e_RT e_RMe e_RS e_RTh e_RI e_RK e_RSl e_RP e_RSk e_RA e_RB e_RO (i + 10) ⟨by omega, by omega⟩ (by exact wRM_le q_0 (by omega)) (by omega)
      · refine r_swK (i := 24) (u := 1) (v := 654) (k := 29) (t := 654) rfl rfl h34 (by decide) (by decide) rfl ?_
        refine r_iinc (i := 654) (u := 10) (v := 4) (s := 10) (L1 := [some ((6, 0)), some ((2, 0)), some ((2, 43)), some ((2, 81)), some (vi (i + 10)), none, none]) rfl rfl rfl rfl rfl ?_
        refine r_goto (i := 655) (v := 13) rfl ?_
        exact ih S hI e_N23 e_CR e_RT e_RMe e_RS e_RTh e_RI e_RK e_RSl e_RP e_RSk e_RA e_RB e_RO (i + 10) ⟨by omega, by omega⟩ (by exact wRM_le q_0 (by omega)) (by omega)
      · refine r_swK (i := 24) (u := 1) (v := 654) (k := 30) (t := 654) rfl rfl h35 (by decide) (by decide) rfl ?_
        refine r_iinc (i := 654) (u := 10) (v := 4) (s := 10) (L1 := [some ((6, 0)), some ((2, 0)), some ((2, 43)), some ((2, 81)), some (vi (i + 10)), none, none]) rfl rfl rfl rfl rfl ?_
        refine r_goto (i := 655) (v := 13) rfl ?_
        exact ih S hI e_N23 e_CR e_RT e_RMe e_RS e_RTh e_RI e_RK e_RSl e_RP e_RSk e_RA e_RB e_RO (i + 10) ⟨by omega, by omega⟩ (by exact wRM_le q_0 (by omega)) (by omega)
      · refine r_swK (i := 24) (u := 1) (v := 654) (k := 31) (t := 654) rfl rfl h36 (by decide) (by decide) rfl ?_
        refine r_iinc (i := 654) (u := 10) (v := 4) (s := 10) (L1 := [some ((6, 0)), some ((2, 0)), some ((2, 43)), some ((2, 81)), some (vi (i + 10)), none, none]) rfl rfl rfl rfl rfl ?_
        refine r_goto (i := 655) (v := 13) rfl ?_
        exact ih S hI e_N23 e_CR e_RT e_RMe e_RS e_RTh e_RI e_RK e_RSl e_RP e_RSk e_RA e_RB e_RO (i + 10) ⟨by omega, by omega⟩ (by exact wRM_le q_0 (by omega)) (by omega)
end XNC
