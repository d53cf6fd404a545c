set_option linter.unusedVariables false
set_option maxRecDepth 4000
noncomputable section XNC
/-- ProxyForgeLaw.type -/
theorem sp179 {G : xk} {S : yS} {d : Nat} (hI : yI S) {kR : Int} {p0 : Int} (h_p0 : 0 ≤ p0 ∧ p0 ≤ 1) {p1 : Int} (h_p1 : -2147483648 ≤ p1 ∧ p1 ≤ 2147483647) {p2 : Int} (h_p2 : -2147483648 ≤ p2 ∧ p2 ≤ 2147483647) {p3 : Int} (h_p3 : -2147483648 ≤ p3 ∧ p3 ≤ 2147483647) (p_0 : wRM (kR + 1) S) (p_1 : 0 ≤ kR) (e_N23 : N23 S) (e_CR : CR S) (hd : 7 ≤ d) : yT xPr G LY xC179 0 [some ((2, 0)), some (vi p0), some (vi p1), some (vi p2), some (vi p3), some ((2, 81))] [] S d (fun r S' => ∃ z : Int, r = (1, vi z) ∧ 0 ≤ z ∧ z ≤ 2 ∧ wRM kR S' ∧ hTy S S' p0 p1 p2 p3 z ∧ (z = 0 → c6T S S' p3) ∧ N23 S' ∧ CR S' ∧ yI S' ∧ yFr [(1, 7)] [2, 3, 4, 5, 6, 81] S S') := by
  refine yT_pad 1 ?_
  show yT xPr G LY xC179 0 [some ((2, 0)), some (vi p0), some (vi p1), some (vi p2), some (vi p3), some ((2, 81)), none] [] S d _
  obtain ⟨d, rfl⟩ : ∃ q, d = q + 1 := ⟨d - 1, by omega⟩
  have hF : yFr [(1, 7)] [2, 3, 4, 5, 6, 81] S S := yFr.refl S
  have e_RM := p_0
  refine r_load (i := 0) (u := 5) (w := 2) rfl rfl rfl ?_
  refine r_const (i := 1) (u := 0) (z := 0) rfl rfl ?_
  refine r_load (i := 2) (u := 0) (w := 2) rfl rfl rfl ?_
  refine r_load (i := 3) (u := 1) (w := 0) rfl rfl rfl ?_
  refine r_load (i := 4) (u := 2) (w := 0) rfl rfl rfl ?_
  refine r_load (i := 5) (u := 3) (w := 0) rfl rfl rfl ?_
  refine r_load (i := 6) (u := 4) (w := 0) rfl rfl rfl ?_
  have h1 := hI.f tf1_7
  refine r_call (i := 7) (u := 3940705509310464) (v := 21) (w := 11) (b := 0) (na := 1285) (C2 := xC21) (as := [(2, 0), vi p0, vi p1, vi p2, vi p3]) (s := [vi 0, (2, 81)]) rfl rfl rfl rfl rfl rfl rfl (sp21 (b := p0) (fl := p1) (p := p2) (up := p3) hI ⟨by omega, by omega⟩ ⟨by omega, by omega⟩ ⟨by omega, by omega⟩ ⟨by omega, by omega⟩   (by omega)) (fun r2 S3 hq4 => ?_)
  rcases hq4 with hq5 | ⟨a7, c9, rfl, hc6, rfl⟩
  · obtain ⟨z8, rfl, h9, h10, tc11, tl12, tz13, ct14, c6t15, hI16, hF17, hR18⟩ := hq5
    have hF19 := hF.trans hF17 rfl rfl
    have e20 := N23x.fr e_N23 hF17 hR18 rfl rfl rfl
    have e21 := CRx.fr e_CR hF17 rfl rfl
    have e22 := wRM_rm e_RM hR18
    refine Or.inr (Or.inl ⟨rfl, ?_⟩)
    refine r_i2l (i := 8) rfl ⟨by omega, by omega⟩ ?_
    refine r_lastore (i := 9) rfl ly81 (by decide) (by omega) (by omega) ⟨by omega, by omega⟩ ?_
    have hI24 := hI16.seta0 (b := 81) (j := (0 : Int).toNat) (z := z8) rfl rfl
    have hF26 := hF19.seta (b := 81) (j := (0 : Int).toNat) (z := z8) rfl
    have e28 := N23x.seta e20 (b := 81) (j := (0 : Int).toNat) (z := z8) rfl
    have e29 := CRx.seta e21 (b := 81) (j := (0 : Int).toNat) (z := z8) rfl
    have e30 := wRM_a e22 (b := 81) (j := (0 : Int).toNat) (z := z8)
    refine yT_gen (fun S23 hS25 => ?_)
    rw [hS25] at hI24 hF26  e28 e29 e30
    refine r_goto (i := 10) (v := 17) rfl ?_
    refine r_const (i := 17) (u := 0) (z := 0) rfl rfl ?_
    exact r_retI (i := 18) rfl ⟨0, rfl, by omega, by omega, (by exact wRM_le e30 (by omega)), (by exact Or.inl ⟨rfl, tc11, tl12, by first | (subst hS25; exact ysa_eq.trans tz13) | (subst_vars; rfl), by subst hS25; exact cTy81 ct14⟩), (by intro _; subst hS25; exact c6t15), e28, e29, hI24, hF26⟩
  · obtain ⟨hI31, rm32⟩ := wRM_cost e_RM hI (by omega)
    have e33 : N23 (ycost S 1 6) := e_N23
    have e34 : CR (ycost S 1 6) := e_CR
    have hF35 : yFr [(1, 7)] [2, 3, 4, 5, 6, 81] S (ycost S 1 6) := hF
    rcases hc6 with ⟨rfl, xphc6⟩ | ⟨rfl, xphc6⟩
    · refine Or.inr (Or.inr (Or.inl ⟨rfl, rfl, by decide, ?_⟩))
      refine r_store (i := 11) (u := 6) (w := 2) (L1 := [some ((2, 0)), some (vi p0), some (vi p1), some (vi p2), some (vi p3), some ((2, 81)), some ((2, a7))]) rfl rfl rfl rfl ?_
      refine r_const (i := 12) (u := 1) (z := 1) rfl rfl ?_
      exact r_retI (i := 13) rfl ⟨1, rfl, by omega, by omega, (by exact wRM_le rm32 (by omega)), (by first | exact Or.inr (Or.inl ⟨rfl, xphc6, rfl, rfl⟩) | exact Or.inr (Or.inr ⟨rfl, xphc6.1, xphc6.2, rfl, rfl⟩)), (by intro hz; exact absurd hz (by omega)), e33, e34, hI31, hF35⟩
    · refine Or.inr (Or.inr (Or.inr ⟨rfl, (show (13 : Nat) ≠ 3940705509310464 / 65536 % 65536 by decide), rfl, by decide, ?_⟩))
      refine r_store (i := 14) (u := 6) (w := 2) (L1 := [some ((2, 0)), some (vi p0), some (vi p1), some (vi p2), some (vi p3), some ((2, 81)), some ((2, a7))]) rfl rfl rfl rfl ?_
      refine r_const (i := 15) (u := 2) (z := 2) rfl rfl ?_
      exact r_retI (i := 16) rfl ⟨2, rfl, by omega, by omega, (by exact wRM_le rm32 (by omega)), (by first | exact Or.inr (Or.inl ⟨rfl, xphc6, rfl, rfl⟩) | exact Or.inr (Or.inr ⟨rfl, xphc6.1, xphc6.2, rfl, rfl⟩)), (by intro hz; exact absurd hz (by omega)), e33, e34, hI31, hF35⟩
/-- ProxyForgeLaw.implement -/
theorem sp176 {G : xk} {S : yS} {d : Nat} (hI : yI S) {kR : Int} {p0 : Int} (h_p0 : -2147483648 ≤ p0 ∧ p0 ≤ 2147483647) {p1 : Int} (h_p1 : -2147483648 ≤ p1 ∧ p1 ≤ 2147483647) (p_0 : wRM (kR + 1) S) (p_1 : 0 ≤ kR) (e_N23 : N23 S) (e_CR : CR S) (hd : 7 ≤ d) : yT xPr G LY xC176 0 [some ((2, 0)), some (vi p0), some (vi p1)] [] S d (fun r S' => ∃ z : Int, r = (1, vi z) ∧ 0 ≤ z ∧ z ≤ 2 ∧ wRM kR S' ∧ hIm S S' p0 p1 z ∧ N23 S' ∧ CR S' ∧ yI S' ∧ yFr [] [6, 7, 8] S S') := by
  refine yT_pad 1 ?_
  show yT xPr G LY xC176 0 [some ((2, 0)), some (vi p0), some (vi p1), none] [] S d _
  obtain ⟨d, rfl⟩ : ∃ q, d = q + 1 := ⟨d - 1, by omega⟩
  have hF : yFr [] [6, 7, 8] S S := yFr.refl S
  have e_RM := p_0
  refine r_load (i := 0) (u := 0) (w := 2) rfl rfl rfl ?_
  refine r_load (i := 1) (u := 1) (w := 0) rfl rfl rfl ?_
  refine r_load (i := 2) (u := 2) (w := 0) rfl rfl rfl ?_
  refine r_call (i := 3) (u := 786432) (v := 10) (w := 5) (b := 0) (na := 771) (C2 := xC10) (as := [(2, 0), vi p0, vi p1]) (s := []) rfl rfl rfl rfl rfl rfl rfl (sp10 (t := p0) (f := p1) hI ⟨by omega, by omega⟩ ⟨by omega, by omega⟩   (by omega)) (fun r1 S2 hq3 => ?_)
  rcases hq3 with hq4 | ⟨a6, c9, rfl, hc5, rfl⟩
  · obtain ⟨rfl, ic7, ci28, hI9, hF10, hR11⟩ := hq4
    have hF12 := hF.trans hF10 rfl rfl
    have e13 := N23x.fr e_N23 hF10 hR11 rfl rfl rfl
    have e14 := CRx.fr e_CR hF10 rfl rfl
    have e15 := wRM_rm e_RM hR11
    refine Or.inl ⟨rfl, ?_⟩
    refine r_goto (i := 4) (v := 8) rfl ?_
    refine r_const (i := 8) (u := 0) (z := 0) rfl rfl ?_
    exact r_retI (i := 9) rfl ⟨0, rfl, by omega, by omega, (by exact wRM_le e15 (by omega)), (by exact Or.inl ⟨rfl, ic7, ci28⟩), e13, e14, hI9, hF12⟩
  · obtain ⟨hI16, rm17⟩ := wRM_cost e_RM hI (by omega)
    have e18 : N23 (ycost S 1 6) := e_N23
    have e19 : CR (ycost S 1 6) := e_CR
    have hF20 : yFr [] [6, 7, 8] S (ycost S 1 6) := hF
    obtain ⟨rfl, xphc5⟩ := hc5
    · refine Or.inr (Or.inr (Or.inl ⟨rfl, rfl, by decide, ?_⟩))
      refine r_store (i := 5) (u := 3) (w := 2) (L1 := [some ((2, 0)), some (vi p0), some (vi p1), some ((2, a6))]) rfl rfl rfl rfl ?_
      refine r_const (i := 6) (u := 1) (z := 1) rfl rfl ?_
      exact r_retI (i := 7) rfl ⟨1, rfl, by omega, by omega, (by exact wRM_le rm17 (by omega)), (by exact Or.inr ⟨rfl, xphc5, rfl, rfl⟩), e18, e19, hI16, hF20⟩
/-- ProxyForgeLaw.method -/
theorem sp177 {G : xk} {S : yS} {d : Nat} (hI : yI S) {kR : Int} {p0 : Int} (h_p0 : -2147483648 ≤ p0 ∧ p0 ≤ 2147483647) {p1 : Int} (h_p1 : -2147483648 ≤ p1 ∧ p1 ≤ 2147483647) {p2 : Int} (h_p2 : -2147483648 ≤ p2 ∧ p2 ≤ 2147483647) {p3 : Int} (h_p3 : -2147483648 ≤ p3 ∧ p3 ≤ 2147483647) {p4 : Int} (h_p4 : -2147483648 ≤ p4 ∧ p4 ≤ 2147483647) (p_0 : wRM (kR + 1) S) (p_1 : 0 ≤ kR) (e_N23 : N23 S) (e_CR : CR S) (hd : 7 ≤ d) : yT xPr G LY xC177 0 [some ((2, 0)), some (vi p0), some (vi p1), some (vi p2), some (vi p3), some (vi p4), some ((2, 81))] [] S d (fun r S' => ∃ z : Int, r = (1, vi z) ∧ 0 ≤ z ∧ z ≤ 2 ∧ wRM kR S' ∧ hMe S S' p0 p1 p2 p3 p4 z ∧ N23 S' ∧ CR S' ∧ yI S' ∧ yFr [(9, 8)] [10, 11, 12, 13, 14, 81] S S') := by
  refine yT_pad 1 ?_
  show yT xPr G LY xC177 0 [some ((2, 0)), some (vi p0), some (vi p1), some (vi p2), some (vi p3), some (vi p4), some ((2, 81)), none] [] S d _
  obtain ⟨d, rfl⟩ : ∃ q, d = q + 1 := ⟨d - 1, by omega⟩
  have hF : yFr [(9, 8)] [10, 11, 12, 13, 14, 81] S S := yFr.refl S
  have e_RM := p_0
  refine r_load (i := 0) (u := 6) (w := 2) rfl rfl rfl ?_
  refine r_const (i := 1) (u := 0) (z := 0) rfl rfl ?_
  refine r_load (i := 2) (u := 0) (w := 2) rfl rfl rfl ?_
  refine r_load (i := 3) (u := 1) (w := 0) rfl rfl rfl ?_
  refine r_load (i := 4) (u := 2) (w := 0) rfl rfl rfl ?_
  refine r_load (i := 5) (u := 3) (w := 0) rfl rfl rfl ?_
  refine r_load (i := 6) (u := 4) (w := 0) rfl rfl rfl ?_
  refine r_load (i := 7) (u := 5) (w := 0) rfl rfl rfl ?_
  have h1 := hI.f tf9_8
  refine r_call (i := 8) (u := 4222180486021120) (v := 13) (w := 12) (b := 0) (na := 1542) (C2 := xC13) (as := [(2, 0), vi p0, vi p1, vi p2, vi p3, vi p4]) (s := [vi 0, (2, 81)]) rfl rfl rfl rfl rfl rfl rfl (sp13 (t := p0) (w0 := p1) (fl := p2) (p := p3) (b := p4) hI ⟨by omega, by omega⟩ ⟨by omega, by omega⟩ ⟨by omega, by omega⟩ ⟨by omega, by omega⟩ ⟨by omega, by omega⟩   (by omega)) (fun r2 S3 hq4 => ?_)
  rcases hq4 with hq5 | ⟨a7, c9, rfl, hc6, rfl⟩
  · obtain ⟨z8, rfl, h9, h10, tc11, tl12, tz13, ct14, hI15, hF16, hR17⟩ := hq5
    have hF18 := hF.trans hF16 rfl rfl
    have e19 := N23x.fr e_N23 hF16 hR17 rfl rfl rfl
    have e20 := CRx.fr e_CR hF16 rfl rfl
    have e21 := wRM_rm e_RM hR17
    refine Or.inr (Or.inl ⟨rfl, ?_⟩)
    refine r_i2l (i := 9) rfl ⟨by omega, by omega⟩ ?_
    refine r_lastore (i := 10) rfl ly81 (by decide) (by omega) (by omega) ⟨by omega, by omega⟩ ?_
    have hI23 := hI15.seta0 (b := 81) (j := (0 : Int).toNat) (z := z8) rfl rfl
    have hF25 := hF18.seta (b := 81) (j := (0 : Int).toNat) (z := z8) rfl
    have e27 := N23x.seta e19 (b := 81) (j := (0 : Int).toNat) (z := z8) rfl
    have e28 := CRx.seta e20 (b := 81) (j := (0 : Int).toNat) (z := z8) rfl
    have e29 := wRM_a e21 (b := 81) (j := (0 : Int).toNat) (z := z8)
    refine yT_gen (fun S22 hS24 => ?_)
    rw [hS24] at hI23 hF25  e27 e28 e29
    refine r_goto (i := 11) (v := 18) rfl ?_
    refine r_const (i := 18) (u := 0) (z := 0) rfl rfl ?_
    exact r_retI (i := 19) rfl ⟨0, rfl, by omega, by omega, (by exact wRM_le e29 (by omega)), (by exact Or.inl ⟨rfl, tc11, tl12, by first | (subst hS24; exact ysa_eq.trans tz13) | (subst_vars; rfl), by subst hS24; exact cMe81 ct14⟩), e27, e28, hI23, hF25⟩
  · obtain ⟨hI30, rm31⟩ := wRM_cost e_RM hI (by omega)
    have e32 : N23 (ycost S 1 6) := e_N23
    have e33 : CR (ycost S 1 6) := e_CR
    have hF34 : yFr [(9, 8)] [10, 11, 12, 13, 14, 81] S (ycost S 1 6) := hF
    rcases hc6 with ⟨rfl, xphc6⟩ | ⟨rfl, xphc6⟩
    · refine Or.inr (Or.inr (Or.inl ⟨rfl, rfl, by decide, ?_⟩))
      refine r_store (i := 12) (u := 7) (w := 2) (L1 := [some ((2, 0)), some (vi p0), some (vi p1), some (vi p2), some (vi p3), some (vi p4), some ((2, 81)), some ((2, a7))]) rfl rfl rfl rfl ?_
      refine r_const (i := 13) (u := 1) (z := 1) rfl rfl ?_
      exact r_retI (i := 14) rfl ⟨1, rfl, by omega, by omega, (by exact wRM_le rm31 (by omega)), (by first | exact Or.inr (Or.inl ⟨rfl, xphc6, rfl, rfl⟩) | exact Or.inr (Or.inr ⟨rfl, xphc6.1, xphc6.2, rfl, rfl⟩)), e32, e33, hI30, hF34⟩
    · refine Or.inr (Or.inr (Or.inr ⟨rfl, (show (13 : Nat) ≠ 4222180486021120 / 65536 % 65536 by decide), rfl, by decide, ?_⟩))
      refine r_store (i := 15) (u := 7) (w := 2) (L1 := [some ((2, 0)), some (vi p0), some (vi p1), some (vi p2), some (vi p3), some (vi p4), some ((2, 81)), some ((2, a7))]) rfl rfl rfl rfl ?_
      refine r_const (i := 16) (u := 2) (z := 2) rfl rfl ?_
      exact r_retI (i := 17) rfl ⟨2, rfl, by omega, by omega, (by exact wRM_le rm31 (by omega)), (by first | exact Or.inr (Or.inl ⟨rfl, xphc6, rfl, rfl⟩) | exact Or.inr (Or.inr ⟨rfl, xphc6.1, xphc6.2, rfl, rfl⟩)), e32, e33, hI30, hF34⟩
/-- ProxyForgeLaw.throwing -/
theorem sp178 {G : xk} {S : yS} {d : Nat} (hI : yI S) {kR : Int} {p0 : Int} (h_p0 : -2147483648 ≤ p0 ∧ p0 ≤ 2147483647) {p1 : Int} (h_p1 : -2147483648 ≤ p1 ∧ p1 ≤ 2147483647) (p_0 : wRM (kR + 1) S) (p_1 : 0 ≤ kR) (e_N23 : N23 S) (e_CR : CR S) (hd : 7 ≤ d) : yT xPr G LY xC178 0 [some ((2, 0)), some (vi p0), some (vi p1)] [] S d (fun r S' => ∃ z : Int, r = (1, vi z) ∧ 0 ≤ z ∧ z ≤ 2 ∧ wRM kR S' ∧ hTh S S' p0 p1 z ∧ N23 S' ∧ CR S' ∧ yI S' ∧ yFr [] [15, 16] S S') := by
  refine yT_pad 1 ?_
  show yT xPr G LY xC178 0 [some ((2, 0)), some (vi p0), some (vi p1), none] [] S d _
  obtain ⟨d, rfl⟩ : ∃ q, d = q + 1 := ⟨d - 1, by omega⟩
  have hF : yFr [] [15, 16] S S := yFr.refl S
  have e_RM := p_0
  refine r_load (i := 0) (u := 0) (w := 2) rfl rfl rfl ?_
  refine r_load (i := 1) (u := 1) (w := 0) rfl rfl rfl ?_
  refine r_load (i := 2) (u := 2) (w := 0) rfl rfl rfl ?_
  refine r_call (i := 3) (u := 786432) (v := 20) (w := 5) (b := 0) (na := 771) (C2 := xC20) (as := [(2, 0), vi p0, vi p1]) (s := []) rfl rfl rfl rfl rfl rfl rfl (sp20 (m := p0) (t := p1) hI ⟨by omega, by omega⟩ ⟨by omega, by omega⟩   (by omega)) (fun r1 S2 hq3 => ?_)
  rcases hq3 with hq4 | ⟨a6, c9, rfl, hc5, rfl⟩
  · obtain ⟨rfl, tc27, cth28, hI9, hF10, hR11⟩ := hq4
    have hF12 := hF.trans hF10 rfl rfl
    have e13 := N23x.fr e_N23 hF10 hR11 rfl rfl rfl
    have e14 := CRx.fr e_CR hF10 rfl rfl
    have e15 := wRM_rm e_RM hR11
    refine Or.inl ⟨rfl, ?_⟩
    refine r_goto (i := 4) (v := 8) rfl ?_
    refine r_const (i := 8) (u := 0) (z := 0) rfl rfl ?_
    exact r_retI (i := 9) rfl ⟨0, rfl, by omega, by omega, (by exact wRM_le e15 (by omega)), (by exact Or.inl ⟨rfl, tc27, cth28⟩), e13, e14, hI9, hF12⟩
  · obtain ⟨hI16, rm17⟩ := wRM_cost e_RM hI (by omega)
    have e18 : N23 (ycost S 1 6) := e_N23
    have e19 : CR (ycost S 1 6) := e_CR
    have hF20 : yFr [] [15, 16] S (ycost S 1 6) := hF
    obtain ⟨rfl, xphc5⟩ := hc5
    · refine Or.inr (Or.inr (Or.inl ⟨rfl, rfl, by decide, ?_⟩))
      refine r_store (i := 5) (u := 3) (w := 2) (L1 := [some ((2, 0)), some (vi p0), some (vi p1), some ((2, a6))]) rfl rfl rfl rfl ?_
      refine r_const (i := 6) (u := 1) (z := 1) rfl rfl ?_
      exact r_retI (i := 7) rfl ⟨1, rfl, by omega, by omega, (by exact wRM_le rm17 (by omega)), (by exact Or.inr ⟨rfl, xphc5, rfl, rfl⟩), e18, e19, hI16, hF20⟩
/-- ProxyForgeLaw.forge -/
theorem sp175 {G : xk} {S : yS} {d : Nat} (hI : yI S) {kR : Int} {p0 : Int} (h_p0 : -2147483648 ≤ p0 ∧ p0 ≤ 2147483647) {p1 : Int} (h_p1 : -2147483648 ≤ p1 ∧ p1 ≤ 2147483647) {p2 : Int} (h_p2 : -2147483648 ≤ p2 ∧ p2 ≤ 2147483647) {p3 : Int} (h_p3 : -2147483648 ≤ p3 ∧ p3 ≤ 2147483647) (p_0 : wRM (kR + 1) S) (p_1 : 0 ≤ kR) (e_N23 : N23 S) (e_CR : CR S) (hd : 26 ≤ d) : yT xPr G LY xC175 0 [some ((2, 0)), some (vi p0), some (vi p1), some (vi p2), some (vi p3), some ((2, 81))] [] S d (fun r S' => ∃ z : Int, r = (1, vi z) ∧ 0 ≤ z ∧ z ≤ 2 ∧ wRM kR S' ∧ hFx S S' p0 p1 p2 p3 z ∧ N23 S' ∧ CR S' ∧ yI S' ∧ yFr [(17, 6), (17, 7), (17, 8), (17, 9), (17, 10), (17, 11), (17, 12), (22, 3), (31, 1), (33, 7), (33, 8), (33, 9), (33, 10), (33, 11), (33, 12), (33, 13), (33, 14), (33, 15), (34, 1), (36, 5)] [18, 19, 20, 21, 23, 24, 25, 37, 81, 100, 101, 102, 103, 105] S S') := by
  refine yT_pad 1 ?_
  show yT xPr G LY xC175 0 [some ((2, 0)), some (vi p0), some (vi p1), some (vi p2), some (vi p3), some ((2, 81)), none] [] S d _
  obtain ⟨d, rfl⟩ : ∃ q, d = q + 1 := ⟨d - 1, by omega⟩
  have hF : yFr [(17, 6), (17, 7), (17, 8), (17, 9), (17, 10), (17, 11), (17, 12), (22, 3), (31, 1), (33, 7), (33, 8), (33, 9), (33, 10), (33, 11), (33, 12), (33, 13), (33, 14), (33, 15), (34, 1), (36, 5)] [18, 19, 20, 21, 23, 24, 25, 37, 81, 100, 101, 102, 103, 105] S S := yFr.refl S
  have e_RM := p_0
  refine r_load (i := 0) (u := 5) (w := 2) rfl rfl rfl ?_
  refine r_const (i := 1) (u := 0) (z := 0) rfl rfl ?_
  refine r_load (i := 2) (u := 0) (w := 2) rfl rfl rfl ?_
  refine r_load (i := 3) (u := 1) (w := 0) rfl rfl rfl ?_
  refine r_load (i := 4) (u := 2) (w := 0) rfl rfl rfl ?_
  refine r_load (i := 5) (u := 3) (w := 0) rfl rfl rfl ?_
  refine r_load (i := 6) (u := 4) (w := 0) rfl rfl rfl ?_
  refine r_call (i := 7) (u := 786432) (v := 8) (w := 11) (b := 0) (na := 1797) (C2 := xC8) (as := [(2, 0), vi p0, vi p1, vi p2, vi p3]) (s := [vi 0, (2, 81)]) rfl rfl rfl rfl rfl rfl rfl (sp8 (t := p0) (fa := p1) (fb := p2) (fc := p3) hI ⟨by omega, by omega⟩ ⟨by omega, by omega⟩ ⟨by omega, by omega⟩ ⟨by omega, by omega⟩  e_N23 (by omega)) (fun r1 S2 hq3 => ?_)
  rcases hq3 with hq4 | ⟨a6, c9, rfl, hc5, rfl⟩
  · obtain ⟨z7, rfl, h8, h9, fo10, e11, hI12, hF13, hR14⟩ := hq4
    have hF15 := hF.trans hF13 rfl rfl
    have e16 := CRx.fr e_CR hF13 rfl rfl
    have e17 := wRM_rm e_RM hR14
    refine Or.inr (Or.inl ⟨rfl, ?_⟩)
    refine r_i2l (i := 8) rfl ⟨by omega, by omega⟩ ?_
    refine r_lastore (i := 9) rfl ly81 (by decide) (by omega) (by omega) ⟨by omega, by omega⟩ ?_
    have hI19 := hI12.seta0 (b := 81) (j := (0 : Int).toNat) (z := z7) rfl rfl
    have hF21 := hF15.seta (b := 81) (j := (0 : Int).toNat) (z := z7) rfl
    have e23 := CRx.seta e16 (b := 81) (j := (0 : Int).toNat) (z := z7) rfl
    have e24 := wRM_a e17 (b := 81) (j := (0 : Int).toNat) (z := z7)
    have e25 := N23x.seta e11 (b := 81) (j := (0 : Int).toNat) (z := z7) rfl
    refine yT_gen (fun S18 hS20 => ?_)
    rw [hS20] at hI19 hF21  e23 e24 e25
    refine r_goto (i := 10) (v := 14) rfl ?_
    refine r_const (i := 14) (u := 0) (z := 0) rfl rfl ?_
    exact r_retI (i := 15) rfl ⟨0, rfl, by omega, by omega, (by exact wRM_le e24 (by omega)), (by exact Or.inl ⟨rfl, by subst hS20; rw [ysa_eq]; exact foX_81 fo10⟩), e25, e23, hI19, hF21⟩
  · obtain ⟨hI26, rm27⟩ := wRM_cost e_RM hI (by omega)
    have e28 : N23 (ycost S 1 6) := e_N23
    have e29 : CR (ycost S 1 6) := e_CR
    have hF30 : yFr [(17, 6), (17, 7), (17, 8), (17, 9), (17, 10), (17, 11), (17, 12), (22, 3), (31, 1), (33, 7), (33, 8), (33, 9), (33, 10), (33, 11), (33, 12), (33, 13), (33, 14), (33, 15), (34, 1), (36, 5)] [18, 19, 20, 21, 23, 24, 25, 37, 81, 100, 101, 102, 103, 105] S (ycost S 1 6) := hF
    obtain ⟨rfl, xphc5⟩ := hc5
    · refine Or.inr (Or.inr (Or.inl ⟨rfl, rfl, by decide, ?_⟩))
      refine r_store (i := 11) (u := 6) (w := 2) (L1 := [some ((2, 0)), some (vi p0), some (vi p1), some (vi p2), some (vi p3), some ((2, 81)), some ((2, a6))]) rfl rfl rfl rfl ?_
      refine r_const (i := 12) (u := 1) (z := 1) rfl rfl ?_
      exact r_retI (i := 13) rfl ⟨1, rfl, by omega, by omega, (by exact wRM_le rm27 (by omega)), (by exact Or.inr ⟨rfl, xphc5, rfl, fun _ => rfl, fun _ => rfl, fun _ => rfl⟩), e28, e29, hI26, hF30⟩
/-- ProxyForgeLaw.answer -/
theorem sp173 {G : xk} {S : yS} {d : Nat} (hI : yI S) {kR : Int} {p0 : Int} (h_p0 : -2147483648 ≤ p0 ∧ p0 ≤ 2147483647) {p1 : Int} (h_p1 : Rl p1) (p_0 : wRM (kR + 1) S) (p_1 : 0 ≤ kR) (e_N23 : N23 S) (e_CR : CR S) (hd : 7 ≤ d) : yT xPr G LY xC173 0 [some ((2, 0)), some (vi p0), some (vl p1), none] [] S d (fun r S' => ∃ z : Int, r = (1, vi z) ∧ 0 ≤ z ∧ z ≤ 2 ∧ wRM kR S' ∧ N23 S' ∧ CR S' ∧ yI S' ∧ yFr [(26, 4), (26, 5)] [] S S') := by
  refine yT_pad 1 ?_
  show yT xPr G LY xC173 0 [some ((2, 0)), some (vi p0), some (vl p1), none, none] [] S d _
  obtain ⟨d, rfl⟩ : ∃ q, d = q + 1 := ⟨d - 1, by omega⟩
  have hF : yFr [(26, 4), (26, 5)] [] S S := yFr.refl S
  have e_RM := p_0
  refine r_load (i := 0) (u := 0) (w := 2) rfl rfl rfl ?_
  refine r_load (i := 1) (u := 1) (w := 0) rfl rfl rfl ?_
  refine r_load (i := 2) (u := 2) (w := 1) rfl rfl rfl ?_
  refine r_call (i := 3) (u := 786432) (v := 1) (w := 5) (b := 0) (na := 1027) (C2 := xC1) (as := [(2, 0), vi p0, vl p1]) (s := []) rfl rfl rfl rfl rfl rfl rfl (sp1 (k := p0) (v := p1) hI ⟨by omega, by omega⟩ ⟨by omega, by omega⟩   (by omega)) (fun r1 S2 hq3 => ?_)
  rcases hq3 with hq4 | ⟨a6, c9, rfl, hc5, rfl⟩
  · obtain ⟨rfl, hI7, hF8, hR9⟩ := hq4
    have hF10 := hF.trans hF8 rfl rfl
    have e11 := N23x.fr e_N23 hF8 hR9 rfl rfl rfl
    have e12 := CRx.fr e_CR hF8 rfl rfl
    have e13 := wRM_rm e_RM hR9
    refine Or.inl ⟨rfl, ?_⟩
    refine r_goto (i := 4) (v := 8) rfl ?_
    refine r_const (i := 8) (u := 0) (z := 0) rfl rfl ?_
    exact r_retI (i := 9) rfl ⟨0, rfl, by omega, by omega, (by exact wRM_le e13 (by omega)), e11, e12, hI7, hF10⟩
  · obtain ⟨hI14, rm15⟩ := wRM_cost e_RM hI (by omega)
    have e16 : N23 (ycost S 1 6) := e_N23
    have e17 : CR (ycost S 1 6) := e_CR
    have hF18 : yFr [(26, 4), (26, 5)] [] S (ycost S 1 6) := hF
    obtain rfl := hc5
    · refine Or.inr (Or.inr (Or.inl ⟨rfl, rfl, by decide, ?_⟩))
      refine r_store (i := 5) (u := 4) (w := 2) (L1 := [some ((2, 0)), some (vi p0), some (vl p1), none, some ((2, a6))]) rfl rfl rfl rfl ?_
      refine r_const (i := 6) (u := 1) (z := 1) rfl rfl ?_
      exact r_retI (i := 7) rfl ⟨1, rfl, by omega, by omega, (by exact wRM_le rm15 (by omega)), e16, e17, hI14, hF18⟩
/-- ProxyForgeLaw.call -/
theorem sp174 {G : xk} {S : yS} {d : Nat} (hI : yI S) {kR : Int} {p0 : Int} (h_p0 : -2147483648 ≤ p0 ∧ p0 ≤ 2147483647) {p1 : Int} (h_p1 : Rl p1) {p2 : Int} (h_p2 : Rl p2) {p3 : Int} (h_p3 : Rl p3) {p4 : Int} (h_p4 : Rl p4) (p_0 : wRM (kR + 1) S) (p_1 : 0 ≤ kR) (e_N23 : N23 S) (e_CR : CR S) (hd : 7 ≤ d) : yT xPr G LY xC174 0 [some ((2, 0)), some (vi p0), some (vl p1), none, some (vl p2), none, some (vl p3), none, some (vl p4), none, some ((2, 81))] [] S d (fun r S' => ∃ z : Int, r = (1, vi z) ∧ 0 ≤ z ∧ z ≤ 2 ∧ wRM kR S' ∧ hCg S S' p0 p1 p2 p3 p4 z ∧ N23 S' ∧ CR S' ∧ yI S' ∧ yFr [(26, 2), (26, 3), (29, 5)] [27, 28, 30, 81] S S') := by
  refine yT_pad 1 ?_
  show yT xPr G LY xC174 0 [some ((2, 0)), some (vi p0), some (vl p1), none, some (vl p2), none, some (vl p3), none, some (vl p4), none, some ((2, 81)), none] [] S d _
  obtain ⟨d, rfl⟩ : ∃ q, d = q + 1 := ⟨d - 1, by omega⟩
  have hF : yFr [(26, 2), (26, 3), (29, 5)] [27, 28, 30, 81] S S := yFr.refl S
  have e_RM := p_0
  refine r_load (i := 0) (u := 10) (w := 2) rfl rfl rfl ?_
  refine r_const (i := 1) (u := 0) (z := 0) rfl rfl ?_
  refine r_load (i := 2) (u := 0) (w := 2) rfl rfl rfl ?_
  refine r_load (i := 3) (u := 1) (w := 0) rfl rfl rfl ?_
  refine r_load (i := 4) (u := 2) (w := 1) rfl rfl rfl ?_
  refine r_load (i := 5) (u := 4) (w := 1) rfl rfl rfl ?_
  refine r_load (i := 6) (u := 6) (w := 1) rfl rfl rfl ?_
  refine r_load (i := 7) (u := 8) (w := 1) rfl rfl rfl ?_
  have h1 := hI.f tf22_3
  refine r_call (i := 8) (u := 786432) (v := 5) (w := 12) (b := 0) (na := 2566) (C2 := xC5) (as := [(2, 0), vi p0, vl p1, vl p2, vl p3, vl p4]) (s := [vi 0, (2, 81)]) rfl rfl rfl rfl rfl rfl rfl (sp5 (k := p0) (a := p1) (b := p2) (c := p3) (e := p4) hI ⟨by omega, by omega⟩ ⟨by omega, by omega⟩ ⟨by omega, by omega⟩ ⟨by omega, by omega⟩ ⟨by omega, by omega⟩   (by omega)) (fun r2 S3 hq4 => ?_)
  rcases hq4 with hq5 | ⟨a7, c9, rfl, hc6, rfl⟩
  · obtain ⟨z8, rfl, h9, h10, cin11, gd12, hI13, hF14, hR15⟩ := hq5
    have hF16 := hF.trans hF14 rfl rfl
    have e17 := N23x.fr e_N23 hF14 hR15 rfl rfl rfl
    have e18 := CRx.fr e_CR hF14 rfl rfl
    have e19 := wRM_rm e_RM hR15
    refine Or.inr (Or.inl ⟨rfl, ?_⟩)
    refine r_i2l (i := 9) rfl ⟨by omega, by omega⟩ ?_
    refine r_lastore (i := 10) rfl ly81 (by decide) (by omega) (by omega) ⟨by omega, by omega⟩ ?_
    have hI21 := hI13.seta0 (b := 81) (j := (0 : Int).toNat) (z := z8) rfl rfl
    have hF23 := hF16.seta (b := 81) (j := (0 : Int).toNat) (z := z8) rfl
    have e25 := N23x.seta e17 (b := 81) (j := (0 : Int).toNat) (z := z8) rfl
    have e26 := CRx.seta e18 (b := 81) (j := (0 : Int).toNat) (z := z8) rfl
    have e27 := wRM_a e19 (b := 81) (j := (0 : Int).toNat) (z := z8)
    refine yT_gen (fun S20 hS22 => ?_)
    rw [hS22] at hI21 hF23  e25 e26 e27
    refine r_goto (i := 11) (v := 15) rfl ?_
    refine r_const (i := 15) (u := 0) (z := 0) rfl rfl ?_
    exact r_retI (i := 16) rfl ⟨0, rfl, by omega, by omega, (by exact wRM_le e27 (by omega)), (by exact Or.inl ⟨rfl, cin11, by subst hS22; exact giC_81 gd12⟩), e25, e26, hI21, hF23⟩
  · obtain ⟨hI28, rm29⟩ := wRM_cost e_RM hI (by omega)
    have e30 : N23 (ycost S 1 6) := e_N23
    have e31 : CR (ycost S 1 6) := e_CR
    have hF32 : yFr [(26, 2), (26, 3), (29, 5)] [27, 28, 30, 81] S (ycost S 1 6) := hF
    obtain ⟨rfl, xphc6⟩ := hc6
    · refine Or.inr (Or.inr (Or.inl ⟨rfl, rfl, by decide, ?_⟩))
      refine r_store (i := 12) (u := 11) (w := 2) (L1 := [some ((2, 0)), some (vi p0), some (vl p1), none, some (vl p2), none, some (vl p3), none, some (vl p4), none, some ((2, 81)), some ((2, a7))]) rfl rfl rfl rfl ?_
      refine r_const (i := 13) (u := 1) (z := 1) rfl rfl ?_
      exact r_retI (i := 14) rfl ⟨1, rfl, by omega, by omega, (by exact wRM_le rm29 (by omega)), (by exact Or.inr ⟨rfl, xphc6, sG_rfl⟩), e30, e31, hI28, hF32⟩
set_option maxHeartbeats 4000000 in
theorem lp280_13 {G : xk} {d : Nat} {S0 : yS} {nS : Nat} {sc : Nat → Int} (hG : ySc G nS sc) (hn5 : nS ≤ 5120) (hd : 27 ≤ d + 1) : ∀ (n : Nat), ∀ (S : yS) (hI : yI S) (e_N23 : N23 S) (e_CR : CR S) (e_RT : RT S) (e_RMe : RMe S) (e_RS : RS S) (e_RTh : RTh S) (e_RI : RI S) (e_RK : RK S) (e_RSl : RSl S) (e_RP : RP S) (e_RSk : RSk S) (e_RG : RG S) (i : Int) (h_i : 0 ≤ i ∧ i ≤ 5120) (q_0 : wRM (5200 - i) S) (hn : 5120 - i < (n : Nat)), yT xPr G LY xC280 13 [some ((6, 0)), some ((2, 0)), some ((2, 43)), some ((2, 81)), some (vi i), none, none] [] S (d + 1) (fun r S' => ∃ z : Int, r = (1, vi z) ∧ 1 ≤ z ∧ z ≤ 1) := by
  intro n
  induction n with
  | zero => intro S hI e_N23 e_CR e_RT e_RMe e_RS e_RTh e_RI e_RK e_RSl e_RP e_RSk e_RG i h_i q_0 hn; exact absurd hn (by omega)
  | succ n ih =>
    intro S hI e_N23 e_CR e_RT e_RMe e_RS e_RTh e_RI e_RK e_RSl e_RP e_RSk e_RG i h_i q_0 hn
    refine r_load (i := 13) (u := 4) (w := 0) rfl rfl rfl ?_
    refine r_load (i := 14) (u := 0) (w := 2) rfl rfl rfl ?_
    refine r_scN (i := 15) hG rfl ?_
    refine r_const (i := 16) (u := 10) (z := 10) rfl rfl ?_
    refine r_isub (i := 17) rfl ?_
    refine c_gt (i := 18) (v := 640) rfl ⟨by omega, by omega⟩ ⟨by omega, by omega⟩ (fun h1 => ?_) (fun h2 => ?_)
    · refine r_const (i := 640) (u := 1) (z := 1) rfl rfl ?_
      exact r_retZ (i := 641) rfl (by omega) (by omega) ⟨1, rfl, by omega, by omega⟩
    · refine r_load (i := 19) (u := 0) (w := 2) rfl rfl rfl ?_
      refine r_load (i := 20) (u := 4) (w := 0) rfl rfl rfl ?_
      refine r_scA (i := 21) hG rfl (by omega) (by omega) fun h3 => ?_
      have h3 : Rg (sc i.toNat) := h3
      refine r_const (i := 22) (u := 31) (z := 31) rfl rfl ?_
      refine r_iand (i := 23) rfl ?_
      have h4 := @yand_c (sc i.toNat) 31 (by decide) (by decide)
      rcases (show (yand (sc i.toNat) 31) = 0 ∨ (yand (sc i.toNat) 31) = 1 ∨ (yand (sc i.toNat) 31) = 2 ∨ (yand (sc i.toNat) 31) = 3 ∨ (yand (sc i.toNat) 31) = 4 ∨ (yand (sc i.toNat) 31) = 5 ∨ (yand (sc i.toNat) 31) = 6 ∨ (yand (sc i.toNat) 31) = 7 ∨ (yand (sc i.toNat) 31) = 8 ∨ (yand (sc i.toNat) 31) = 9 ∨ (yand (sc i.toNat) 31) = 10 ∨ (yand (sc i.toNat) 31) = 11 ∨ (yand (sc i.toNat) 31) = 12 ∨ (yand (sc i.toNat) 31) = 13 ∨ (yand (sc i.toNat) 31) = 14 ∨ (yand (sc i.toNat) 31) = 15 ∨ (yand (sc i.toNat) 31) = 16 ∨ (yand (sc i.toNat) 31) = 17 ∨ (yand (sc i.toNat) 31) = 18 ∨ (yand (sc i.toNat) 31) = 19 ∨ (yand (sc i.toNat) 31) = 20 ∨ (yand (sc i.toNat) 31) = 21 ∨ (yand (sc i.toNat) 31) = 22 ∨ (yand (sc i.toNat) 31) = 23 ∨ (yand (sc i.toNat) 31) = 24 ∨ (yand (sc i.toNat) 31) = 25 ∨ (yand (sc i.toNat) 31) = 26 ∨ (yand (sc i.toNat) 31) = 27 ∨ (yand (sc i.toNat) 31) = 28 ∨ (yand (sc i.toNat) 31) = 29 ∨ (yand (sc i.toNat) 31) = 30 ∨ (yand (sc i.toNat) 31) = 31 by omega) with h5 | h6 | h7 | h8 | h9 | h10 | h11 | h12 | h13 | h14 | h15 | h16 | h17 | h18 | h19 | h20 | h21 | h22 | h23 | h24 | h25 | h26 | h27 | h28 | h29 | h30 | h31 | h32 | h33 | h34 | h35 | h36
      · refine r_swK (i := 24) (u := 1) (v := 638) (k := 0) (t := 25) rfl rfl h5 (by decide) (by decide) rfl ?_
        refine r_load (i := 25) (u := 1) (w := 2) rfl rfl rfl ?_
        refine r_load (i := 26) (u := 0) (w := 2) rfl rfl rfl ?_
        refine r_load (i := 27) (u := 4) (w := 0) rfl rfl rfl ?_
        refine r_const (i := 28) (u := 1) (z := 1) rfl rfl ?_
        refine r_iadd (i := 29) rfl ?_
        refine r_scA (i := 30) hG rfl (by omega) (by omega) fun h37 => ?_
        have h37 : Rg (sc (i + 1).toNat) := h37
        refine z_eq (i := 31) (v := 34) rfl ⟨by omega, by omega⟩ (fun h38 => ?_) (fun h39 => ?_)
        · refine r_const (i := 34) (u := 0) (z := 0) rfl rfl ?_
          refine r_load (i := 35) (u := 0) (w := 2) rfl rfl rfl ?_
          refine r_load (i := 36) (u := 4) (w := 0) rfl rfl rfl ?_
          refine r_const (i := 37) (u := 2) (z := 2) rfl rfl ?_
          refine r_iadd (i := 38) rfl ?_
          refine r_scA (i := 39) hG rfl (by omega) (by omega) fun h40 => ?_
          have h40 : Rg (sc (i + 2).toNat) := h40
          refine r_load (i := 40) (u := 0) (w := 2) rfl rfl rfl ?_
          refine r_load (i := 41) (u := 4) (w := 0) rfl rfl rfl ?_
          refine r_const (i := 42) (u := 3) (z := 3) rfl rfl ?_
          refine r_iadd (i := 43) rfl ?_
          refine r_scA (i := 44) hG rfl (by omega) (by omega) fun h41 => ?_
          have h41 : Rg (sc (i + 3).toNat) := h41
          refine r_load (i := 45) (u := 0) (w := 2) rfl rfl rfl ?_
          refine r_load (i := 46) (u := 4) (w := 0) rfl rfl rfl ?_
          refine r_const (i := 47) (u := 4) (z := 4) rfl rfl ?_
          refine r_iadd (i := 48) rfl ?_
          refine r_scA (i := 49) hG rfl (by omega) (by omega) fun h42 => ?_
          have h42 : Rg (sc (i + 4).toNat) := h42
          refine r_load (i := 50) (u := 3) (w := 2) rfl rfl rfl ?_
          refine r_call (i := 51) (u := 65535) (v := 179) (w := 0) (b := 2) (na := 1798) (C2 := xC179) (as := [(2, 0), vi 0, vi (sc (i + 2).toNat), vi (sc (i + 3).toNat), vi (sc (i + 4).toNat), (2, 81)]) (s := []) rfl rfl rfl rfl rfl rfl rfl (sp179 (p0 := 0) (p1 := sc (i + 2).toNat) (p2 := sc (i + 3).toNat) (p3 := sc (i + 4).toNat) (kR := 5199 - i) hI ⟨by omega, by omega⟩ ⟨by omega, by omega⟩ ⟨by omega, by omega⟩ ⟨by omega, by omega⟩ (by exact wRM_le q_0 (by omega)) (by omega) e_N23 e_CR (by omega)) (fun r43 S44 hq45 => ?_)
          obtain ⟨z46, rfl, h47, h48, rm49, ht50, c6h51, e52, e53, hI54, hF55⟩ := hq45
          have e56 := RMex.fr e_RMe hF55 rfl rfl
          have e57 := RThx.fr e_RTh hF55 rfl rfl
          have e58 := RKx.fr e_RK hF55 rfl rfl
          have e59 := RSlx.fr e_RSl hF55 rfl rfl
          have e60 := RPx.fr e_RP hF55 rfl rfl
          have e61 := RSkx.fr e_RSk hF55 rfl rfl
          have e62 := RGx.fr e_RG hF55 rfl rfl
          refine Or.inr (Or.inl ⟨rfl, ?_⟩)
          have rs9 := RS_type e_RS (hI.f tf1_7).1 (by omega) ht50 c6h51 hF55 rfl
          have ri9 := RI_type e_RI e_RS.1 (hI.f tf1_7).1 ht50 hF55 rfl
          refine r_store (i := 52) (u := 5) (w := 0) (L1 := [some ((6, 0)), some ((2, 0)), some ((2, 43)), some ((2, 81)), some (vi i), some (vi z46), none]) rfl rfl rfl rfl ?_
          refine r_load (i := 53) (u := 2) (w := 2) rfl rfl rfl ?_
          refine r_load (i := 54) (u := 0) (w := 2) rfl rfl rfl ?_
          refine r_load (i := 55) (u := 4) (w := 0) rfl rfl rfl ?_
          refine r_const (i := 56) (u := 1) (z := 1) rfl rfl ?_
          refine r_iadd (i := 57) rfl ?_
          refine r_scA (i := 58) hG rfl (by omega) (by omega) fun h63 => ?_
          have h63 : Rg (sc (i + 1).toNat) := h63
          refine z_eq (i := 59) (v := 62) rfl ⟨by omega, by omega⟩ (fun h64 => ?_) (fun h65 => absurd h65 (by omega))
          refine r_const (i := 62) (u := 0) (z := 0) rfl rfl ?_
          refine r_load (i := 63) (u := 0) (w := 2) rfl rfl rfl ?_
          refine r_load (i := 64) (u := 4) (w := 0) rfl rfl rfl ?_
          refine r_const (i := 65) (u := 2) (z := 2) rfl rfl ?_
          refine r_iadd (i := 66) rfl ?_
          refine r_scA (i := 67) hG rfl (by omega) (by omega) fun h66 => ?_
          have h66 : Rg (sc (i + 2).toNat) := h66
          refine r_load (i := 68) (u := 0) (w := 2) rfl rfl rfl ?_
          refine r_load (i := 69) (u := 4) (w := 0) rfl rfl rfl ?_
          refine r_const (i := 70) (u := 3) (z := 3) rfl rfl ?_
          refine r_iadd (i := 71) rfl ?_
          refine r_scA (i := 72) hG rfl (by omega) (by omega) fun h67 => ?_
          have h67 : Rg (sc (i + 3).toNat) := h67
          refine r_load (i := 73) (u := 0) (w := 2) rfl rfl rfl ?_
          refine r_load (i := 74) (u := 4) (w := 0) rfl rfl rfl ?_
          refine r_const (i := 75) (u := 4) (z := 4) rfl rfl ?_
          refine r_iadd (i := 76) rfl ?_
          refine r_scA (i := 77) hG rfl (by omega) (by omega) fun h68 => ?_
          have h68 : Rg (sc (i + 4).toNat) := h68
          refine r_call (i := 78) (u := 11) (v := 258) (w := 0) (b := 0) (na := 1541) (C2 := xC258) (as := [(2, 43), vi 0, vi (sc (i + 2).toNat), vi (sc (i + 3).toNat), vi (sc (i + 4).toNat)]) (s := []) rfl rfl rfl rfl rfl rfl rfl (sp258 (b := 0) (bits := sc (i + 2).toNat) (p := sc (i + 3).toNat) (up := sc (i + 4).toNat) hI54 ⟨by omega, by omega⟩ ⟨by omega, by omega⟩ ⟨by omega, by omega⟩ ⟨by omega, by omega⟩   (by omega)) (fun r69 S70 hq71 => ?_)
          obtain ⟨z72, rfl, h73, h74, mq75, hI76, hF77, hR78⟩ := hq71
          have e79 := RMex.fr e56 hF77 rfl rfl
          have e80 := RThx.fr e57 hF77 rfl rfl
          have e81 := RSlx.fr e59 hF77 rfl rfl
          have e82 := RPx.fr e60 hF77 rfl rfl
          have e83 := RSkx.fr e61 hF77 rfl rfl
          have e84 := RGx.fr e62 hF77 rfl rfl
          have e85 := N23x.fr e52 hF77 hR78 rfl rfl rfl
          have e86 := CRx.fr e53 hF77 rfl rfl
          have e87 := wRM_rm rm49 hR78
          have e88 := RSx.fr rs9 hF77 rfl rfl
          have e89 := RIx.fr ri9 hF77 rfl rfl
          refine Or.inr (Or.inl ⟨rfl, ?_⟩)
          have rt9 := (RT_type e_RT (by omega) (Int.le_trans (by decide) (hI.f tf1_7).1) ht50 hF55 rfl rfl mq75 hF77 rfl rfl).1
          have rk9 := (RT_type e_RT (by omega) (Int.le_trans (by decide) (hI.f tf1_7).1) ht50 hF55 rfl rfl mq75 hF77 rfl rfl).2.1
          have ro9 := (RT_type e_RT (by omega) (Int.le_trans (by decide) (hI.f tf1_7).1) ht50 hF55 rfl rfl mq75 hF77 rfl rfl).2.2
          have rk8 := RK_type (RKx.fr e_RK hF55 rfl rfl) mq75 hF77 rfl
          refine r_store (i := 79) (u := 6) (w := 0) (L1 := [some ((6, 0)), some ((2, 0)), some ((2, 43)), some ((2, 81)), some (vi i), some (vi z46), some (vi z72)]) rfl rfl rfl rfl ?_
          refine r_goto (i := 80) (v := 638) rfl ?_
          refine r_iinc (i := 638) (u := 10) (v := 4) (s := 10) (L1 := [some ((6, 0)), some ((2, 0)), some ((2, 43)), some ((2, 81)), some (vi (i + 10)), some (vi z46), some (vi z72)]) rfl rfl rfl rfl rfl ?_
          refine r_goto (i := 639) (v := 13) rfl ?_
          refine yT_drop (L1 := [some ((6, 0)), some ((2, 0)), some ((2, 43)), some ((2, 81)), some (vi (i + 10)), none, none]) rfl ?_
          exact ih S70 hI76 e85 e86 rt9 e79 e88 e80 e89 rk8 e81 e82 e83 e84 (i + 10) ⟨by omega, by omega⟩ (by exact wRM_le e87 (by omega)) (by omega)
        · refine r_const (i := 32) (u := 1) (z := 1) rfl rfl ?_
          refine r_goto (i := 33) (v := 35) rfl ?_
          refine r_load (i := 35) (u := 0) (w := 2) rfl rfl rfl ?_
          refine r_load (i := 36) (u := 4) (w := 0) rfl rfl rfl ?_
          refine r_const (i := 37) (u := 2) (z := 2) rfl rfl ?_
          refine r_iadd (i := 38) rfl ?_
          refine r_scA (i := 39) hG rfl (by omega) (by omega) fun h90 => ?_
          have h90 : Rg (sc (i + 2).toNat) := h90
          refine r_load (i := 40) (u := 0) (w := 2) rfl rfl rfl ?_
          refine r_load (i := 41) (u := 4) (w := 0) rfl rfl rfl ?_
          refine r_const (i := 42) (u := 3) (z := 3) rfl rfl ?_
          refine r_iadd (i := 43) rfl ?_
          refine r_scA (i := 44) hG rfl (by omega) (by omega) fun h91 => ?_
          have h91 : Rg (sc (i + 3).toNat) := h91
          refine r_load (i := 45) (u := 0) (w := 2) rfl rfl rfl ?_
          refine r_load (i := 46) (u := 4) (w := 0) rfl rfl rfl ?_
          refine r_const (i := 47) (u := 4) (z := 4) rfl rfl ?_
          refine r_iadd (i := 48) rfl ?_
          refine r_scA (i := 49) hG rfl (by omega) (by omega) fun h92 => ?_
          have h92 : Rg (sc (i + 4).toNat) := h92
          refine r_load (i := 50) (u := 3) (w := 2) rfl rfl rfl ?_
          refine r_call (i := 51) (u := 65535) (v := 179) (w := 0) (b := 2) (na := 1798) (C2 := xC179) (as := [(2, 0), vi 1, vi (sc (i + 2).toNat), vi (sc (i + 3).toNat), vi (sc (i + 4).toNat), (2, 81)]) (s := []) rfl rfl rfl rfl rfl rfl rfl (sp179 (p0 := 1) (p1 := sc (i + 2).toNat) (p2 := sc (i + 3).toNat) (p3 := sc (i + 4).toNat) (kR := 5199 - i) hI ⟨by omega, by omega⟩ ⟨by omega, by omega⟩ ⟨by omega, by omega⟩ ⟨by omega, by omega⟩ (by exact wRM_le q_0 (by omega)) (by omega) e_N23 e_CR (by omega)) (fun r93 S94 hq95 => ?_)
          obtain ⟨z96, rfl, h97, h98, rm99, ht100, c6h101, e102, e103, hI104, hF105⟩ := hq95
          have e106 := RMex.fr e_RMe hF105 rfl rfl
          have e107 := RThx.fr e_RTh hF105 rfl rfl
          have e108 := RKx.fr e_RK hF105 rfl rfl
          have e109 := RSlx.fr e_RSl hF105 rfl rfl
          have e110 := RPx.fr e_RP hF105 rfl rfl
          have e111 := RSkx.fr e_RSk hF105 rfl rfl
          have e112 := RGx.fr e_RG hF105 rfl rfl
          refine Or.inr (Or.inl ⟨rfl, ?_⟩)
          have rs9 := RS_type e_RS (hI.f tf1_7).1 (by omega) ht100 c6h101 hF105 rfl
          have ri9 := RI_type e_RI e_RS.1 (hI.f tf1_7).1 ht100 hF105 rfl
          refine r_store (i := 52) (u := 5) (w := 0) (L1 := [some ((6, 0)), some ((2, 0)), some ((2, 43)), some ((2, 81)), some (vi i), some (vi z96), none]) rfl rfl rfl rfl ?_
          refine r_load (i := 53) (u := 2) (w := 2) rfl rfl rfl ?_
          refine r_load (i := 54) (u := 0) (w := 2) rfl rfl rfl ?_
          refine r_load (i := 55) (u := 4) (w := 0) rfl rfl rfl ?_
          refine r_const (i := 56) (u := 1) (z := 1) rfl rfl ?_
          refine r_iadd (i := 57) rfl ?_
          refine r_scA (i := 58) hG rfl (by omega) (by omega) fun h113 => ?_
          have h113 : Rg (sc (i + 1).toNat) := h113
          refine z_eq (i := 59) (v := 62) rfl ⟨by omega, by omega⟩ (fun h114 => absurd h114 (by omega)) (fun h115 => ?_)
          refine r_const (i := 60) (u := 1) (z := 1) rfl rfl ?_
          refine r_goto (i := 61) (v := 63) rfl ?_
          refine r_load (i := 63) (u := 0) (w := 2) rfl rfl rfl ?_
          refine r_load (i := 64) (u := 4) (w := 0) rfl rfl rfl ?_
          refine r_const (i := 65) (u := 2) (z := 2) rfl rfl ?_
          refine r_iadd (i := 66) rfl ?_
          refine r_scA (i := 67) hG rfl (by omega) (by omega) fun h116 => ?_
          have h116 : Rg (sc (i + 2).toNat) := h116
          refine r_load (i := 68) (u := 0) (w := 2) rfl rfl rfl ?_
          refine r_load (i := 69) (u := 4) (w := 0) rfl rfl rfl ?_
          refine r_const (i := 70) (u := 3) (z := 3) rfl rfl ?_
          refine r_iadd (i := 71) rfl ?_
          refine r_scA (i := 72) hG rfl (by omega) (by omega) fun h117 => ?_
          have h117 : Rg (sc (i + 3).toNat) := h117
          refine r_load (i := 73) (u := 0) (w := 2) rfl rfl rfl ?_
          refine r_load (i := 74) (u := 4) (w := 0) rfl rfl rfl ?_
          refine r_const (i := 75) (u := 4) (z := 4) rfl rfl ?_
          refine r_iadd (i := 76) rfl ?_
          refine r_scA (i := 77) hG rfl (by omega) (by omega) fun h118 => ?_
          have h118 : Rg (sc (i + 4).toNat) := h118
          refine r_call (i := 78) (u := 11) (v := 258) (w := 0) (b := 0) (na := 1541) (C2 := xC258) (as := [(2, 43), vi 1, vi (sc (i + 2).toNat), vi (sc (i + 3).toNat), vi (sc (i + 4).toNat)]) (s := []) rfl rfl rfl rfl rfl rfl rfl (sp258 (b := 1) (bits := sc (i + 2).toNat) (p := sc (i + 3).toNat) (up := sc (i + 4).toNat) hI104 ⟨by omega, by omega⟩ ⟨by omega, by omega⟩ ⟨by omega, by omega⟩ ⟨by omega, by omega⟩   (by omega)) (fun r119 S120 hq121 => ?_)
          obtain ⟨z122, rfl, h123, h124, mq125, hI126, hF127, hR128⟩ := hq121
          have e129 := RMex.fr e106 hF127 rfl rfl
          have e130 := RThx.fr e107 hF127 rfl rfl
          have e131 := RSlx.fr e109 hF127 rfl rfl
          have e132 := RPx.fr e110 hF127 rfl rfl
          have e133 := RSkx.fr e111 hF127 rfl rfl
          have e134 := RGx.fr e112 hF127 rfl rfl
          have e135 := N23x.fr e102 hF127 hR128 rfl rfl rfl
          have e136 := CRx.fr e103 hF127 rfl rfl
          have e137 := wRM_rm rm99 hR128
          have e138 := RSx.fr rs9 hF127 rfl rfl
          have e139 := RIx.fr ri9 hF127 rfl rfl
          refine Or.inr (Or.inl ⟨rfl, ?_⟩)
          have rt9 := (RT_type e_RT (by omega) (Int.le_trans (by decide) (hI.f tf1_7).1) ht100 hF105 rfl rfl mq125 hF127 rfl rfl).1
          have rk9 := (RT_type e_RT (by omega) (Int.le_trans (by decide) (hI.f tf1_7).1) ht100 hF105 rfl rfl mq125 hF127 rfl rfl).2.1
          have ro9 := (RT_type e_RT (by omega) (Int.le_trans (by decide) (hI.f tf1_7).1) ht100 hF105 rfl rfl mq125 hF127 rfl rfl).2.2
          have rk8 := RK_type (RKx.fr e_RK hF105 rfl rfl) mq125 hF127 rfl
          refine r_store (i := 79) (u := 6) (w := 0) (L1 := [some ((6, 0)), some ((2, 0)), some ((2, 43)), some ((2, 81)), some (vi i), some (vi z96), some (vi z122)]) rfl rfl rfl rfl ?_
          refine r_goto (i := 80) (v := 638) rfl ?_
          refine r_iinc (i := 638) (u := 10) (v := 4) (s := 10) (L1 := [some ((6, 0)), some ((2, 0)), some ((2, 43)), some ((2, 81)), some (vi (i + 10)), some (vi z96), some (vi z122)]) rfl rfl rfl rfl rfl ?_
          refine r_goto (i := 639) (v := 13) rfl ?_
          refine yT_drop (L1 := [some ((6, 0)), some ((2, 0)), some ((2, 43)), some ((2, 81)), some (vi (i + 10)), none, none]) rfl ?_
          exact ih S120 hI126 e135 e136 rt9 e129 e138 e130 e139 rk8 e131 e132 e133 e134 (i + 10) ⟨by omega, by omega⟩ (by exact wRM_le e137 (by omega)) (by omega)
      · refine r_swK (i := 24) (u := 1) (v := 638) (k := 1) (t := 81) rfl rfl h6 (by decide) (by decide) rfl ?_
        refine r_load (i := 81) (u := 1) (w := 2) rfl rfl rfl ?_
        refine r_load (i := 82) (u := 0) (w := 2) rfl rfl rfl ?_
        refine r_load (i := 83) (u := 4) (w := 0) rfl rfl rfl ?_
        refine r_const (i := 84) (u := 1) (z := 1) rfl rfl ?_
        refine r_iadd (i := 85) rfl ?_
        refine r_scA (i := 86) hG rfl (by omega) (by omega) fun h140 => ?_
        have h140 : Rg (sc (i + 1).toNat) := h140
        refine r_load (i := 87) (u := 0) (w := 2) rfl rfl rfl ?_
        refine r_load (i := 88) (u := 4) (w := 0) rfl rfl rfl ?_
        refine r_const (i := 89) (u := 2) (z := 2) rfl rfl ?_
        refine r_iadd (i := 90) rfl ?_
        refine r_scA (i := 91) hG rfl (by omega) (by omega) fun h141 => ?_
        have h141 : Rg (sc (i + 2).toNat) := h141
        refine r_call (i := 92) (u := 65535) (v := 176) (w := 0) (b := 2) (na := 1027) (C2 := xC176) (as := [(2, 0), vi (sc (i + 1).toNat), vi (sc (i + 2).toNat)]) (s := []) rfl rfl rfl rfl rfl rfl rfl (sp176 (p0 := sc (i + 1).toNat) (p1 := sc (i + 2).toNat) (kR := 5199 - i) hI ⟨by omega, by omega⟩ ⟨by omega, by omega⟩ (by exact wRM_le q_0 (by omega)) (by omega) e_N23 e_CR (by omega)) (fun r142 S143 hq144 => ?_)
        obtain ⟨z145, rfl, h146, h147, rm148, him149, e150, e151, hI152, hF153⟩ := hq144
        have e154 := RTx.fr e_RT hF153 rfl rfl
        have e155 := RMex.fr e_RMe hF153 rfl rfl
        have e156 := RThx.fr e_RTh hF153 rfl rfl
        have e157 := RKx.fr e_RK hF153 rfl rfl
        have e158 := RSlx.fr e_RSl hF153 rfl rfl
        have e159 := RPx.fr e_RP hF153 rfl rfl
        have e160 := RSkx.fr e_RSk hF153 rfl rfl
        have e161 := RGx.fr e_RG hF153 rfl rfl
        refine Or.inr (Or.inl ⟨rfl, ?_⟩)
        have ri9 := RI_impl e_RI e_RS.2.2.2 (fun j => hI.a ta7 j) him149 hF153 rfl rfl
        refine r_store (i := 93) (u := 5) (w := 0) (L1 := [some ((6, 0)), some ((2, 0)), some ((2, 43)), some ((2, 81)), some (vi i), some (vi z145), none]) rfl rfl rfl rfl ?_
        refine r_load (i := 94) (u := 2) (w := 2) rfl rfl rfl ?_
        refine r_load (i := 95) (u := 0) (w := 2) rfl rfl rfl ?_
        refine r_load (i := 96) (u := 4) (w := 0) rfl rfl rfl ?_
        refine r_const (i := 97) (u := 1) (z := 1) rfl rfl ?_
        refine r_iadd (i := 98) rfl ?_
        refine r_scA (i := 99) hG rfl (by omega) (by omega) fun h162 => ?_
        have h162 : Rg (sc (i + 1).toNat) := h162
        refine r_load (i := 100) (u := 0) (w := 2) rfl rfl rfl ?_
        refine r_load (i := 101) (u := 4) (w := 0) rfl rfl rfl ?_
        refine r_const (i := 102) (u := 2) (z := 2) rfl rfl ?_
        refine r_iadd (i := 103) rfl ?_
        refine r_scA (i := 104) hG rfl (by omega) (by omega) fun h163 => ?_
        have h163 : Rg (sc (i + 2).toNat) := h163
        refine r_call (i := 105) (u := 11) (v := 206) (w := 0) (b := 0) (na := 1283) (C2 := xC206) (as := [(2, 43), vi (sc (i + 1).toNat), vi (sc (i + 2).toNat)]) (s := []) rfl rfl rfl rfl rfl rfl rfl (sp206 (t := sc (i + 1).toNat) (f := sc (i + 2).toNat) hI152 ⟨by omega, by omega⟩ ⟨by omega, by omega⟩   (by omega)) (fun r164 S165 hq166 => ?_)
        obtain ⟨rfl, mi167, hI168, hF169, hR170⟩ := hq166
        have e171 := RTx.fr e154 hF169 rfl rfl
        have e172 := RMex.fr e155 hF169 rfl rfl
        have e173 := RThx.fr e156 hF169 rfl rfl
        have e174 := RKx.fr e157 hF169 rfl rfl
        have e175 := RSlx.fr e158 hF169 rfl rfl
        have e176 := RPx.fr e159 hF169 rfl rfl
        have e177 := RSkx.fr e160 hF169 rfl rfl
        have e178 := RGx.fr e161 hF169 rfl rfl
        have e179 := N23x.fr e150 hF169 hR170 rfl rfl rfl
        have e180 := CRx.fr e151 hF169 rfl rfl
        have e181 := wRM_rm rm148 hR170
        have e182 := RIx.fr ri9 hF169 rfl rfl
        refine Or.inl ⟨rfl, ?_⟩
        have rs9 := (RS_impl e_RT e_RS hI.m3 (fun j => hI.a ta7 j) (hI.f tf1_7).2 him149 hF153 rfl rfl mi167 hF169 rfl rfl).1
        have rk9 := (RS_impl e_RT e_RS hI.m3 (fun j => hI.a ta7 j) (hI.f tf1_7).2 him149 hF153 rfl rfl mi167 hF169 rfl rfl).2
        refine r_goto (i := 106) (v := 638) rfl ?_
        refine r_iinc (i := 638) (u := 10) (v := 4) (s := 10) (L1 := [some ((6, 0)), some ((2, 0)), some ((2, 43)), some ((2, 81)), some (vi (i + 10)), some (vi z145), none]) rfl rfl rfl rfl rfl ?_
        refine r_goto (i := 639) (v := 13) rfl ?_
        refine yT_drop (L1 := [some ((6, 0)), some ((2, 0)), some ((2, 43)), some ((2, 81)), some (vi (i + 10)), none, none]) rfl ?_
        exact ih S165 hI168 e179 e180 e171 e172 rs9 e173 e182 e174 e175 e176 e177 e178 (i + 10) ⟨by omega, by omega⟩ (by exact wRM_le e181 (by omega)) (by omega)
      · refine r_swK (i := 24) (u := 1) (v := 638) (k := 2) (t := 107) rfl rfl h7 (by decide) (by decide) rfl ?_
        refine r_load (i := 107) (u := 1) (w := 2) rfl rfl rfl ?_
        refine r_load (i := 108) (u := 0) (w := 2) rfl rfl rfl ?_
        refine r_load (i := 109) (u := 4) (w := 0) rfl rfl rfl ?_
        refine r_const (i := 110) (u := 1) (z := 1) rfl rfl ?_
        refine r_iadd (i := 111) rfl ?_
        refine r_scA (i := 112) hG rfl (by omega) (by omega) fun h183 => ?_
        have h183 : Rg (sc (i + 1).toNat) := h183
        refine r_load (i := 113) (u := 0) (w := 2) rfl rfl rfl ?_
        refine r_load (i := 114) (u := 4) (w := 0) rfl rfl rfl ?_
        refine r_const (i := 115) (u := 2) (z := 2) rfl rfl ?_
        refine r_iadd (i := 116) rfl ?_
        refine r_scA (i := 117) hG rfl (by omega) (by omega) fun h184 => ?_
        have h184 : Rg (sc (i + 2).toNat) := h184
        refine r_load (i := 118) (u := 0) (w := 2) rfl rfl rfl ?_
        refine r_load (i := 119) (u := 4) (w := 0) rfl rfl rfl ?_
        refine r_const (i := 120) (u := 3) (z := 3) rfl rfl ?_
        refine r_iadd (i := 121) rfl ?_
        refine r_scA (i := 122) hG rfl (by omega) (by omega) fun h185 => ?_
        have h185 : Rg (sc (i + 3).toNat) := h185
        refine r_load (i := 123) (u := 0) (w := 2) rfl rfl rfl ?_
        refine r_load (i := 124) (u := 4) (w := 0) rfl rfl rfl ?_
        refine r_const (i := 125) (u := 4) (z := 4) rfl rfl ?_
        refine r_iadd (i := 126) rfl ?_
        refine r_scA (i := 127) hG rfl (by omega) (by omega) fun h186 => ?_
        have h186 : Rg (sc (i + 4).toNat) := h186
        refine r_load (i := 128) (u := 0) (w := 2) rfl rfl rfl ?_
        refine r_load (i := 129) (u := 4) (w := 0) rfl rfl rfl ?_
        refine r_const (i := 130) (u := 5) (z := 5) rfl rfl ?_
        refine r_iadd (i := 131) rfl ?_
        refine r_scA (i := 132) hG rfl (by omega) (by omega) fun h187 => ?_
        have h187 : Rg (sc (i + 5).toNat) := h187
        refine r_load (i := 133) (u := 3) (w := 2) rfl rfl rfl ?_
        refine r_call (i := 134) (u := 65535) (v := 177) (w := 0) (b := 2) (na := 2055) (C2 := xC177) (as := [(2, 0), vi (sc (i + 1).toNat), vi (sc (i + 2).toNat), vi (sc (i + 3).toNat), vi (sc (i + 4).toNat), vi (sc (i + 5).toNat), (2, 81)]) (s := []) rfl rfl rfl rfl rfl rfl rfl (sp177 (p0 := sc (i + 1).toNat) (p1 := sc (i + 2).toNat) (p2 := sc (i + 3).toNat) (p3 := sc (i + 4).toNat) (p4 := sc (i + 5).toNat) (kR := 5199 - i) hI ⟨by omega, by omega⟩ ⟨by omega, by omega⟩ ⟨by omega, by omega⟩ ⟨by omega, by omega⟩ ⟨by omega, by omega⟩ (by exact wRM_le q_0 (by omega)) (by omega) e_N23 e_CR (by omega)) (fun r188 S189 hq190 => ?_)
        obtain ⟨z191, rfl, h192, h193, rm194, hme195, e196, e197, hI198, hF199⟩ := hq190
        have e200 := RTx.fr e_RT hF199 rfl rfl
        have e201 := RSx.fr e_RS hF199 rfl rfl
        have e202 := RThx.fr e_RTh hF199 rfl rfl
        have e203 := RIx.fr e_RI hF199 rfl rfl
        have e204 := RKx.fr e_RK hF199 rfl rfl
        have e205 := RSlx.fr e_RSl hF199 rfl rfl
        have e206 := RPx.fr e_RP hF199 rfl rfl
        have e207 := RSkx.fr e_RSk hF199 rfl rfl
        have e208 := RGx.fr e_RG hF199 rfl rfl
        refine Or.inr (Or.inl ⟨rfl, ?_⟩)
        refine r_store (i := 135) (u := 5) (w := 0) (L1 := [some ((6, 0)), some ((2, 0)), some ((2, 43)), some ((2, 81)), some (vi i), some (vi z191), none]) rfl rfl rfl rfl ?_
        refine r_load (i := 136) (u := 2) (w := 2) rfl rfl rfl ?_
        refine r_load (i := 137) (u := 0) (w := 2) rfl rfl rfl ?_
        refine r_load (i := 138) (u := 4) (w := 0) rfl rfl rfl ?_
        refine r_const (i := 139) (u := 1) (z := 1) rfl rfl ?_
        refine r_iadd (i := 140) rfl ?_
        refine r_scA (i := 141) hG rfl (by omega) (by omega) fun h209 => ?_
        have h209 : Rg (sc (i + 1).toNat) := h209
        refine r_load (i := 142) (u := 0) (w := 2) rfl rfl rfl ?_
        refine r_load (i := 143) (u := 4) (w := 0) rfl rfl rfl ?_
        refine r_const (i := 144) (u := 2) (z := 2) rfl rfl ?_
        refine r_iadd (i := 145) rfl ?_
        refine r_scA (i := 146) hG rfl (by omega) (by omega) fun h210 => ?_
        have h210 : Rg (sc (i + 2).toNat) := h210
        refine r_load (i := 147) (u := 0) (w := 2) rfl rfl rfl ?_
        refine r_load (i := 148) (u := 4) (w := 0) rfl rfl rfl ?_
        refine r_const (i := 149) (u := 3) (z := 3) rfl rfl ?_
        refine r_iadd (i := 150) rfl ?_
        refine r_scA (i := 151) hG rfl (by omega) (by omega) fun h211 => ?_
        have h211 : Rg (sc (i + 3).toNat) := h211
        refine r_load (i := 152) (u := 0) (w := 2) rfl rfl rfl ?_
        refine r_load (i := 153) (u := 4) (w := 0) rfl rfl rfl ?_
        refine r_const (i := 154) (u := 4) (z := 4) rfl rfl ?_
        refine r_iadd (i := 155) rfl ?_
        refine r_scA (i := 156) hG rfl (by omega) (by omega) fun h212 => ?_
        have h212 : Rg (sc (i + 4).toNat) := h212
        refine r_load (i := 157) (u := 0) (w := 2) rfl rfl rfl ?_
        refine r_load (i := 158) (u := 4) (w := 0) rfl rfl rfl ?_
        refine r_const (i := 159) (u := 5) (z := 5) rfl rfl ?_
        refine r_iadd (i := 160) rfl ?_
        refine r_scA (i := 161) hG rfl (by omega) (by omega) fun h213 => ?_
        have h213 : Rg (sc (i + 5).toNat) := h213
        refine r_call (i := 162) (u := 11) (v := 220) (w := 0) (b := 0) (na := 1542) (C2 := xC220) (as := [(2, 43), vi (sc (i + 1).toNat), vi (sc (i + 2).toNat), vi (sc (i + 3).toNat), vi (sc (i + 4).toNat), vi (sc (i + 5).toNat)]) (s := []) rfl rfl rfl rfl rfl rfl rfl (sp220 (t := sc (i + 1).toNat) (w0 := sc (i + 2).toNat) (bits := sc (i + 3).toNat) (al := sc (i + 4).toNat) (back := sc (i + 5).toNat) hI198 ⟨by omega, by omega⟩ ⟨by omega, by omega⟩ ⟨by omega, by omega⟩ ⟨by omega, by omega⟩ ⟨by omega, by omega⟩  e197 (by omega)) (fun r214 S215 hq216 => ?_)
        obtain ⟨z217, rfl, h218, h219, mq220, e221, hI222, hF223, hR224⟩ := hq216
        have e225 := RTx.fr e200 hF223 rfl rfl
        have e226 := RSx.fr e201 hF223 rfl rfl
        have e227 := RThx.fr e202 hF223 rfl rfl
        have e228 := RIx.fr e203 hF223 rfl rfl
        have e229 := RSlx.fr e205 hF223 rfl rfl
        have e230 := RPx.fr e206 hF223 rfl rfl
        have e231 := RSkx.fr e207 hF223 rfl rfl
        have e232 := RGx.fr e208 hF223 rfl rfl
        have e233 := N23x.fr e196 hF223 hR224 rfl rfl rfl
        have e234 := wRM_rm rm194 hR224
        refine Or.inr (Or.inl ⟨rfl, ?_⟩)
        have rm9 := (RMe_method e_RT e_RMe hme195 hF199 rfl rfl mq220 hF223 rfl rfl).1
        have rk9 := (RMe_method e_RT e_RMe hme195 hF199 rfl rfl mq220 hF223 rfl rfl).2.1
        have ro9 := (RMe_method e_RT e_RMe hme195 hF199 rfl rfl mq220 hF223 rfl rfl).2.2
        have rk8 := RK_meth (RKx.fr e_RK hF199 rfl rfl) (Int.le_trans (hI.f tf43_1).1 (Int.le_of_eq (hF199.f rfl).symm)) mq220 hF223 rfl
        refine r_store (i := 163) (u := 6) (w := 0) (L1 := [some ((6, 0)), some ((2, 0)), some ((2, 43)), some ((2, 81)), some (vi i), some (vi z191), some (vi z217)]) rfl rfl rfl rfl ?_
        refine r_goto (i := 164) (v := 638) rfl ?_
        refine r_iinc (i := 638) (u := 10) (v := 4) (s := 10) (L1 := [some ((6, 0)), some ((2, 0)), some ((2, 43)), some ((2, 81)), some (vi (i + 10)), some (vi z191), some (vi z217)]) rfl rfl rfl rfl rfl ?_
        refine r_goto (i := 639) (v := 13) rfl ?_
        refine yT_drop (L1 := [some ((6, 0)), some ((2, 0)), some ((2, 43)), some ((2, 81)), some (vi (i + 10)), none, none]) rfl ?_
        exact ih S215 hI222 e233 e221 e225 rm9 e226 e227 e228 rk8 e229 e230 e231 e232 (i + 10) ⟨by omega, by omega⟩ (by exact wRM_le e234 (by omega)) (by omega)
      · refine r_swK (i := 24) (u := 1) (v := 638) (k := 3) (t := 165) rfl rfl h8 (by decide) (by decide) rfl ?_
        refine r_load (i := 165) (u := 1) (w := 2) rfl rfl rfl ?_
        refine r_load (i := 166) (u := 0) (w := 2) rfl rfl rfl ?_
        refine r_load (i := 167) (u := 4) (w := 0) rfl rfl rfl ?_
        refine r_const (i := 168) (u := 1) (z := 1) rfl rfl ?_
        refine r_iadd (i := 169) rfl ?_
        refine r_scA (i := 170) hG rfl (by omega) (by omega) fun h235 => ?_
        have h235 : Rg (sc (i + 1).toNat) := h235
        refine r_load (i := 171) (u := 0) (w := 2) rfl rfl rfl ?_
        refine r_load (i := 172) (u := 4) (w := 0) rfl rfl rfl ?_
        refine r_const (i := 173) (u := 2) (z := 2) rfl rfl ?_
        refine r_iadd (i := 174) rfl ?_
        refine r_scA (i := 175) hG rfl (by omega) (by omega) fun h236 => ?_
        have h236 : Rg (sc (i + 2).toNat) := h236
        refine r_call (i := 176) (u := 65535) (v := 178) (w := 0) (b := 2) (na := 1027) (C2 := xC178) (as := [(2, 0), vi (sc (i + 1).toNat), vi (sc (i + 2).toNat)]) (s := []) rfl rfl rfl rfl rfl rfl rfl (sp178 (p0 := sc (i + 1).toNat) (p1 := sc (i + 2).toNat) (kR := 5199 - i) hI ⟨by omega, by omega⟩ ⟨by omega, by omega⟩ (by exact wRM_le q_0 (by omega)) (by omega) e_N23 e_CR (by omega)) (fun r237 S238 hq239 => ?_)
        obtain ⟨z240, rfl, h241, h242, rm243, hth244, e245, e246, hI247, hF248⟩ := hq239
        have e249 := RTx.fr e_RT hF248 rfl rfl
        have e250 := RMex.fr e_RMe hF248 rfl rfl
        have e251 := RSx.fr e_RS hF248 rfl rfl
        have e252 := RIx.fr e_RI hF248 rfl rfl
        have e253 := RKx.fr e_RK hF248 rfl rfl
        have e254 := RSlx.fr e_RSl hF248 rfl rfl
        have e255 := RPx.fr e_RP hF248 rfl rfl
        have e256 := RSkx.fr e_RSk hF248 rfl rfl
        have e257 := RGx.fr e_RG hF248 rfl rfl
        refine Or.inr (Or.inl ⟨rfl, ?_⟩)
        refine r_store (i := 177) (u := 5) (w := 0) (L1 := [some ((6, 0)), some ((2, 0)), some ((2, 43)), some ((2, 81)), some (vi i), some (vi z240), none]) rfl rfl rfl rfl ?_
        refine r_load (i := 178) (u := 2) (w := 2) rfl rfl rfl ?_
        refine r_load (i := 179) (u := 0) (w := 2) rfl rfl rfl ?_
        refine r_load (i := 180) (u := 4) (w := 0) rfl rfl rfl ?_
        refine r_const (i := 181) (u := 1) (z := 1) rfl rfl ?_
        refine r_iadd (i := 182) rfl ?_
        refine r_scA (i := 183) hG rfl (by omega) (by omega) fun h258 => ?_
        have h258 : Rg (sc (i + 1).toNat) := h258
        refine r_load (i := 184) (u := 0) (w := 2) rfl rfl rfl ?_
        refine r_load (i := 185) (u := 4) (w := 0) rfl rfl rfl ?_
        refine r_const (i := 186) (u := 2) (z := 2) rfl rfl ?_
        refine r_iadd (i := 187) rfl ?_
        refine r_scA (i := 188) hG rfl (by omega) (by omega) fun h259 => ?_
        have h259 : Rg (sc (i + 2).toNat) := h259
        refine r_call (i := 189) (u := 11) (v := 255) (w := 0) (b := 0) (na := 1283) (C2 := xC255) (as := [(2, 43), vi (sc (i + 1).toNat), vi (sc (i + 2).toNat)]) (s := []) rfl rfl rfl rfl rfl rfl rfl (sp255 (m := sc (i + 1).toNat) (t := sc (i + 2).toNat) hI247 ⟨by omega, by omega⟩ ⟨by omega, by omega⟩   (by omega)) (fun r260 S261 hq262 => ?_)
        obtain ⟨rfl, mt263, hI264, hF265, hR266⟩ := hq262
        have e267 := RTx.fr e249 hF265 rfl rfl
        have e268 := RMex.fr e250 hF265 rfl rfl
        have e269 := RSx.fr e251 hF265 rfl rfl
        have e270 := RIx.fr e252 hF265 rfl rfl
        have e271 := RKx.fr e253 hF265 rfl rfl
        have e272 := RSlx.fr e254 hF265 rfl rfl
        have e273 := RPx.fr e255 hF265 rfl rfl
        have e274 := RGx.fr e257 hF265 rfl rfl
        have e275 := N23x.fr e245 hF265 hR266 rfl rfl rfl
        have e276 := CRx.fr e246 hF265 rfl rfl
        have e277 := wRM_rm rm243 hR266
        refine Or.inl ⟨rfl, ?_⟩
        have rt9 := (RTh_thr e_RT e_RS e_RMe e_RTh hI.m3 hth244 hF248 rfl rfl mt263 hF265 rfl).1
        have rk9 := (RTh_thr e_RT e_RS e_RMe e_RTh hI.m3 hth244 hF248 rfl rfl mt263 hF265 rfl).2
        have rs9 := RSk_thr e_RSk (fun j => (hI.a ta60 j).1) (fun j => hI.a ta58 j) hF248 rfl rfl (FM_of e_RT e_RS hI.m3 (hF248.f rfl) (hF248.a rfl) (hF248.a rfl) (hF248.a rfl)) mt263 hF265 rfl rfl
        refine r_goto (i := 190) (v := 638) rfl ?_
        refine r_iinc (i := 638) (u := 10) (v := 4) (s := 10) (L1 := [some ((6, 0)), some ((2, 0)), some ((2, 43)), some ((2, 81)), some (vi (i + 10)), some (vi z240), none]) rfl rfl rfl rfl rfl ?_
        refine r_goto (i := 639) (v := 13) rfl ?_
        refine yT_drop (L1 := [some ((6, 0)), some ((2, 0)), some ((2, 43)), some ((2, 81)), some (vi (i + 10)), none, none]) rfl ?_
        exact ih S261 hI264 e275 e276 e267 e268 e269 rt9 e270 e271 e272 e273 rs9 e274 (i + 10) ⟨by omega, by omega⟩ (by exact wRM_le e277 (by omega)) (by omega)
      · refine r_swK (i := 24) (u := 1) (v := 638) (k := 4) (t := 191) rfl rfl h9 (by decide) (by decide) rfl ?_
        refine r_load (i := 191) (u := 1) (w := 2) rfl rfl rfl ?_
        refine r_load (i := 192) (u := 0) (w := 2) rfl rfl rfl ?_
        refine r_load (i := 193) (u := 4) (w := 0) rfl rfl rfl ?_
        refine r_const (i := 194) (u := 1) (z := 1) rfl rfl ?_
        refine r_iadd (i := 195) rfl ?_
        refine r_scA (i := 196) hG rfl (by omega) (by omega) fun h278 => ?_
        have h278 : Rg (sc (i + 1).toNat) := h278
        refine r_load (i := 197) (u := 0) (w := 2) rfl rfl rfl ?_
        refine r_load (i := 198) (u := 4) (w := 0) rfl rfl rfl ?_
        refine r_const (i := 199) (u := 2) (z := 2) rfl rfl ?_
        refine r_iadd (i := 200) rfl ?_
        refine r_scA (i := 201) hG rfl (by omega) (by omega) fun h279 => ?_
        have h279 : Rg (sc (i + 2).toNat) := h279
        have h280 := hI.f tf1_7
        refine r_call (i := 202) (u := 0) (v := 12) (w := 0) (b := 0) (na := 771) (C2 := xC12) (as := [(2, 0), vi (sc (i + 1).toNat), vi (sc (i + 2).toNat)]) (s := []) rfl rfl rfl rfl rfl rfl rfl (sp12 (t := sc (i + 1).toNat) (o := sc (i + 2).toNat) hI ⟨by omega, by omega⟩ ⟨by omega, by omega⟩   (by omega)) (fun r281 S282 hq283 => ?_)
        obtain ⟨z284, rfl, h285, h286, cs287, rfl⟩ := hq283
        refine Or.inr (Or.inl ⟨rfl, ?_⟩)
        refine r_pop (i := 203) rfl rfl ?_
        refine r_load (i := 204) (u := 2) (w := 2) rfl rfl rfl ?_
        refine r_load (i := 205) (u := 0) (w := 2) rfl rfl rfl ?_
        refine r_load (i := 206) (u := 4) (w := 0) rfl rfl rfl ?_
        refine r_const (i := 207) (u := 1) (z := 1) rfl rfl ?_
        refine r_iadd (i := 208) rfl ?_
        refine r_scA (i := 209) hG rfl (by omega) (by omega) fun h288 => ?_
        have h288 : Rg (sc (i + 1).toNat) := h288
        refine r_load (i := 210) (u := 0) (w := 2) rfl rfl rfl ?_
        refine r_load (i := 211) (u := 4) (w := 0) rfl rfl rfl ?_
        refine r_const (i := 212) (u := 2) (z := 2) rfl rfl ?_
        refine r_iadd (i := 213) rfl ?_
        refine r_scA (i := 214) hG rfl (by omega) (by omega) fun h289 => ?_
        have h289 : Rg (sc (i + 2).toNat) := h289
        have h290 := hI.f tf43_1
        refine r_call (i := 215) (u := 11) (v := 211) (w := 0) (b := 0) (na := 771) (C2 := xC211) (as := [(2, 43), vi (sc (i + 1).toNat), vi (sc (i + 2).toNat)]) (s := []) rfl rfl rfl rfl rfl rfl rfl (sp211 (t := sc (i + 1).toNat) (o := sc (i + 2).toNat) hI ⟨by omega, by omega⟩ ⟨by omega, by omega⟩   (by omega)) (fun r291 S292 hq293 => ?_)
        obtain ⟨z294, rfl, h295, h296, ms297, hI298, hF299, hR300⟩ := hq293
        have e301 := N23x.fr e_N23 hF299 hR300 rfl rfl rfl
        have e302 := CRx.fr e_CR hF299 rfl rfl
        have e303 := RTx.fr e_RT hF299 rfl rfl
        have e304 := RMex.fr e_RMe hF299 rfl rfl
        have e305 := RSx.fr e_RS hF299 rfl rfl
        have e306 := RThx.fr e_RTh hF299 rfl rfl
        have e307 := RIx.fr e_RI hF299 rfl rfl
        have e308 := RKx.fr e_RK hF299 rfl rfl
        have e309 := RSlx.fr e_RSl hF299 rfl rfl
        have e310 := RPx.fr e_RP hF299 rfl rfl
        have e311 := RSkx.fr e_RSk hF299 rfl rfl
        have e312 := RGx.fr e_RG hF299 rfl rfl
        have e313 := wRM_rm q_0 hR300
        refine Or.inr (Or.inl ⟨rfl, ?_⟩)
        have eq9 := RS_sub e_RT e_RS hI.m3 (hI.f tf1_7).2 cs287 ms297 rfl (fun _ => rfl) (fun _ => rfl) (fun _ => rfl)
        refine r_pop (i := 216) rfl rfl ?_
        refine r_goto (i := 217) (v := 638) rfl ?_
        refine r_iinc (i := 638) (u := 10) (v := 4) (s := 10) (L1 := [some ((6, 0)), some ((2, 0)), some ((2, 43)), some ((2, 81)), some (vi (i + 10)), none, none]) rfl rfl rfl rfl rfl ?_
        refine r_goto (i := 639) (v := 13) rfl ?_
        exact ih S292 hI298 e301 e302 e303 e304 e305 e306 e307 e308 e309 e310 e311 e312 (i + 10) ⟨by omega, by omega⟩ (by exact wRM_le e313 (by omega)) (by omega)
      · refine r_swK (i := 24) (u := 1) (v := 638) (k := 5) (t := 218) rfl rfl h10 (by decide) (by decide) rfl ?_
        refine r_load (i := 218) (u := 1) (w := 2) rfl rfl rfl ?_
        refine r_load (i := 219) (u := 0) (w := 2) rfl rfl rfl ?_
        refine r_load (i := 220) (u := 4) (w := 0) rfl rfl rfl ?_
        refine r_const (i := 221) (u := 1) (z := 1) rfl rfl ?_
        refine r_iadd (i := 222) rfl ?_
        refine r_scA (i := 223) hG rfl (by omega) (by omega) fun h314 => ?_
        have h314 : Rg (sc (i + 1).toNat) := h314
        refine r_load (i := 224) (u := 0) (w := 2) rfl rfl rfl ?_
        refine r_load (i := 225) (u := 4) (w := 0) rfl rfl rfl ?_
        refine r_const (i := 226) (u := 2) (z := 2) rfl rfl ?_
        refine r_iadd (i := 227) rfl ?_
        refine r_scA (i := 228) hG rfl (by omega) (by omega) fun h315 => ?_
        have h315 : Rg (sc (i + 2).toNat) := h315
        refine r_call (i := 229) (u := 0) (v := 14) (w := 0) (b := 0) (na := 771) (C2 := xC14) (as := [(2, 0), vi (sc (i + 1).toNat), vi (sc (i + 2).toNat)]) (s := []) rfl rfl rfl rfl rfl rfl rfl (sp14 (w0 := sc (i + 1).toNat) (k := sc (i + 2).toNat) hI ⟨by omega, by omega⟩ ⟨by omega, by omega⟩   (by omega)) (fun r316 S317 hq318 => ?_)
        obtain ⟨z319, rfl, h320, h321, h322, pl323, hI324, hF325, hR326⟩ := hq318
        have e327 := N23x.fr e_N23 hF325 hR326 rfl rfl rfl
        have e328 := CRx.fr e_CR hF325 rfl rfl
        have e329 := RTx.fr e_RT hF325 rfl rfl
        have e330 := RMex.fr e_RMe hF325 rfl rfl
        have e331 := RSx.fr e_RS hF325 rfl rfl
        have e332 := RThx.fr e_RTh hF325 rfl rfl
        have e333 := RIx.fr e_RI hF325 rfl rfl
        have e334 := RKx.fr e_RK hF325 rfl rfl
        have e335 := RSlx.fr e_RSl hF325 rfl rfl
        have e336 := RSkx.fr e_RSk hF325 rfl rfl
        have e337 := RGx.fr e_RG hF325 rfl rfl
        have e338 := wRM_rm q_0 hR326
        refine Or.inr (Or.inl ⟨rfl, ?_⟩)
        refine r_pop (i := 230) rfl rfl ?_
        refine r_load (i := 231) (u := 2) (w := 2) rfl rfl rfl ?_
        refine r_load (i := 232) (u := 0) (w := 2) rfl rfl rfl ?_
        refine r_load (i := 233) (u := 4) (w := 0) rfl rfl rfl ?_
        refine r_const (i := 234) (u := 1) (z := 1) rfl rfl ?_
        refine r_iadd (i := 235) rfl ?_
        refine r_scA (i := 236) hG rfl (by omega) (by omega) fun h339 => ?_
        have h339 : Rg (sc (i + 1).toNat) := h339
        refine r_load (i := 237) (u := 0) (w := 2) rfl rfl rfl ?_
        refine r_load (i := 238) (u := 4) (w := 0) rfl rfl rfl ?_
        refine r_const (i := 239) (u := 2) (z := 2) rfl rfl ?_
        refine r_iadd (i := 240) rfl ?_
        refine r_scA (i := 241) hG rfl (by omega) (by omega) fun h340 => ?_
        have h340 : Rg (sc (i + 2).toNat) := h340
        refine r_call (i := 242) (u := 11) (v := 232) (w := 0) (b := 0) (na := 771) (C2 := xC232) (as := [(2, 43), vi (sc (i + 1).toNat), vi (sc (i + 2).toNat)]) (s := []) rfl rfl rfl rfl rfl rfl rfl (sp232 (w0 := sc (i + 1).toNat) (k := sc (i + 2).toNat) hI324 ⟨by omega, by omega⟩ ⟨by omega, by omega⟩   (by omega)) (fun r341 S342 hq343 => ?_)
        obtain ⟨z344, rfl, h345, h346, h347, pl348, hI349, hF350, hR351⟩ := hq343
        have e352 := N23x.fr e327 hF350 hR351 rfl rfl rfl
        have e353 := CRx.fr e328 hF350 rfl rfl
        have e354 := RTx.fr e329 hF350 rfl rfl
        have e355 := RMex.fr e330 hF350 rfl rfl
        have e356 := RSx.fr e331 hF350 rfl rfl
        have e357 := RThx.fr e332 hF350 rfl rfl
        have e358 := RIx.fr e333 hF350 rfl rfl
        have e359 := RKx.fr e334 hF350 rfl rfl
        have e360 := RSlx.fr e335 hF350 rfl rfl
        have e361 := RSkx.fr e336 hF350 rfl rfl
        have e362 := RGx.fr e337 hF350 rfl rfl
        have e363 := wRM_rm e338 hR351
        refine Or.inr (Or.inl ⟨rfl, ?_⟩)
        have rp9 := RP_pol e_RP pl323 hF325 rfl pl348 hF350 rfl (by omega)
        refine r_pop (i := 243) rfl rfl ?_
        refine r_goto (i := 244) (v := 638) rfl ?_
        refine r_iinc (i := 638) (u := 10) (v := 4) (s := 10) (L1 := [some ((6, 0)), some ((2, 0)), some ((2, 43)), some ((2, 81)), some (vi (i + 10)), none, none]) rfl rfl rfl rfl rfl ?_
        refine r_goto (i := 639) (v := 13) rfl ?_
        exact ih S342 hI349 e352 e353 e354 e355 e356 e357 e358 e359 e360 rp9 e361 e362 (i + 10) ⟨by omega, by omega⟩ (by exact wRM_le e363 (by omega)) (by omega)
      · refine r_swK (i := 24) (u := 1) (v := 638) (k := 6) (t := 245) rfl rfl h11 (by decide) (by decide) rfl ?_
        refine r_load (i := 245) (u := 1) (w := 2) rfl rfl rfl ?_
        refine r_load (i := 246) (u := 0) (w := 2) rfl rfl rfl ?_
        refine r_load (i := 247) (u := 4) (w := 0) rfl rfl rfl ?_
        refine r_const (i := 248) (u := 1) (z := 1) rfl rfl ?_
        refine r_iadd (i := 249) rfl ?_
        refine r_scA (i := 250) hG rfl (by omega) (by omega) fun h364 => ?_
        have h364 : Rg (sc (i + 1).toNat) := h364
        refine r_load (i := 251) (u := 0) (w := 2) rfl rfl rfl ?_
        refine r_load (i := 252) (u := 4) (w := 0) rfl rfl rfl ?_
        refine r_const (i := 253) (u := 2) (z := 2) rfl rfl ?_
        refine r_iadd (i := 254) rfl ?_
        refine r_scA (i := 255) hG rfl (by omega) (by omega) fun h365 => ?_
        have h365 : Rg (sc (i + 2).toNat) := h365
        refine r_load (i := 256) (u := 0) (w := 2) rfl rfl rfl ?_
        refine r_load (i := 257) (u := 4) (w := 0) rfl rfl rfl ?_
        refine r_const (i := 258) (u := 3) (z := 3) rfl rfl ?_
        refine r_iadd (i := 259) rfl ?_
        refine r_scA (i := 260) hG rfl (by omega) (by omega) fun h366 => ?_
        have h366 : Rg (sc (i + 3).toNat) := h366
        refine r_load (i := 261) (u := 0) (w := 2) rfl rfl rfl ?_
        refine r_load (i := 262) (u := 4) (w := 0) rfl rfl rfl ?_
        refine r_const (i := 263) (u := 4) (z := 4) rfl rfl ?_
        refine r_iadd (i := 264) rfl ?_
        refine r_scA (i := 265) hG rfl (by omega) (by omega) fun h367 => ?_
        have h367 : Rg (sc (i + 4).toNat) := h367
        refine r_load (i := 266) (u := 3) (w := 2) rfl rfl rfl ?_
        refine r_call (i := 267) (u := 65535) (v := 175) (w := 0) (b := 2) (na := 1798) (C2 := xC175) (as := [(2, 0), vi (sc (i + 1).toNat), vi (sc (i + 2).toNat), vi (sc (i + 3).toNat), vi (sc (i + 4).toNat), (2, 81)]) (s := []) rfl rfl rfl rfl rfl rfl rfl (sp175 (p0 := sc (i + 1).toNat) (p1 := sc (i + 2).toNat) (p2 := sc (i + 3).toNat) (p3 := sc (i + 4).toNat) (kR := 5199 - i) hI ⟨by omega, by omega⟩ ⟨by omega, by omega⟩ ⟨by omega, by omega⟩ ⟨by omega, by omega⟩ (by exact wRM_le q_0 (by omega)) (by omega) e_N23 e_CR (by omega)) (fun r368 S369 hq370 => ?_)
        obtain ⟨z371, rfl, h372, h373, rm374, hfo375, e376, e377, hI378, hF379⟩ := hq370
        have e380 := RTx.fr e_RT hF379 rfl rfl
        have e381 := RMex.fr e_RMe hF379 rfl rfl
        have e382 := RSx.fr e_RS hF379 rfl rfl
        have e383 := RThx.fr e_RTh hF379 rfl rfl
        have e384 := RIx.fr e_RI hF379 rfl rfl
        have e385 := RKx.fr e_RK hF379 rfl rfl
        have e386 := RPx.fr e_RP hF379 rfl rfl
        have e387 := RGx.fr e_RG hF379 rfl rfl
        refine Or.inr (Or.inl ⟨rfl, ?_⟩)
        refine r_store (i := 268) (u := 5) (w := 0) (L1 := [some ((6, 0)), some ((2, 0)), some ((2, 43)), some ((2, 81)), some (vi i), some (vi z371), none]) rfl rfl rfl rfl ?_
        refine r_load (i := 269) (u := 2) (w := 2) rfl rfl rfl ?_
        refine r_load (i := 270) (u := 0) (w := 2) rfl rfl rfl ?_
        refine r_load (i := 271) (u := 4) (w := 0) rfl rfl rfl ?_
        refine r_const (i := 272) (u := 1) (z := 1) rfl rfl ?_
        refine r_iadd (i := 273) rfl ?_
        refine r_scA (i := 274) hG rfl (by omega) (by omega) fun h388 => ?_
        have h388 : Rg (sc (i + 1).toNat) := h388
        refine r_load (i := 275) (u := 0) (w := 2) rfl rfl rfl ?_
        refine r_load (i := 276) (u := 4) (w := 0) rfl rfl rfl ?_
        refine r_const (i := 277) (u := 2) (z := 2) rfl rfl ?_
        refine r_iadd (i := 278) rfl ?_
        refine r_scA (i := 279) hG rfl (by omega) (by omega) fun h389 => ?_
        have h389 : Rg (sc (i + 2).toNat) := h389
        refine r_load (i := 280) (u := 0) (w := 2) rfl rfl rfl ?_
        refine r_load (i := 281) (u := 4) (w := 0) rfl rfl rfl ?_
        refine r_const (i := 282) (u := 3) (z := 3) rfl rfl ?_
        refine r_iadd (i := 283) rfl ?_
        refine r_scA (i := 284) hG rfl (by omega) (by omega) fun h390 => ?_
        have h390 : Rg (sc (i + 3).toNat) := h390
        refine r_load (i := 285) (u := 0) (w := 2) rfl rfl rfl ?_
        refine r_load (i := 286) (u := 4) (w := 0) rfl rfl rfl ?_
        refine r_const (i := 287) (u := 4) (z := 4) rfl rfl ?_
        refine r_iadd (i := 288) rfl ?_
        refine r_scA (i := 289) hG rfl (by omega) (by omega) fun h391 => ?_
        have h391 : Rg (sc (i + 4).toNat) := h391
        refine r_call (i := 290) (u := 11) (v := 203) (w := 0) (b := 0) (na := 2565) (C2 := xC203) (as := [(2, 43), vi (sc (i + 1).toNat), vi (sc (i + 2).toNat), vi (sc (i + 3).toNat), vi (sc (i + 4).toNat)]) (s := []) rfl rfl rfl rfl rfl rfl rfl (sp203 (c := sc (i + 1).toNat) (a := sc (i + 2).toNat) (b := sc (i + 3).toNat) (e := sc (i + 4).toNat) hI378 ⟨by omega, by omega⟩ ⟨by omega, by omega⟩ ⟨by omega, by omega⟩ ⟨by omega, by omega⟩  e377 (by omega)) (fun r392 S393 hq394 => ?_)
        obtain ⟨z395, rfl, h396, h397, mf398, mkq399, e400, hI401, hF402, hR403⟩ := hq394
        have e404 := RTx.fr e380 hF402 rfl rfl
        have e405 := RMex.fr e381 hF402 rfl rfl
        have e406 := RSx.fr e382 hF402 rfl rfl
        have e407 := RThx.fr e383 hF402 rfl rfl
        have e408 := RIx.fr e384 hF402 rfl rfl
        have e409 := RKx.fr e385 hF402 rfl rfl
        have e410 := RPx.fr e386 hF402 rfl rfl
        have e411 := RGx.fr e387 hF402 rfl rfl
        have e412 := N23x.fr e376 hF402 hR403 rfl rfl rfl
        have e413 := wRM_rm rm374 hR403
        refine Or.inr (Or.inl ⟨rfl, ?_⟩)
        have rs9 := (FX_eq e_RT e_RS e_RMe e_RI e_RK hI.m3 (hI.f tf1_7).2 hfo375 (sMa_fr hF379 rfl rfl) mf398 e_RSl (sSm_fr hF379 rfl rfl) (sSl_fr hF402 rfl rfl) (hI401.f tf43_20).1).2.2
        have rk9 := (FX_eq e_RT e_RS e_RMe e_RI e_RK hI.m3 (hI.f tf1_7).2 hfo375 (sMa_fr hF379 rfl rfl) mf398 e_RSl (sSm_fr hF379 rfl rfl) (sSl_fr hF402 rfl rfl) (hI401.f tf43_20).1).1
        have ro9 := (FX_eq e_RT e_RS e_RMe e_RI e_RK hI.m3 (hI.f tf1_7).2 hfo375 (sMa_fr hF379 rfl rfl) mf398 e_RSl (sSm_fr hF379 rfl rfl) (sSl_fr hF402 rfl rfl) (hI401.f tf43_20).1).2.1
        have rs8 := RSk_forge e_RSk hfo375 hF379 rfl mf398 mkq399 hF402 rfl rfl rk9 ro9 rs9 e410 e405 e407
        refine r_store (i := 291) (u := 6) (w := 0) (L1 := [some ((6, 0)), some ((2, 0)), some ((2, 43)), some ((2, 81)), some (vi i), some (vi z371), some (vi z395)]) rfl rfl rfl rfl ?_
        refine r_goto (i := 292) (v := 638) rfl ?_
        refine r_iinc (i := 638) (u := 10) (v := 4) (s := 10) (L1 := [some ((6, 0)), some ((2, 0)), some ((2, 43)), some ((2, 81)), some (vi (i + 10)), some (vi z371), some (vi z395)]) rfl rfl rfl rfl rfl ?_
        refine r_goto (i := 639) (v := 13) rfl ?_
        refine yT_drop (L1 := [some ((6, 0)), some ((2, 0)), some ((2, 43)), some ((2, 81)), some (vi (i + 10)), none, none]) rfl ?_
        exact ih S393 hI401 e412 e400 e404 e405 e406 e407 e408 e409 rs9 e410 rs8 e411 (i + 10) ⟨by omega, by omega⟩ (by exact wRM_le e413 (by omega)) (by omega)
      · refine r_swK (i := 24) (u := 1) (v := 638) (k := 7) (t := 293) rfl rfl h12 (by decide) (by decide) rfl ?_
        refine r_load (i := 293) (u := 1) (w := 2) rfl rfl rfl ?_
        have h414 := hI.f tf22_3
        refine r_call (i := 294) (u := 0) (v := 19) (w := 0) (b := 0) (na := 257) (C2 := xC19) (as := [(2, 0)]) (s := []) rfl rfl rfl rfl rfl rfl rfl (sp19  hI    (by omega)) (fun r415 S416 hq417 => ?_)
        obtain ⟨z418, rfl, h419, h420, sc_slots421, rfl⟩ := hq417
        refine Or.inr (Or.inl ⟨rfl, ?_⟩)
        refine r_pop (i := 295) rfl rfl ?_
        refine r_load (i := 296) (u := 2) (w := 2) rfl rfl rfl ?_
        have h422 := hI.f tf43_20
        refine r_call (i := 297) (u := 11) (v := 244) (w := 0) (b := 0) (na := 257) (C2 := xC244) (as := [(2, 43)]) (s := []) rfl rfl rfl rfl rfl rfl rfl (sp244  hI    (by omega)) (fun r423 S424 hq425 => ?_)
        obtain ⟨z426, rfl, h427, h428, sm_slots429, hI430, hF431, hR432⟩ := hq425
        have e433 := N23x.fr e_N23 hF431 hR432 rfl rfl rfl
        have e434 := CRx.fr e_CR hF431 rfl rfl
        have e435 := RTx.fr e_RT hF431 rfl rfl
        have e436 := RMex.fr e_RMe hF431 rfl rfl
        have e437 := RSx.fr e_RS hF431 rfl rfl
        have e438 := RThx.fr e_RTh hF431 rfl rfl
        have e439 := RIx.fr e_RI hF431 rfl rfl
        have e440 := RKx.fr e_RK hF431 rfl rfl
        have e441 := RSlx.fr e_RSl hF431 rfl rfl
        have e442 := RPx.fr e_RP hF431 rfl rfl
        have e443 := RSkx.fr e_RSk hF431 rfl rfl
        have e444 := RGx.fr e_RG hF431 rfl rfl
        have e445 := wRM_rm q_0 hR432
        refine Or.inr (Or.inl ⟨rfl, ?_⟩)
        have eq9 := e_RSl.1
        refine r_pop (i := 298) rfl rfl ?_
        refine r_goto (i := 299) (v := 638) rfl ?_
        refine r_iinc (i := 638) (u := 10) (v := 4) (s := 10) (L1 := [some ((6, 0)), some ((2, 0)), some ((2, 43)), some ((2, 81)), some (vi (i + 10)), none, none]) rfl rfl rfl rfl rfl ?_
        refine r_goto (i := 639) (v := 13) rfl ?_
        exact ih S424 hI430 e433 e434 e435 e436 e437 e438 e439 e440 e441 e442 e443 e444 (i + 10) ⟨by omega, by omega⟩ (by exact wRM_le e445 (by omega)) (by omega)
      · refine r_swK (i := 24) (u := 1) (v := 638) (k := 8) (t := 300) rfl rfl h13 (by decide) (by decide) rfl ?_
        refine r_load (i := 300) (u := 1) (w := 2) rfl rfl rfl ?_
        refine r_load (i := 301) (u := 0) (w := 2) rfl rfl rfl ?_
        refine r_load (i := 302) (u := 4) (w := 0) rfl rfl rfl ?_
        refine r_const (i := 303) (u := 1) (z := 1) rfl rfl ?_
        refine r_iadd (i := 304) rfl ?_
        refine r_scA (i := 305) hG rfl (by omega) (by omega) fun h446 => ?_
        have h446 : Rg (sc (i + 1).toNat) := h446
        have h447 := hI.f tf22_3
        refine r_call (i := 306) (u := 0) (v := 18) (w := 0) (b := 0) (na := 514) (C2 := xC18) (as := [(2, 0), vi (sc (i + 1).toNat)]) (s := []) rfl rfl rfl rfl rfl rfl rfl (sp18 (k := sc (i + 1).toNat) hI ⟨by omega, by omega⟩   (by omega)) (fun r448 S449 hq450 => ?_)
        obtain ⟨z451, rfl, h452, h453, sc_slot454, rfl⟩ := hq450
        refine Or.inr (Or.inl ⟨rfl, ?_⟩)
        refine r_pop (i := 307) rfl rfl ?_
        refine r_load (i := 308) (u := 2) (w := 2) rfl rfl rfl ?_
        refine r_load (i := 309) (u := 0) (w := 2) rfl rfl rfl ?_
        refine r_load (i := 310) (u := 4) (w := 0) rfl rfl rfl ?_
        refine r_const (i := 311) (u := 1) (z := 1) rfl rfl ?_
        refine r_iadd (i := 312) rfl ?_
        refine r_scA (i := 313) hG rfl (by omega) (by omega) fun h455 => ?_
        have h455 : Rg (sc (i + 1).toNat) := h455
        have h456 := hI.f tf43_20
        refine r_call (i := 314) (u := 11) (v := 243) (w := 0) (b := 0) (na := 514) (C2 := xC243) (as := [(2, 43), vi (sc (i + 1).toNat)]) (s := []) rfl rfl rfl rfl rfl rfl rfl (sp243 (k := sc (i + 1).toNat) hI ⟨by omega, by omega⟩   (by omega)) (fun r457 S458 hq459 => ?_)
        obtain ⟨z460, rfl, h461, h462, sm_slot463, hI464, hF465, hR466⟩ := hq459
        have e467 := N23x.fr e_N23 hF465 hR466 rfl rfl rfl
        have e468 := CRx.fr e_CR hF465 rfl rfl
        have e469 := RTx.fr e_RT hF465 rfl rfl
        have e470 := RMex.fr e_RMe hF465 rfl rfl
        have e471 := RSx.fr e_RS hF465 rfl rfl
        have e472 := RThx.fr e_RTh hF465 rfl rfl
        have e473 := RIx.fr e_RI hF465 rfl rfl
        have e474 := RKx.fr e_RK hF465 rfl rfl
        have e475 := RSlx.fr e_RSl hF465 rfl rfl
        have e476 := RPx.fr e_RP hF465 rfl rfl
        have e477 := RSkx.fr e_RSk hF465 rfl rfl
        have e478 := RGx.fr e_RG hF465 rfl rfl
        have e479 := wRM_rm q_0 hR466
        refine Or.inr (Or.inl ⟨rfl, ?_⟩)
        have eq9 := RSl_slot e_RSl sc_slot454 sm_slot463
        refine r_pop (i := 315) rfl rfl ?_
        refine r_goto (i := 316) (v := 638) rfl ?_
        refine r_iinc (i := 638) (u := 10) (v := 4) (s := 10) (L1 := [some ((6, 0)), some ((2, 0)), some ((2, 43)), some ((2, 81)), some (vi (i + 10)), none, none]) rfl rfl rfl rfl rfl ?_
        refine r_goto (i := 639) (v := 13) rfl ?_
        exact ih S458 hI464 e467 e468 e469 e470 e471 e472 e473 e474 e475 e476 e477 e478 (i + 10) ⟨by omega, by omega⟩ (by exact wRM_le e479 (by omega)) (by omega)
      · refine r_swK (i := 24) (u := 1) (v := 638) (k := 9) (t := 317) rfl rfl h14 (by decide) (by decide) rfl ?_
        refine r_load (i := 317) (u := 1) (w := 2) rfl rfl rfl ?_
        refine r_load (i := 318) (u := 0) (w := 2) rfl rfl rfl ?_
        refine r_load (i := 319) (u := 4) (w := 0) rfl rfl rfl ?_
        refine r_const (i := 320) (u := 1) (z := 1) rfl rfl ?_
        refine r_iadd (i := 321) rfl ?_
        refine r_scA (i := 322) hG rfl (by omega) (by omega) fun h480 => ?_
        have h480 : Rg (sc (i + 1).toNat) := h480
        refine r_load (i := 323) (u := 0) (w := 2) rfl rfl rfl ?_
        refine r_load (i := 324) (u := 4) (w := 0) rfl rfl rfl ?_
        refine r_const (i := 325) (u := 2) (z := 2) rfl rfl ?_
        refine r_iadd (i := 326) rfl ?_
        refine r_scA (i := 327) hG rfl (by omega) (by omega) fun h481 => ?_
        have h481 : Rg (sc (i + 2).toNat) := h481
        refine r_i2l (i := 328) rfl ⟨by omega, by omega⟩ ?_
        refine r_const (i := 329) (u := 32) (z := 32) rfl rfl ?_
        refine r_lshl (i := 330) rfl ?_
        refine r_load (i := 331) (u := 0) (w := 2) rfl rfl rfl ?_
        refine r_load (i := 332) (u := 4) (w := 0) rfl rfl rfl ?_
        refine r_const (i := 333) (u := 3) (z := 3) rfl rfl ?_
        refine r_iadd (i := 334) rfl ?_
        refine r_scA (i := 335) hG rfl (by omega) (by omega) fun h482 => ?_
        have h482 : Rg (sc (i + 3).toNat) := h482
        refine r_i2l (i := 336) rfl ⟨by omega, by omega⟩ ?_
        refine r_lconst (i := 337) (u := 4294967295) (z := 4294967295) rfl rfl ?_
        refine r_land (i := 338) rfl ?_
        have h483 := @yland_c (sc (i + 3).toNat) 4294967295 (by decide) (by decide)
        refine r_lor (i := 339) rfl ?_
        have h484 := ylor_rl ((sc (i + 2).toNat) * 4294967296) (yland (sc (i + 3).toNat) 4294967295)
        refine r_call (i := 340) (u := 65535) (v := 173) (w := 0) (b := 2) (na := 1283) (C2 := xC173) (as := [(2, 0), vi (sc (i + 1).toNat), vl (ylor ((sc (i + 2).toNat) * 4294967296) (yland (sc (i + 3).toNat) 4294967295))]) (s := []) rfl rfl rfl rfl rfl rfl rfl (sp173 (p0 := sc (i + 1).toNat) (p1 := ylor ((sc (i + 2).toNat) * 4294967296) (yland (sc (i + 3).toNat) 4294967295)) (kR := 5199 - i) hI ⟨by omega, by omega⟩ ⟨by omega, by omega⟩ (by exact wRM_le q_0 (by omega)) (by omega) e_N23 e_CR (by omega)) (fun r485 S486 hq487 => ?_)
        obtain ⟨z488, rfl, h489, h490, rm491, e492, e493, hI494, hF495⟩ := hq487
        have e496 := RTx.fr e_RT hF495 rfl rfl
        have e497 := RMex.fr e_RMe hF495 rfl rfl
        have e498 := RSx.fr e_RS hF495 rfl rfl
        have e499 := RThx.fr e_RTh hF495 rfl rfl
        have e500 := RIx.fr e_RI hF495 rfl rfl
        have e501 := RKx.fr e_RK hF495 rfl rfl
        have e502 := RSlx.fr e_RSl hF495 rfl rfl
        have e503 := RPx.fr e_RP hF495 rfl rfl
        have e504 := RSkx.fr e_RSk hF495 rfl rfl
        have e505 := RGx.fr e_RG hF495 rfl rfl
        refine Or.inr (Or.inl ⟨rfl, ?_⟩)
        refine r_store (i := 341) (u := 5) (w := 0) (L1 := [some ((6, 0)), some ((2, 0)), some ((2, 43)), some ((2, 81)), some (vi i), some (vi z488), none]) rfl rfl rfl rfl ?_
        refine r_load (i := 342) (u := 2) (w := 2) rfl rfl rfl ?_
        refine r_load (i := 343) (u := 0) (w := 2) rfl rfl rfl ?_
        refine r_load (i := 344) (u := 4) (w := 0) rfl rfl rfl ?_
        refine r_const (i := 345) (u := 1) (z := 1) rfl rfl ?_
        refine r_iadd (i := 346) rfl ?_
        refine r_scA (i := 347) hG rfl (by omega) (by omega) fun h506 => ?_
        have h506 : Rg (sc (i + 1).toNat) := h506
        refine r_load (i := 348) (u := 0) (w := 2) rfl rfl rfl ?_
        refine r_load (i := 349) (u := 4) (w := 0) rfl rfl rfl ?_
        refine r_const (i := 350) (u := 2) (z := 2) rfl rfl ?_
        refine r_iadd (i := 351) rfl ?_
        refine r_scA (i := 352) hG rfl (by omega) (by omega) fun h507 => ?_
        have h507 : Rg (sc (i + 2).toNat) := h507
        refine r_i2l (i := 353) rfl ⟨by omega, by omega⟩ ?_
        refine r_const (i := 354) (u := 32) (z := 32) rfl rfl ?_
        refine r_lshl (i := 355) rfl ?_
        refine r_load (i := 356) (u := 0) (w := 2) rfl rfl rfl ?_
        refine r_load (i := 357) (u := 4) (w := 0) rfl rfl rfl ?_
        refine r_const (i := 358) (u := 3) (z := 3) rfl rfl ?_
        refine r_iadd (i := 359) rfl ?_
        refine r_scA (i := 360) hG rfl (by omega) (by omega) fun h508 => ?_
        have h508 : Rg (sc (i + 3).toNat) := h508
        refine r_i2l (i := 361) rfl ⟨by omega, by omega⟩ ?_
        refine r_lconst (i := 362) (u := 4294967295) (z := 4294967295) rfl rfl ?_
        refine r_land (i := 363) rfl ?_
        have h509 := @yland_c (sc (i + 3).toNat) 4294967295 (by decide) (by decide)
        refine r_lor (i := 364) rfl ?_
        have h510 := ylor_rl ((sc (i + 2).toNat) * 4294967296) (yland (sc (i + 3).toNat) 4294967295)
        refine r_call (i := 365) (u := 11) (v := 181) (w := 0) (b := 0) (na := 1539) (C2 := xC181) (as := [(2, 43), vi (sc (i + 1).toNat), vl (ylor ((sc (i + 2).toNat) * 4294967296) (yland (sc (i + 3).toNat) 4294967295))]) (s := []) rfl rfl rfl rfl rfl rfl rfl (sp181 (w0 := sc (i + 1).toNat) (v := ylor ((sc (i + 2).toNat) * 4294967296) (yland (sc (i + 3).toNat) 4294967295)) hI494 ⟨by omega, by omega⟩ ⟨by omega, by omega⟩   (by omega)) (fun r511 S512 hq513 => ?_)
        obtain ⟨rfl, hI514, hF515, hR516⟩ := hq513
        have e517 := RTx.fr e496 hF515 rfl rfl
        have e518 := RMex.fr e497 hF515 rfl rfl
        have e519 := RSx.fr e498 hF515 rfl rfl
        have e520 := RThx.fr e499 hF515 rfl rfl
        have e521 := RIx.fr e500 hF515 rfl rfl
        have e522 := RKx.fr e501 hF515 rfl rfl
        have e523 := RSlx.fr e502 hF515 rfl rfl
        have e524 := RPx.fr e503 hF515 rfl rfl
        have e525 := RSkx.fr e504 hF515 rfl rfl
        have e526 := RGx.fr e505 hF515 rfl rfl
        have e527 := N23x.fr e492 hF515 hR516 rfl rfl rfl
        have e528 := CRx.fr e493 hF515 rfl rfl
        have e529 := wRM_rm rm491 hR516
        refine Or.inl ⟨rfl, ?_⟩
        refine r_goto (i := 366) (v := 638) rfl ?_
        refine r_iinc (i := 638) (u := 10) (v := 4) (s := 10) (L1 := [some ((6, 0)), some ((2, 0)), some ((2, 43)), some ((2, 81)), some (vi (i + 10)), some (vi z488), none]) rfl rfl rfl rfl rfl ?_
        refine r_goto (i := 639) (v := 13) rfl ?_
        refine yT_drop (L1 := [some ((6, 0)), some ((2, 0)), some ((2, 43)), some ((2, 81)), some (vi (i + 10)), none, none]) rfl ?_
        exact ih S512 hI514 e527 e528 e517 e518 e519 e520 e521 e522 e523 e524 e525 e526 (i + 10) ⟨by omega, by omega⟩ (by exact wRM_le e529 (by omega)) (by omega)
      · refine r_swK (i := 24) (u := 1) (v := 638) (k := 10) (t := 367) rfl rfl h15 (by decide) (by decide) rfl ?_
        refine r_load (i := 367) (u := 1) (w := 2) rfl rfl rfl ?_
        refine r_load (i := 368) (u := 0) (w := 2) rfl rfl rfl ?_
        refine r_load (i := 369) (u := 4) (w := 0) rfl rfl rfl ?_
        refine r_const (i := 370) (u := 1) (z := 1) rfl rfl ?_
        refine r_iadd (i := 371) rfl ?_
        refine r_scA (i := 372) hG rfl (by omega) (by omega) fun h530 => ?_
        have h530 : Rg (sc (i + 1).toNat) := h530
        refine r_load (i := 373) (u := 0) (w := 2) rfl rfl rfl ?_
        refine r_load (i := 374) (u := 4) (w := 0) rfl rfl rfl ?_
        refine r_const (i := 375) (u := 2) (z := 2) rfl rfl ?_
        refine r_iadd (i := 376) rfl ?_
        refine r_scA (i := 377) hG rfl (by omega) (by omega) fun h531 => ?_
        have h531 : Rg (sc (i + 2).toNat) := h531
        refine r_i2l (i := 378) rfl ⟨by omega, by omega⟩ ?_
        refine r_const (i := 379) (u := 32) (z := 32) rfl rfl ?_
        refine r_lshl (i := 380) rfl ?_
        refine r_load (i := 381) (u := 0) (w := 2) rfl rfl rfl ?_
        refine r_load (i := 382) (u := 4) (w := 0) rfl rfl rfl ?_
        refine r_const (i := 383) (u := 3) (z := 3) rfl rfl ?_
        refine r_iadd (i := 384) rfl ?_
        refine r_scA (i := 385) hG rfl (by omega) (by omega) fun h532 => ?_
        have h532 : Rg (sc (i + 3).toNat) := h532
        refine r_i2l (i := 386) rfl ⟨by omega, by omega⟩ ?_
        refine r_lconst (i := 387) (u := 4294967295) (z := 4294967295) rfl rfl ?_
        refine r_land (i := 388) rfl ?_
        have h533 := @yland_c (sc (i + 3).toNat) 4294967295 (by decide) (by decide)
        refine r_lor (i := 389) rfl ?_
        have h534 := ylor_rl ((sc (i + 2).toNat) * 4294967296) (yland (sc (i + 3).toNat) 4294967295)
        refine r_load (i := 390) (u := 0) (w := 2) rfl rfl rfl ?_
        refine r_load (i := 391) (u := 4) (w := 0) rfl rfl rfl ?_
        refine r_const (i := 392) (u := 4) (z := 4) rfl rfl ?_
        refine r_iadd (i := 393) rfl ?_
        refine r_scA (i := 394) hG rfl (by omega) (by omega) fun h535 => ?_
        have h535 : Rg (sc (i + 4).toNat) := h535
        refine r_i2l (i := 395) rfl ⟨by omega, by omega⟩ ?_
        refine r_const (i := 396) (u := 32) (z := 32) rfl rfl ?_
        refine r_lshl (i := 397) rfl ?_
        refine r_load (i := 398) (u := 0) (w := 2) rfl rfl rfl ?_
        refine r_load (i := 399) (u := 4) (w := 0) rfl rfl rfl ?_
        refine r_const (i := 400) (u := 5) (z := 5) rfl rfl ?_
        refine r_iadd (i := 401) rfl ?_
        refine r_scA (i := 402) hG rfl (by omega) (by omega) fun h536 => ?_
        have h536 : Rg (sc (i + 5).toNat) := h536
        refine r_i2l (i := 403) rfl ⟨by omega, by omega⟩ ?_
        refine r_lconst (i := 404) (u := 4294967295) (z := 4294967295) rfl rfl ?_
        refine r_land (i := 405) rfl ?_
        have h537 := @yland_c (sc (i + 5).toNat) 4294967295 (by decide) (by decide)
        refine r_lor (i := 406) rfl ?_
        have h538 := ylor_rl ((sc (i + 4).toNat) * 4294967296) (yland (sc (i + 5).toNat) 4294967295)
        refine r_load (i := 407) (u := 0) (w := 2) rfl rfl rfl ?_
        refine r_load (i := 408) (u := 4) (w := 0) rfl rfl rfl ?_
        refine r_const (i := 409) (u := 6) (z := 6) rfl rfl ?_
        refine r_iadd (i := 410) rfl ?_
        refine r_scA (i := 411) hG rfl (by omega) (by omega) fun h539 => ?_
        have h539 : Rg (sc (i + 6).toNat) := h539
        refine r_i2l (i := 412) rfl ⟨by omega, by omega⟩ ?_
        refine r_const (i := 413) (u := 32) (z := 32) rfl rfl ?_
        refine r_lshl (i := 414) rfl ?_
        refine r_load (i := 415) (u := 0) (w := 2) rfl rfl rfl ?_
        refine r_load (i := 416) (u := 4) (w := 0) rfl rfl rfl ?_
        refine r_const (i := 417) (u := 7) (z := 7) rfl rfl ?_
        refine r_iadd (i := 418) rfl ?_
        refine r_scA (i := 419) hG rfl (by omega) (by omega) fun h540 => ?_
        have h540 : Rg (sc (i + 7).toNat) := h540
        refine r_i2l (i := 420) rfl ⟨by omega, by omega⟩ ?_
        refine r_lconst (i := 421) (u := 4294967295) (z := 4294967295) rfl rfl ?_
        refine r_land (i := 422) rfl ?_
        have h541 := @yland_c (sc (i + 7).toNat) 4294967295 (by decide) (by decide)
        refine r_lor (i := 423) rfl ?_
        have h542 := ylor_rl ((sc (i + 6).toNat) * 4294967296) (yland (sc (i + 7).toNat) 4294967295)
        refine r_load (i := 424) (u := 0) (w := 2) rfl rfl rfl ?_
        refine r_load (i := 425) (u := 4) (w := 0) rfl rfl rfl ?_
        refine r_const (i := 426) (u := 8) (z := 8) rfl rfl ?_
        refine r_iadd (i := 427) rfl ?_
        refine r_scA (i := 428) hG rfl (by omega) (by omega) fun h543 => ?_
        have h543 : Rg (sc (i + 8).toNat) := h543
        refine r_i2l (i := 429) rfl ⟨by omega, by omega⟩ ?_
        refine r_const (i := 430) (u := 32) (z := 32) rfl rfl ?_
        refine r_lshl (i := 431) rfl ?_
        refine r_load (i := 432) (u := 0) (w := 2) rfl rfl rfl ?_
        refine r_load (i := 433) (u := 4) (w := 0) rfl rfl rfl ?_
        refine r_const (i := 434) (u := 9) (z := 9) rfl rfl ?_
        refine r_iadd (i := 435) rfl ?_
        refine r_scA (i := 436) hG rfl (by omega) (by omega) fun h544 => ?_
        have h544 : Rg (sc (i + 9).toNat) := h544
        refine r_i2l (i := 437) rfl ⟨by omega, by omega⟩ ?_
        refine r_lconst (i := 438) (u := 4294967295) (z := 4294967295) rfl rfl ?_
        refine r_land (i := 439) rfl ?_
        have h545 := @yland_c (sc (i + 9).toNat) 4294967295 (by decide) (by decide)
        refine r_lor (i := 440) rfl ?_
        have h546 := ylor_rl ((sc (i + 8).toNat) * 4294967296) (yland (sc (i + 9).toNat) 4294967295)
        refine r_load (i := 441) (u := 3) (w := 2) rfl rfl rfl ?_
        refine r_call (i := 442) (u := 65535) (v := 174) (w := 0) (b := 2) (na := 3079) (C2 := xC174) (as := [(2, 0), vi (sc (i + 1).toNat), vl (ylor ((sc (i + 2).toNat) * 4294967296) (yland (sc (i + 3).toNat) 4294967295)), vl (ylor ((sc (i + 4).toNat) * 4294967296) (yland (sc (i + 5).toNat) 4294967295)), vl (ylor ((sc (i + 6).toNat) * 4294967296) (yland (sc (i + 7).toNat) 4294967295)), vl (ylor ((sc (i + 8).toNat) * 4294967296) (yland (sc (i + 9).toNat) 4294967295)), (2, 81)]) (s := []) rfl rfl rfl rfl rfl rfl rfl (sp174 (p0 := sc (i + 1).toNat) (p1 := ylor ((sc (i + 2).toNat) * 4294967296) (yland (sc (i + 3).toNat) 4294967295)) (p2 := ylor ((sc (i + 4).toNat) * 4294967296) (yland (sc (i + 5).toNat) 4294967295)) (p3 := ylor ((sc (i + 6).toNat) * 4294967296) (yland (sc (i + 7).toNat) 4294967295)) (p4 := ylor ((sc (i + 8).toNat) * 4294967296) (yland (sc (i + 9).toNat) 4294967295)) (kR := 5199 - i) hI ⟨by omega, by omega⟩ ⟨by omega, by omega⟩ ⟨by omega, by omega⟩ ⟨by omega, by omega⟩ ⟨by omega, by omega⟩ (by exact wRM_le q_0 (by omega)) (by omega) e_N23 e_CR (by omega)) (fun r547 S548 hq549 => ?_)
        obtain ⟨z550, rfl, h551, h552, rm553, hcg554, e555, e556, hI557, hF558⟩ := hq549
        have e559 := RTx.fr e_RT hF558 rfl rfl
        have e560 := RMex.fr e_RMe hF558 rfl rfl
        have e561 := RSx.fr e_RS hF558 rfl rfl
        have e562 := RThx.fr e_RTh hF558 rfl rfl
        have e563 := RIx.fr e_RI hF558 rfl rfl
        have e564 := RKx.fr e_RK hF558 rfl rfl
        have e565 := RSlx.fr e_RSl hF558 rfl rfl
        have e566 := RPx.fr e_RP hF558 rfl rfl
        have e567 := RSkx.fr e_RSk hF558 rfl rfl
        refine Or.inr (Or.inl ⟨rfl, ?_⟩)
        refine r_store (i := 443) (u := 5) (w := 0) (L1 := [some ((6, 0)), some ((2, 0)), some ((2, 43)), some ((2, 81)), some (vi i), some (vi z550), none]) rfl rfl rfl rfl ?_
        refine r_load (i := 444) (u := 2) (w := 2) rfl rfl rfl ?_
        refine r_load (i := 445) (u := 0) (w := 2) rfl rfl rfl ?_
        refine r_load (i := 446) (u := 4) (w := 0) rfl rfl rfl ?_
        refine r_const (i := 447) (u := 1) (z := 1) rfl rfl ?_
        refine r_iadd (i := 448) rfl ?_
        refine r_scA (i := 449) hG rfl (by omega) (by omega) fun h568 => ?_
        have h568 : Rg (sc (i + 1).toNat) := h568
        refine r_load (i := 450) (u := 0) (w := 2) rfl rfl rfl ?_
        refine r_load (i := 451) (u := 4) (w := 0) rfl rfl rfl ?_
        refine r_const (i := 452) (u := 2) (z := 2) rfl rfl ?_
        refine r_iadd (i := 453) rfl ?_
        refine r_scA (i := 454) hG rfl (by omega) (by omega) fun h569 => ?_
        have h569 : Rg (sc (i + 2).toNat) := h569
        refine r_i2l (i := 455) rfl ⟨by omega, by omega⟩ ?_
        refine r_const (i := 456) (u := 32) (z := 32) rfl rfl ?_
        refine r_lshl (i := 457) rfl ?_
        refine r_load (i := 458) (u := 0) (w := 2) rfl rfl rfl ?_
        refine r_load (i := 459) (u := 4) (w := 0) rfl rfl rfl ?_
        refine r_const (i := 460) (u := 3) (z := 3) rfl rfl ?_
        refine r_iadd (i := 461) rfl ?_
        refine r_scA (i := 462) hG rfl (by omega) (by omega) fun h570 => ?_
        have h570 : Rg (sc (i + 3).toNat) := h570
        refine r_i2l (i := 463) rfl ⟨by omega, by omega⟩ ?_
        refine r_lconst (i := 464) (u := 4294967295) (z := 4294967295) rfl rfl ?_
        refine r_land (i := 465) rfl ?_
        have h571 := @yland_c (sc (i + 3).toNat) 4294967295 (by decide) (by decide)
        refine r_lor (i := 466) rfl ?_
        have h572 := ylor_rl ((sc (i + 2).toNat) * 4294967296) (yland (sc (i + 3).toNat) 4294967295)
        refine r_load (i := 467) (u := 0) (w := 2) rfl rfl rfl ?_
        refine r_load (i := 468) (u := 4) (w := 0) rfl rfl rfl ?_
        refine r_const (i := 469) (u := 4) (z := 4) rfl rfl ?_
        refine r_iadd (i := 470) rfl ?_
        refine r_scA (i := 471) hG rfl (by omega) (by omega) fun h573 => ?_
        have h573 : Rg (sc (i + 4).toNat) := h573
        refine r_i2l (i := 472) rfl ⟨by omega, by omega⟩ ?_
        refine r_const (i := 473) (u := 32) (z := 32) rfl rfl ?_
        refine r_lshl (i := 474) rfl ?_
        refine r_load (i := 475) (u := 0) (w := 2) rfl rfl rfl ?_
        refine r_load (i := 476) (u := 4) (w := 0) rfl rfl rfl ?_
        refine r_const (i := 477) (u := 5) (z := 5) rfl rfl ?_
        refine r_iadd (i := 478) rfl ?_
        refine r_scA (i := 479) hG rfl (by omega) (by omega) fun h574 => ?_
        have h574 : Rg (sc (i + 5).toNat) := h574
        refine r_i2l (i := 480) rfl ⟨by omega, by omega⟩ ?_
        refine r_lconst (i := 481) (u := 4294967295) (z := 4294967295) rfl rfl ?_
        refine r_land (i := 482) rfl ?_
        have h575 := @yland_c (sc (i + 5).toNat) 4294967295 (by decide) (by decide)
        refine r_lor (i := 483) rfl ?_
        have h576 := ylor_rl ((sc (i + 4).toNat) * 4294967296) (yland (sc (i + 5).toNat) 4294967295)
        refine r_load (i := 484) (u := 0) (w := 2) rfl rfl rfl ?_
        refine r_load (i := 485) (u := 4) (w := 0) rfl rfl rfl ?_
        refine r_const (i := 486) (u := 6) (z := 6) rfl rfl ?_
        refine r_iadd (i := 487) rfl ?_
        refine r_scA (i := 488) hG rfl (by omega) (by omega) fun h577 => ?_
        have h577 : Rg (sc (i + 6).toNat) := h577
        refine r_i2l (i := 489) rfl ⟨by omega, by omega⟩ ?_
        refine r_const (i := 490) (u := 32) (z := 32) rfl rfl ?_
        refine r_lshl (i := 491) rfl ?_
        refine r_load (i := 492) (u := 0) (w := 2) rfl rfl rfl ?_
        refine r_load (i := 493) (u := 4) (w := 0) rfl rfl rfl ?_
        refine r_const (i := 494) (u := 7) (z := 7) rfl rfl ?_
        refine r_iadd (i := 495) rfl ?_
        refine r_scA (i := 496) hG rfl (by omega) (by omega) fun h578 => ?_
        have h578 : Rg (sc (i + 7).toNat) := h578
        refine r_i2l (i := 497) rfl ⟨by omega, by omega⟩ ?_
        refine r_lconst (i := 498) (u := 4294967295) (z := 4294967295) rfl rfl ?_
        refine r_land (i := 499) rfl ?_
        have h579 := @yland_c (sc (i + 7).toNat) 4294967295 (by decide) (by decide)
        refine r_lor (i := 500) rfl ?_
        have h580 := ylor_rl ((sc (i + 6).toNat) * 4294967296) (yland (sc (i + 7).toNat) 4294967295)
        refine r_load (i := 501) (u := 0) (w := 2) rfl rfl rfl ?_
        refine r_load (i := 502) (u := 4) (w := 0) rfl rfl rfl ?_
        refine r_const (i := 503) (u := 8) (z := 8) rfl rfl ?_
        refine r_iadd (i := 504) rfl ?_
        refine r_scA (i := 505) hG rfl (by omega) (by omega) fun h581 => ?_
        have h581 : Rg (sc (i + 8).toNat) := h581
        refine r_i2l (i := 506) rfl ⟨by omega, by omega⟩ ?_
        refine r_const (i := 507) (u := 32) (z := 32) rfl rfl ?_
        refine r_lshl (i := 508) rfl ?_
        refine r_load (i := 509) (u := 0) (w := 2) rfl rfl rfl ?_
        refine r_load (i := 510) (u := 4) (w := 0) rfl rfl rfl ?_
        refine r_const (i := 511) (u := 9) (z := 9) rfl rfl ?_
        refine r_iadd (i := 512) rfl ?_
        refine r_scA (i := 513) hG rfl (by omega) (by omega) fun h582 => ?_
        have h582 : Rg (sc (i + 9).toNat) := h582
        refine r_i2l (i := 514) rfl ⟨by omega, by omega⟩ ?_
        refine r_lconst (i := 515) (u := 4294967295) (z := 4294967295) rfl rfl ?_
        refine r_land (i := 516) rfl ?_
        have h583 := @yland_c (sc (i + 9).toNat) 4294967295 (by decide) (by decide)
        refine r_lor (i := 517) rfl ?_
        have h584 := ylor_rl ((sc (i + 8).toNat) * 4294967296) (yland (sc (i + 9).toNat) 4294967295)
        have h585 := hI557.f tf43_20
        have h586 : S548.f 43 20 = S.f 43 20 := hF558.f rfl
        refine r_call (i := 518) (u := 11) (v := 188) (w := 0) (b := 0) (na := 4102) (C2 := xC188) (as := [(2, 43), vi (sc (i + 1).toNat), vl (ylor ((sc (i + 2).toNat) * 4294967296) (yland (sc (i + 3).toNat) 4294967295)), vl (ylor ((sc (i + 4).toNat) * 4294967296) (yland (sc (i + 5).toNat) 4294967295)), vl (ylor ((sc (i + 6).toNat) * 4294967296) (yland (sc (i + 7).toNat) 4294967295)), vl (ylor ((sc (i + 8).toNat) * 4294967296) (yland (sc (i + 9).toNat) 4294967295))]) (s := []) rfl rfl rfl rfl rfl rfl rfl (sp188 (k := sc (i + 1).toNat) (a := ylor ((sc (i + 2).toNat) * 4294967296) (yland (sc (i + 3).toNat) 4294967295)) (b := ylor ((sc (i + 4).toNat) * 4294967296) (yland (sc (i + 5).toNat) 4294967295)) (c := ylor ((sc (i + 6).toNat) * 4294967296) (yland (sc (i + 7).toNat) 4294967295)) (e := ylor ((sc (i + 8).toNat) * 4294967296) (yland (sc (i + 9).toNat) 4294967295)) hI557 ⟨by omega, by omega⟩ ⟨by omega, by omega⟩ ⟨by omega, by omega⟩ ⟨by omega, by omega⟩ ⟨by omega, by omega⟩   (by omega)) (fun r587 S588 hq589 => ?_)
        obtain ⟨z590, rfl, h591, h592, gi1593, gi2594, hI595, hF596, hR597⟩ := hq589
        have e598 := RTx.fr e559 hF596 rfl rfl
        have e599 := RMex.fr e560 hF596 rfl rfl
        have e600 := RSx.fr e561 hF596 rfl rfl
        have e601 := RThx.fr e562 hF596 rfl rfl
        have e602 := RIx.fr e563 hF596 rfl rfl
        have e603 := RKx.fr e564 hF596 rfl rfl
        have e604 := RSlx.fr e565 hF596 rfl rfl
        have e605 := RPx.fr e566 hF596 rfl rfl
        have e606 := RSkx.fr e567 hF596 rfl rfl
        have e607 := N23x.fr e555 hF596 hR597 rfl rfl rfl
        have e608 := CRx.fr e556 hF596 rfl rfl
        have e609 := wRM_rm rm553 hR597
        refine Or.inr (Or.inl ⟨rfl, ?_⟩)
        have rg9 := RG_call e_RT e_RMe e_RSl e_RSk e_RG (hI557.f tf26_2) (hI595.f tf43_35) hcg554 hF558 rfl rfl gi1593 gi2594 hF596 rfl rfl
        refine r_store (i := 519) (u := 6) (w := 0) (L1 := [some ((6, 0)), some ((2, 0)), some ((2, 43)), some ((2, 81)), some (vi i), some (vi z550), some (vi z590)]) rfl rfl rfl rfl ?_
        refine r_goto (i := 520) (v := 638) rfl ?_
        refine r_iinc (i := 638) (u := 10) (v := 4) (s := 10) (L1 := [some ((6, 0)), some ((2, 0)), some ((2, 43)), some ((2, 81)), some (vi (i + 10)), some (vi z550), some (vi z590)]) rfl rfl rfl rfl rfl ?_
        refine r_goto (i := 639) (v := 13) rfl ?_
        refine yT_drop (L1 := [some ((6, 0)), some ((2, 0)), some ((2, 43)), some ((2, 81)), some (vi (i + 10)), none, none]) rfl ?_
        exact ih S588 hI595 e607 e608 e598 e599 e600 e601 e602 e603 e604 e605 e606 rg9 (i + 10) ⟨by omega, by omega⟩ (by exact wRM_le e609 (by omega)) (by omega)
      · refine r_swK (i := 24) (u := 1) (v := 638) (k := 11) (t := 521) rfl rfl h16 (by decide) (by decide) rfl ?_
        refine r_load (i := 521) (u := 1) (w := 2) rfl rfl rfl ?_
        refine r_call (i := 522) (u := 0) (v := 16) (w := 0) (b := 0) (na := 257) (C2 := xC16) (as := [(2, 0)]) (s := []) rfl rfl rfl rfl rfl rfl rfl (sp16  hI    (by omega)) (fun r610 S611 hq612 => ?_)
        obtain ⟨z613, rfl, h614, rfl⟩ := hq612
        refine Or.inr (Or.inl ⟨rfl, ?_⟩)
        refine r_pop2 (i := 523) rfl rfl ?_
        refine r_load (i := 524) (u := 2) (w := 2) rfl rfl rfl ?_
        refine r_call (i := 525) (u := 11) (v := 239) (w := 0) (b := 0) (na := 257) (C2 := xC239) (as := [(2, 43)]) (s := []) rfl rfl rfl rfl rfl rfl rfl (sp239  hI    (by omega)) (fun r615 S616 hq617 => ?_)
        obtain ⟨z618, rfl, h619, hI620, hF621, hR622⟩ := hq617
        have e623 := N23x.fr e_N23 hF621 hR622 rfl rfl rfl
        have e624 := CRx.fr e_CR hF621 rfl rfl
        have e625 := RTx.fr e_RT hF621 rfl rfl
        have e626 := RMex.fr e_RMe hF621 rfl rfl
        have e627 := RSx.fr e_RS hF621 rfl rfl
        have e628 := RThx.fr e_RTh hF621 rfl rfl
        have e629 := RIx.fr e_RI hF621 rfl rfl
        have e630 := RKx.fr e_RK hF621 rfl rfl
        have e631 := RSlx.fr e_RSl hF621 rfl rfl
        have e632 := RPx.fr e_RP hF621 rfl rfl
        have e633 := RSkx.fr e_RSk hF621 rfl rfl
        have e634 := RGx.fr e_RG hF621 rfl rfl
        have e635 := wRM_rm q_0 hR622
        refine Or.inr (Or.inl ⟨rfl, ?_⟩)
        refine r_pop2 (i := 526) rfl rfl ?_
        refine r_goto (i := 527) (v := 638) rfl ?_
        refine r_iinc (i := 638) (u := 10) (v := 4) (s := 10) (L1 := [some ((6, 0)), some ((2, 0)), some ((2, 43)), some ((2, 81)), some (vi (i + 10)), none, none]) rfl rfl rfl rfl rfl ?_
        refine r_goto (i := 639) (v := 13) rfl ?_
        exact ih S616 hI620 e623 e624 e625 e626 e627 e628 e629 e630 e631 e632 e633 e634 (i + 10) ⟨by omega, by omega⟩ (by exact wRM_le e635 (by omega)) (by omega)
      · refine r_swK (i := 24) (u := 1) (v := 638) (k := 12) (t := 528) rfl rfl h17 (by decide) (by decide) rfl ?_
        refine r_load (i := 528) (u := 1) (w := 2) rfl rfl rfl ?_
        refine r_call (i := 529) (u := 0) (v := 3) (w := 0) (b := 0) (na := 257) (C2 := xC3) (as := [(2, 0)]) (s := []) rfl rfl rfl rfl rfl rfl rfl (sp3  hI    (by omega)) (fun r636 S637 hq638 => ?_)
        obtain ⟨z639, rfl, h640, h641, rfl⟩ := hq638
        refine Or.inr (Or.inl ⟨rfl, ?_⟩)
        refine r_pop (i := 530) rfl rfl ?_
        refine r_load (i := 531) (u := 2) (w := 2) rfl rfl rfl ?_
        refine r_call (i := 532) (u := 11) (v := 184) (w := 0) (b := 0) (na := 257) (C2 := xC184) (as := [(2, 43)]) (s := []) rfl rfl rfl rfl rfl rfl rfl (sp184  hI    (by omega)) (fun r642 S643 hq644 => ?_)
        obtain ⟨z645, rfl, h646, h647, hI648, hF649, hR650⟩ := hq644
        have e651 := N23x.fr e_N23 hF649 hR650 rfl rfl rfl
        have e652 := CRx.fr e_CR hF649 rfl rfl
        have e653 := RTx.fr e_RT hF649 rfl rfl
        have e654 := RMex.fr e_RMe hF649 rfl rfl
        have e655 := RSx.fr e_RS hF649 rfl rfl
        have e656 := RThx.fr e_RTh hF649 rfl rfl
        have e657 := RIx.fr e_RI hF649 rfl rfl
        have e658 := RKx.fr e_RK hF649 rfl rfl
        have e659 := RSlx.fr e_RSl hF649 rfl rfl
        have e660 := RPx.fr e_RP hF649 rfl rfl
        have e661 := RSkx.fr e_RSk hF649 rfl rfl
        have e662 := RGx.fr e_RG hF649 rfl rfl
        have e663 := wRM_rm q_0 hR650
        refine Or.inr (Or.inl ⟨rfl, ?_⟩)
        refine r_pop (i := 533) rfl rfl ?_
        refine r_goto (i := 534) (v := 638) rfl ?_
        refine r_iinc (i := 638) (u := 10) (v := 4) (s := 10) (L1 := [some ((6, 0)), some ((2, 0)), some ((2, 43)), some ((2, 81)), some (vi (i + 10)), none, none]) rfl rfl rfl rfl rfl ?_
        refine r_goto (i := 639) (v := 13) rfl ?_
        exact ih S643 hI648 e651 e652 e653 e654 e655 e656 e657 e658 e659 e660 e661 e662 (i + 10) ⟨by omega, by omega⟩ (by exact wRM_le e663 (by omega)) (by omega)
      · refine r_swK (i := 24) (u := 1) (v := 638) (k := 13) (t := 535) rfl rfl h18 (by decide) (by decide) rfl ?_
        refine r_load (i := 535) (u := 1) (w := 2) rfl rfl rfl ?_
        refine r_load (i := 536) (u := 0) (w := 2) rfl rfl rfl ?_
        refine r_load (i := 537) (u := 4) (w := 0) rfl rfl rfl ?_
        refine r_const (i := 538) (u := 1) (z := 1) rfl rfl ?_
        refine r_iadd (i := 539) rfl ?_
        refine r_scA (i := 540) hG rfl (by omega) (by omega) fun h664 => ?_
        have h664 : Rg (sc (i + 1).toNat) := h664
        refine r_load (i := 541) (u := 0) (w := 2) rfl rfl rfl ?_
        refine r_load (i := 542) (u := 4) (w := 0) rfl rfl rfl ?_
        refine r_const (i := 543) (u := 2) (z := 2) rfl rfl ?_
        refine r_iadd (i := 544) rfl ?_
        refine r_scA (i := 545) hG rfl (by omega) (by omega) fun h665 => ?_
        have h665 : Rg (sc (i + 2).toNat) := h665
        have h666 := hI.f tf26_2
        refine r_call (i := 546) (u := 0) (v := 9) (w := 0) (b := 0) (na := 771) (C2 := xC9) (as := [(2, 0), vi (sc (i + 1).toNat), vi (sc (i + 2).toNat)]) (s := []) rfl rfl rfl rfl rfl rfl rfl (sp9 (i0 := sc (i + 1).toNat) (w0 := sc (i + 2).toNat) hI ⟨by omega, by omega⟩ ⟨by omega, by omega⟩   (by omega)) (fun r667 S668 hq669 => ?_)
        obtain ⟨z670, rfl, h671, gc672, rfl⟩ := hq669
        refine Or.inr (Or.inl ⟨rfl, ?_⟩)
        refine r_load (i := 547) (u := 2) (w := 2) rfl rfl rfl ?_
        refine r_load (i := 548) (u := 0) (w := 2) rfl rfl rfl ?_
        refine r_load (i := 549) (u := 4) (w := 0) rfl rfl rfl ?_
        refine r_const (i := 550) (u := 1) (z := 1) rfl rfl ?_
        refine r_iadd (i := 551) rfl ?_
        refine r_scA (i := 552) hG rfl (by omega) (by omega) fun h673 => ?_
        have h673 : Rg (sc (i + 1).toNat) := h673
        refine r_load (i := 553) (u := 0) (w := 2) rfl rfl rfl ?_
        refine r_load (i := 554) (u := 4) (w := 0) rfl rfl rfl ?_
        refine r_const (i := 555) (u := 2) (z := 2) rfl rfl ?_
        refine r_iadd (i := 556) rfl ?_
        refine r_scA (i := 557) hG rfl (by omega) (by omega) fun h674 => ?_
        have h674 : Rg (sc (i + 2).toNat) := h674
        have h675 := hI.f tf43_35
        refine r_call (i := 558) (u := 11) (v := 205) (w := 0) (b := 0) (na := 771) (C2 := xC205) (as := [(2, 43), vi (sc (i + 1).toNat), vi (sc (i + 2).toNat)]) (s := [vl z670]) rfl rfl rfl rfl rfl rfl rfl (sp205 (i0 := sc (i + 1).toNat) (w0 := sc (i + 2).toNat) hI ⟨by omega, by omega⟩ ⟨by omega, by omega⟩   (by omega)) (fun r676 S677 hq678 => ?_)
        obtain ⟨z679, rfl, h680, gm681, hI682, hF683, hR684⟩ := hq678
        have e685 := N23x.fr e_N23 hF683 hR684 rfl rfl rfl
        have e686 := CRx.fr e_CR hF683 rfl rfl
        have e687 := RTx.fr e_RT hF683 rfl rfl
        have e688 := RMex.fr e_RMe hF683 rfl rfl
        have e689 := RSx.fr e_RS hF683 rfl rfl
        have e690 := RThx.fr e_RTh hF683 rfl rfl
        have e691 := RIx.fr e_RI hF683 rfl rfl
        have e692 := RKx.fr e_RK hF683 rfl rfl
        have e693 := RSlx.fr e_RSl hF683 rfl rfl
        have e694 := RPx.fr e_RP hF683 rfl rfl
        have e695 := RSkx.fr e_RSk hF683 rfl rfl
        have e696 := RGx.fr e_RG hF683 rfl rfl
        have e697 := wRM_rm q_0 hR684
        refine Or.inr (Or.inl ⟨rfl, ?_⟩)
        have eq9 := RG_given e_RG gc672 gm681
        refine r_lcmp (i := 559) rfl ⟨by omega, by omega⟩ ⟨by omega, by omega⟩ (fun h698 => ?_) (fun h699 => ?_) (fun h700 => ?_)
        · refine z_eq (i := 560) (v := 638) rfl ⟨by omega, by omega⟩ (fun h701 => absurd h701 (by omega)) (fun h702 => ?_)
          refine r_const (i := 561) (u := 0) (z := 0) rfl rfl ?_
          exact r_retZ (i := 562) rfl (by omega) (by omega) ⟨0, rfl, by omega, by omega⟩
        · refine z_eq (i := 560) (v := 638) rfl ⟨by omega, by omega⟩ (fun h703 => ?_) (fun h704 => absurd h704 (by omega))
          refine r_iinc (i := 638) (u := 10) (v := 4) (s := 10) (L1 := [some ((6, 0)), some ((2, 0)), some ((2, 43)), some ((2, 81)), some (vi (i + 10)), none, none]) rfl rfl rfl rfl rfl ?_
          refine r_goto (i := 639) (v := 13) rfl ?_
          exact ih S677 hI682 e685 e686 e687 e688 e689 e690 e691 e692 e693 e694 e695 e696 (i + 10) ⟨by omega, by omega⟩ (by exact wRM_le e697 (by omega)) (by omega)
        · refine z_eq (i := 560) (v := 638) rfl ⟨by omega, by omega⟩ (fun h705 => absurd h705 (by omega)) (fun h706 => ?_)
          refine r_const (i := 561) (u := 0) (z := 0) rfl rfl ?_
          exact r_retZ (i := 562) rfl (by omega) (by omega) ⟨0, rfl, by omega, by omega⟩
      · refine r_swK (i := 24) (u := 1) (v := 638) (k := 14) (t := 563) rfl rfl h19 (by decide) (by decide) rfl ?_
        refine r_load (i := 563) (u := 1) (w := 2) rfl rfl rfl ?_
        refine r_call (i := 564) (u := 0) (v := 17) (w := 0) (b := 0) (na := 257) (C2 := xC17) (as := [(2, 0)]) (s := []) rfl rfl rfl rfl rfl rfl rfl (sp17  hI    (by omega)) (fun r707 S708 hq709 => ?_)
        obtain ⟨z710, rfl, h711, h712, rfl⟩ := hq709
        refine Or.inr (Or.inl ⟨rfl, ?_⟩)
        refine r_pop (i := 565) rfl rfl ?_
        refine r_load (i := 566) (u := 2) (w := 2) rfl rfl rfl ?_
        refine r_call (i := 567) (u := 11) (v := 242) (w := 0) (b := 0) (na := 257) (C2 := xC242) (as := [(2, 43)]) (s := []) rfl rfl rfl rfl rfl rfl rfl (sp242  hI    (by omega)) (fun r713 S714 hq715 => ?_)
        obtain ⟨z716, rfl, h717, h718, hI719, hF720, hR721⟩ := hq715
        have e722 := N23x.fr e_N23 hF720 hR721 rfl rfl rfl
        have e723 := CRx.fr e_CR hF720 rfl rfl
        have e724 := RTx.fr e_RT hF720 rfl rfl
        have e725 := RMex.fr e_RMe hF720 rfl rfl
        have e726 := RSx.fr e_RS hF720 rfl rfl
        have e727 := RThx.fr e_RTh hF720 rfl rfl
        have e728 := RIx.fr e_RI hF720 rfl rfl
        have e729 := RKx.fr e_RK hF720 rfl rfl
        have e730 := RSlx.fr e_RSl hF720 rfl rfl
        have e731 := RPx.fr e_RP hF720 rfl rfl
        have e732 := RSkx.fr e_RSk hF720 rfl rfl
        have e733 := RGx.fr e_RG hF720 rfl rfl
        have e734 := wRM_rm q_0 hR721
        refine Or.inr (Or.inl ⟨rfl, ?_⟩)
        refine r_pop (i := 568) rfl rfl ?_
        refine r_goto (i := 569) (v := 638) rfl ?_
        refine r_iinc (i := 638) (u := 10) (v := 4) (s := 10) (L1 := [some ((6, 0)), some ((2, 0)), some ((2, 43)), some ((2, 81)), some (vi (i + 10)), none, none]) rfl rfl rfl rfl rfl ?_
        refine r_goto (i := 639) (v := 13) rfl ?_
        exact ih S714 hI719 e722 e723 e724 e725 e726 e727 e728 e729 e730 e731 e732 e733 (i + 10) ⟨by omega, by omega⟩ (by exact wRM_le e734 (by omega)) (by omega)
      · refine r_swK (i := 24) (u := 1) (v := 638) (k := 15) (t := 570) rfl rfl h20 (by decide) (by decide) rfl ?_
        refine r_load (i := 570) (u := 1) (w := 2) rfl rfl rfl ?_
        refine r_load (i := 571) (u := 0) (w := 2) rfl rfl rfl ?_
        refine r_load (i := 572) (u := 4) (w := 0) rfl rfl rfl ?_
        refine r_const (i := 573) (u := 1) (z := 1) rfl rfl ?_
        refine r_iadd (i := 574) rfl ?_
        refine r_scA (i := 575) hG rfl (by omega) (by omega) fun h735 => ?_
        have h735 : Rg (sc (i + 1).toNat) := h735
        refine r_call (i := 576) (u := 0) (v := 4) (w := 0) (b := 0) (na := 514) (C2 := xC4) (as := [(2, 0), vi (sc (i + 1).toNat)]) (s := []) rfl rfl rfl rfl rfl rfl rfl (sp4 (k := sc (i + 1).toNat) hI ⟨by omega, by omega⟩   (by omega)) (fun r736 S737 hq738 => ?_)
        obtain ⟨z739, rfl, h740, h741, rfl⟩ := hq738
        refine Or.inr (Or.inl ⟨rfl, ?_⟩)
        refine r_pop (i := 577) rfl rfl ?_
        refine r_load (i := 578) (u := 2) (w := 2) rfl rfl rfl ?_
        refine r_load (i := 579) (u := 0) (w := 2) rfl rfl rfl ?_
        refine r_load (i := 580) (u := 4) (w := 0) rfl rfl rfl ?_
        refine r_const (i := 581) (u := 1) (z := 1) rfl rfl ?_
        refine r_iadd (i := 582) rfl ?_
        refine r_scA (i := 583) hG rfl (by omega) (by omega) fun h742 => ?_
        have h742 : Rg (sc (i + 1).toNat) := h742
        refine r_call (i := 584) (u := 11) (v := 187) (w := 0) (b := 0) (na := 514) (C2 := xC187) (as := [(2, 43), vi (sc (i + 1).toNat)]) (s := []) rfl rfl rfl rfl rfl rfl rfl (sp187 (k := sc (i + 1).toNat) hI ⟨by omega, by omega⟩   (by omega)) (fun r743 S744 hq745 => ?_)
        obtain ⟨z746, rfl, h747, h748, hI749, hF750, hR751⟩ := hq745
        have e752 := N23x.fr e_N23 hF750 hR751 rfl rfl rfl
        have e753 := CRx.fr e_CR hF750 rfl rfl
        have e754 := RTx.fr e_RT hF750 rfl rfl
        have e755 := RMex.fr e_RMe hF750 rfl rfl
        have e756 := RSx.fr e_RS hF750 rfl rfl
        have e757 := RThx.fr e_RTh hF750 rfl rfl
        have e758 := RIx.fr e_RI hF750 rfl rfl
        have e759 := RKx.fr e_RK hF750 rfl rfl
        have e760 := RSlx.fr e_RSl hF750 rfl rfl
        have e761 := RPx.fr e_RP hF750 rfl rfl
        have e762 := RSkx.fr e_RSk hF750 rfl rfl
        have e763 := RGx.fr e_RG hF750 rfl rfl
        have e764 := wRM_rm q_0 hR751
        refine Or.inr (Or.inl ⟨rfl, ?_⟩)
        refine r_pop (i := 585) rfl rfl ?_
        refine r_goto (i := 586) (v := 638) rfl ?_
        refine r_iinc (i := 638) (u := 10) (v := 4) (s := 10) (L1 := [some ((6, 0)), some ((2, 0)), some ((2, 43)), some ((2, 81)), some (vi (i + 10)), none, none]) rfl rfl rfl rfl rfl ?_
        refine r_goto (i := 639) (v := 13) rfl ?_
        exact ih S744 hI749 e752 e753 e754 e755 e756 e757 e758 e759 e760 e761 e762 e763 (i + 10) ⟨by omega, by omega⟩ (by exact wRM_le e764 (by omega)) (by omega)
      · refine r_swK (i := 24) (u := 1) (v := 638) (k := 16) (t := 587) rfl rfl h21 (by decide) (by decide) rfl ?_
        refine r_load (i := 587) (u := 1) (w := 2) rfl rfl rfl ?_
        refine r_load (i := 588) (u := 0) (w := 2) rfl rfl rfl ?_
        refine r_load (i := 589) (u := 4) (w := 0) rfl rfl rfl ?_
        refine r_const (i := 590) (u := 1) (z := 1) rfl rfl ?_
        refine r_iadd (i := 591) rfl ?_
        refine r_scA (i := 592) hG rfl (by omega) (by omega) fun h765 => ?_
        have h765 : Rg (sc (i + 1).toNat) := h765
        refine r_load (i := 593) (u := 0) (w := 2) rfl rfl rfl ?_
        refine r_load (i := 594) (u := 4) (w := 0) rfl rfl rfl ?_
        refine r_const (i := 595) (u := 2) (z := 2) rfl rfl ?_
        refine r_iadd (i := 596) rfl ?_
        refine r_scA (i := 597) hG rfl (by omega) (by omega) fun h766 => ?_
        have h766 : Rg (sc (i + 2).toNat) := h766
        refine r_call (i := 598) (u := 0) (v := 6) (w := 0) (b := 0) (na := 771) (C2 := xC6) (as := [(2, 0), vi (sc (i + 1).toNat), vi (sc (i + 2).toNat)]) (s := []) rfl rfl rfl rfl rfl rfl rfl (sp6 (k := sc (i + 1).toNat) (b := sc (i + 2).toNat) hI ⟨by omega, by omega⟩ ⟨by omega, by omega⟩   (by omega)) (fun r767 S768 hq769 => ?_)
        obtain ⟨z770, rfl, h771, h772, hI773, hF774, hR775⟩ := hq769
        have e776 := N23x.fr e_N23 hF774 hR775 rfl rfl rfl
        have e777 := CRx.fr e_CR hF774 rfl rfl
        have e778 := RTx.fr e_RT hF774 rfl rfl
        have e779 := RMex.fr e_RMe hF774 rfl rfl
        have e780 := RSx.fr e_RS hF774 rfl rfl
        have e781 := RThx.fr e_RTh hF774 rfl rfl
        have e782 := RIx.fr e_RI hF774 rfl rfl
        have e783 := RKx.fr e_RK hF774 rfl rfl
        have e784 := RSlx.fr e_RSl hF774 rfl rfl
        have e785 := RPx.fr e_RP hF774 rfl rfl
        have e786 := RSkx.fr e_RSk hF774 rfl rfl
        have e787 := RGx.fr e_RG hF774 rfl rfl
        have e788 := wRM_rm q_0 hR775
        refine Or.inr (Or.inl ⟨rfl, ?_⟩)
        refine r_pop (i := 599) rfl rfl ?_
        refine r_load (i := 600) (u := 2) (w := 2) rfl rfl rfl ?_
        refine r_load (i := 601) (u := 0) (w := 2) rfl rfl rfl ?_
        refine r_load (i := 602) (u := 4) (w := 0) rfl rfl rfl ?_
        refine r_const (i := 603) (u := 1) (z := 1) rfl rfl ?_
        refine r_iadd (i := 604) rfl ?_
        refine r_scA (i := 605) hG rfl (by omega) (by omega) fun h789 => ?_
        have h789 : Rg (sc (i + 1).toNat) := h789
        refine r_load (i := 606) (u := 0) (w := 2) rfl rfl rfl ?_
        refine r_load (i := 607) (u := 4) (w := 0) rfl rfl rfl ?_
        refine r_const (i := 608) (u := 2) (z := 2) rfl rfl ?_
        refine r_iadd (i := 609) rfl ?_
        refine r_scA (i := 610) hG rfl (by omega) (by omega) fun h790 => ?_
        have h790 : Rg (sc (i + 2).toNat) := h790
        refine r_call (i := 611) (u := 11) (v := 191) (w := 0) (b := 0) (na := 771) (C2 := xC191) (as := [(2, 43), vi (sc (i + 1).toNat), vi (sc (i + 2).toNat)]) (s := []) rfl rfl rfl rfl rfl rfl rfl (sp191 (k := sc (i + 1).toNat) (b := sc (i + 2).toNat) hI773 ⟨by omega, by omega⟩ ⟨by omega, by omega⟩   (by omega)) (fun r791 S792 hq793 => ?_)
        obtain ⟨z794, rfl, h795, h796, hI797, hF798, hR799⟩ := hq793
        have e800 := N23x.fr e776 hF798 hR799 rfl rfl rfl
        have e801 := CRx.fr e777 hF798 rfl rfl
        have e802 := RTx.fr e778 hF798 rfl rfl
        have e803 := RMex.fr e779 hF798 rfl rfl
        have e804 := RSx.fr e780 hF798 rfl rfl
        have e805 := RThx.fr e781 hF798 rfl rfl
        have e806 := RIx.fr e782 hF798 rfl rfl
        have e807 := RKx.fr e783 hF798 rfl rfl
        have e808 := RSlx.fr e784 hF798 rfl rfl
        have e809 := RPx.fr e785 hF798 rfl rfl
        have e810 := RSkx.fr e786 hF798 rfl rfl
        have e811 := RGx.fr e787 hF798 rfl rfl
        have e812 := wRM_rm e788 hR799
        refine Or.inr (Or.inl ⟨rfl, ?_⟩)
        refine r_pop (i := 612) rfl rfl ?_
        refine r_goto (i := 613) (v := 638) rfl ?_
        refine r_iinc (i := 638) (u := 10) (v := 4) (s := 10) (L1 := [some ((6, 0)), some ((2, 0)), some ((2, 43)), some ((2, 81)), some (vi (i + 10)), none, none]) rfl rfl rfl rfl rfl ?_
        refine r_goto (i := 639) (v := 13) rfl ?_
        exact ih S792 hI797 e800 e801 e802 e803 e804 e805 e806 e807 e808 e809 e810 e811 (i + 10) ⟨by omega, by omega⟩ (by exact wRM_le e812 (by omega)) (by omega)
      · refine r_swK (i := 24) (u := 1) (v := 638) (k := 17) (t := 614) rfl rfl h22 (by decide) (by decide) rfl ?_
        refine r_load (i := 614) (u := 1) (w := 2) rfl rfl rfl ?_
        refine r_load (i := 615) (u := 0) (w := 2) rfl rfl rfl ?_
        refine r_load (i := 616) (u := 4) (w := 0) rfl rfl rfl ?_
        refine r_const (i := 617) (u := 1) (z := 1) rfl rfl ?_
        refine r_iadd (i := 618) rfl ?_
        refine r_scA (i := 619) hG rfl (by omega) (by omega) fun h813 => ?_
        have h813 : Rg (sc (i + 1).toNat) := h813
        refine r_call (i := 620) (u := 0) (v := 7) (w := 0) (b := 0) (na := 514) (C2 := xC7) (as := [(2, 0), vi (sc (i + 1).toNat)]) (s := []) rfl rfl rfl rfl rfl rfl rfl (sp7 (k := sc (i + 1).toNat) hI ⟨by omega, by omega⟩   (by omega)) (fun r814 S815 hq816 => ?_)
        obtain ⟨z817, rfl, h818, h819, hI820, hF821, hR822⟩ := hq816
        have e823 := N23x.fr e_N23 hF821 hR822 rfl rfl rfl
        have e824 := CRx.fr e_CR hF821 rfl rfl
        have e825 := RTx.fr e_RT hF821 rfl rfl
        have e826 := RMex.fr e_RMe hF821 rfl rfl
        have e827 := RSx.fr e_RS hF821 rfl rfl
        have e828 := RThx.fr e_RTh hF821 rfl rfl
        have e829 := RIx.fr e_RI hF821 rfl rfl
        have e830 := RKx.fr e_RK hF821 rfl rfl
        have e831 := RSlx.fr e_RSl hF821 rfl rfl
        have e832 := RPx.fr e_RP hF821 rfl rfl
        have e833 := RSkx.fr e_RSk hF821 rfl rfl
        have e834 := RGx.fr e_RG hF821 rfl rfl
        have e835 := wRM_rm q_0 hR822
        refine Or.inr (Or.inl ⟨rfl, ?_⟩)
        refine r_pop (i := 621) rfl rfl ?_
        refine r_load (i := 622) (u := 2) (w := 2) rfl rfl rfl ?_
        refine r_load (i := 623) (u := 0) (w := 2) rfl rfl rfl ?_
        refine r_load (i := 624) (u := 4) (w := 0) rfl rfl rfl ?_
        refine r_const (i := 625) (u := 1) (z := 1) rfl rfl ?_
        refine r_iadd (i := 626) rfl ?_
        refine r_scA (i := 627) hG rfl (by omega) (by omega) fun h836 => ?_
        have h836 : Rg (sc (i + 1).toNat) := h836
        refine r_call (i := 628) (u := 11) (v := 197) (w := 0) (b := 0) (na := 514) (C2 := xC197) (as := [(2, 43), vi (sc (i + 1).toNat)]) (s := []) rfl rfl rfl rfl rfl rfl rfl (sp197 (k := sc (i + 1).toNat) hI820 ⟨by omega, by omega⟩   (by omega)) (fun r837 S838 hq839 => ?_)
        obtain ⟨z840, rfl, h841, h842, hI843, hF844, hR845⟩ := hq839
        have e846 := N23x.fr e823 hF844 hR845 rfl rfl rfl
        have e847 := CRx.fr e824 hF844 rfl rfl
        have e848 := RTx.fr e825 hF844 rfl rfl
        have e849 := RMex.fr e826 hF844 rfl rfl
        have e850 := RSx.fr e827 hF844 rfl rfl
        have e851 := RThx.fr e828 hF844 rfl rfl
        have e852 := RIx.fr e829 hF844 rfl rfl
        have e853 := RKx.fr e830 hF844 rfl rfl
        have e854 := RSlx.fr e831 hF844 rfl rfl
        have e855 := RPx.fr e832 hF844 rfl rfl
        have e856 := RSkx.fr e833 hF844 rfl rfl
        have e857 := RGx.fr e834 hF844 rfl rfl
        have e858 := wRM_rm e835 hR845
        refine Or.inr (Or.inl ⟨rfl, ?_⟩)
        refine r_pop (i := 629) rfl rfl ?_
        refine r_goto (i := 630) (v := 638) rfl ?_
        refine r_iinc (i := 638) (u := 10) (v := 4) (s := 10) (L1 := [some ((6, 0)), some ((2, 0)), some ((2, 43)), some ((2, 81)), some (vi (i + 10)), none, none]) rfl rfl rfl rfl rfl ?_
        refine r_goto (i := 639) (v := 13) rfl ?_
        exact ih S838 hI843 e846 e847 e848 e849 e850 e851 e852 e853 e854 e855 e856 e857 (i + 10) ⟨by omega, by omega⟩ (by exact wRM_le e858 (by omega)) (by omega)
      · refine r_swK (i := 24) (u := 1) (v := 638) (k := 18) (t := 631) rfl rfl h23 (by decide) (by decide) rfl ?_
        refine r_load (i := 631) (u := 1) (w := 2) rfl rfl rfl ?_
        refine r_call (i := 632) (u := 0) (v := 15) (w := 0) (b := 0) (na := 257) (C2 := xC15) (as := [(2, 0)]) (s := []) rfl rfl rfl rfl rfl rfl rfl (sp15  hI    (by omega)) (fun r859 S860 hq861 => ?_)
        obtain ⟨z862, rfl, h863, h864, hI865, hF866, hR867⟩ := hq861
        have e868 := N23x.fr e_N23 hF866 hR867 rfl rfl rfl
        have e869 := CRx.fr e_CR hF866 rfl rfl
        have e870 := RTx.fr e_RT hF866 rfl rfl
        have e871 := RMex.fr e_RMe hF866 rfl rfl
        have e872 := RSx.fr e_RS hF866 rfl rfl
        have e873 := RThx.fr e_RTh hF866 rfl rfl
        have e874 := RIx.fr e_RI hF866 rfl rfl
        have e875 := RKx.fr e_RK hF866 rfl rfl
        have e876 := RSlx.fr e_RSl hF866 rfl rfl
        have e877 := RPx.fr e_RP hF866 rfl rfl
        have e878 := RSkx.fr e_RSk hF866 rfl rfl
        have e879 := RGx.fr e_RG hF866 rfl rfl
        have e880 := wRM_rm q_0 hR867
        refine Or.inr (Or.inl ⟨rfl, ?_⟩)
        refine r_pop (i := 633) rfl rfl ?_
        refine r_load (i := 634) (u := 2) (w := 2) rfl rfl rfl ?_
        refine r_call (i := 635) (u := 11) (v := 235) (w := 0) (b := 0) (na := 1025) (C2 := xC235) (as := [(2, 43)]) (s := []) rfl rfl rfl rfl rfl rfl rfl (sp235  hI865    (by omega)) (fun r881 S882 hq883 => ?_)
        obtain ⟨z884, rfl, h885, h886, hI887, hF888, hR889⟩ := hq883
        have e890 := N23x.fr e868 hF888 hR889 rfl rfl rfl
        have e891 := CRx.fr e869 hF888 rfl rfl
        have e892 := RTx.fr e870 hF888 rfl rfl
        have e893 := RMex.fr e871 hF888 rfl rfl
        have e894 := RSx.fr e872 hF888 rfl rfl
        have e895 := RThx.fr e873 hF888 rfl rfl
        have e896 := RIx.fr e874 hF888 rfl rfl
        have e897 := RKx.fr e875 hF888 rfl rfl
        have e898 := RSlx.fr e876 hF888 rfl rfl
        have e899 := RPx.fr e877 hF888 rfl rfl
        have e900 := RSkx.fr e878 hF888 rfl rfl
        have e901 := RGx.fr e879 hF888 rfl rfl
        have e902 := wRM_rm e880 hR889
        refine Or.inr (Or.inl ⟨rfl, ?_⟩)
        refine r_pop (i := 636) rfl rfl ?_
        refine r_goto (i := 637) (v := 638) rfl ?_
        refine r_iinc (i := 638) (u := 10) (v := 4) (s := 10) (L1 := [some ((6, 0)), some ((2, 0)), some ((2, 43)), some ((2, 81)), some (vi (i + 10)), none, none]) rfl rfl rfl rfl rfl ?_
        refine r_goto (i := 639) (v := 13) rfl ?_
        exact ih S882 hI887 e890 e891 e892 e893 e894 e895 e896 e897 e898 e899 e900 e901 (i + 10) ⟨by omega, by omega⟩ (by exact wRM_le e902 (by omega)) (by omega)
      · refine r_swK (i := 24) (u := 1) (v := 638) (k := 19) (t := 638) rfl rfl h24 (by decide) (by decide) rfl ?_
        refine r_iinc (i := 638) (u := 10) (v := 4) (s := 10) (L1 := [some ((6, 0)), some ((2, 0)), some ((2, 43)), some ((2, 81)), some (vi (i + 10)), none, none]) rfl rfl rfl rfl rfl ?_
        refine r_goto (i := 639) (v := 13) rfl ?_
        exact ih S hI e_N23 e_CR e_RT e_RMe e_RS e_RTh e_RI e_RK e_RSl e_RP e_RSk e_RG (i + 10) ⟨by omega, by omega⟩ (by exact wRM_le q_0 (by omega)) (by omega)
      · refine r_swK (i := 24) (u := 1) (v := 638) (k := 20) (t := 638) rfl rfl h25 (by decide) (by decide) rfl ?_
        refine r_iinc (i := 638) (u := 10) (v := 4) (s := 10) (L1 := [some ((6, 0)), some ((2, 0)), some ((2, 43)), some ((2, 81)), some (vi (i + 10)), none, none]) rfl rfl rfl rfl rfl ?_
        refine r_goto (i := 639) (v := 13) rfl ?_
        exact ih S hI e_N23 e_CR e_RT e_RMe e_RS e_RTh e_RI e_RK e_RSl e_RP e_RSk e_RG (i + 10) ⟨by omega, by omega⟩ (by exact wRM_le q_0 (by omega)) (by omega)
      · refine r_swK (i := 24) (u := 1) (v := 638) (k := 21) (t := 638) rfl rfl h26 (by decide) (by decide) rfl ?_
        refine r_iinc (i := 638) (u := 10) (v := 4) (s := 10) (L1 := [some ((6, 0)), some ((2, 0)), some ((2, 43)), some ((2, 81)), some (vi (i + 10)), none, none]) rfl rfl rfl rfl rfl ?_
        refine r_goto (i := 639) (v := 13) rfl ?_
        exact ih S hI e_N23 e_CR e_RT e_RMe e_RS e_RTh e_RI e_RK e_RSl e_RP e_RSk e_RG (i + 10) ⟨by omega, by omega⟩ (by exact wRM_le q_0 (by omega)) (by omega)
      · refine r_swK (i := 24) (u := 1) (v := 638) (k := 22) (t := 638) rfl rfl h27 (by decide) (by decide) rfl ?_
        refine r_iinc (i := 638) (u := 10) (v := 4) (s := 10) (L1 := [some ((6, 0)), some ((2, 0)), some ((2, 43)), some ((2, 81)), some (vi (i + 10)), none, none]) rfl rfl rfl rfl rfl ?_
        refine r_goto (i := 639) (v := 13) rfl ?_
        exact ih S hI e_N23 e_CR e_RT e_RMe e_RS e_RTh e_RI e_RK e_RSl e_RP e_RSk e_RG (i + 10) ⟨by omega, by omega⟩ (by exact wRM_le q_0 (by omega)) (by omega)
      · refine r_swK (i := 24) (u := 1) (v := 638) (k := 23) (t := 638) rfl rfl h28 (by decide) (by decide) rfl ?_
        refine r_iinc (i := 638) (u := 10) (v := 4) (s := 10) (L1 := [some ((6, 0)), some ((2, 0)), some ((2, 43)), some ((2, 81)), some (vi (i + 10)), none, none]) rfl rfl rfl rfl rfl ?_
        refine r_goto (i := 639) (v := 13) rfl ?_
        exact ih S hI e_N23 e_CR e_RT e_RMe e_RS e_RTh e_RI e_RK e_RSl e_RP e_RSk e_RG (i + 10) ⟨by omega, by omega⟩ (by exact wRM_le q_0 (by omega)) (by omega)
      · refine r_swK (i := 24) (u := 1) (v := 638) (k := 24) (t := 638) rfl rfl h29 (by decide) (by decide) rfl ?_
        refine r_iinc (i := 638) (u := 10) (v := 4) (s := 10) (L1 := [some ((6, 0)), some ((2, 0)), some ((2, 43)), some ((2, 81)), some (vi (i + 10)), none, none]) rfl rfl rfl rfl rfl ?_
        refine r_goto (i := 639) (v := 13) rfl ?_
        exact ih S hI e_N23 e_CR e_RT e_RMe e_RS e_RTh e_RI e_RK e_RSl e_RP e_RSk e_RG (i + 10) ⟨by omega, by omega⟩ (by exact wRM_le q_0 (by omega)) (by omega)
      · refine r_swK (i := 24) (u := 1) (v := 638) (k := 25) (t := 638) rfl rfl h30 (by decide) (by decide) rfl ?_
        refine r_iinc (i := 638) (u := 10) (v := 4) (s := 10) (L1 := [some ((6, 0)), some ((2, 0)), some ((2, 43)), some ((2, 81)), some (vi (i + 10)), none, none]) rfl rfl rfl rfl rfl ?_
        refine r_goto (i := 639) (v := 13) rfl ?_
        exact ih S hI e_N23 e_CR e_RT e_RMe e_RS e_RTh e_RI e_RK e_RSl e_RP e_RSk e_RG (i + 10) ⟨by omega, by omega⟩ (by exact wRM_le q_0 (by omega)) (by omega)
      · refine r_swK (i := 24) (u := 1) (v := 638) (k := 26) (t := 638) rfl rfl h31 (by decide) (by decide) rfl ?_
        refine r_iinc (i := 638) (u := 10) (v := 4) (s := 10) (L1 := [some ((6, 0)), some ((2, 0)), some ((2, 43)), some ((2, 81)), some (vi (i + 10)), none, none]) rfl rfl rfl rfl rfl ?_
        refine r_goto (i := 639) (v := 13) rfl ?_
        exact ih S hI e_N23 e_CR e_RT e_RMe e_RS e_RTh e_RI e_RK e_RSl e_RP e_RSk e_RG (i + 10) ⟨by omega, by omega⟩ (by exact wRM_le q_0 (by omega)) (by omega)
      · refine r_swK (i := 24) (u := 1) (v := 638) (k := 27) (t := 638) rfl rfl h32 (by decide) (by decide) rfl ?_
        refine r_iinc (i := 638) (u := 10) (v := 4) (s := 10) (L1 := [some ((6, 0)), some ((2, 0)), some ((2, 43)), some ((2, 81)), some (vi (i + 10)), none, none]) rfl rfl rfl rfl rfl ?_
        refine r_goto (i := 639) (v := 13) rfl ?_
        exact ih S hI e_N23 e_CR e_RT e_RMe e_RS e_RTh e_RI e_RK e_RSl e_RP e_RSk e_RG (i + 10) ⟨by omega, by omega⟩ (by exact wRM_le q_0 (by omega)) (by omega)
      · refine r_swK (i := 24) (u := 1) (v := 638) (k := 28) (t := 638) rfl rfl h33 (by decide) (by decide) rfl ?_
        refine r_iinc (i := 638) (u := 10) (v := 4) (s := 10) (L1 := [some ((6, 0)), some ((2, 0)), some ((2, 43)), some ((2, 81)), some (vi (i + 10)), none, none]) rfl rfl rfl rfl rfl ?_
        refine r_goto (i := 639) (v := 13) rfl ?_
        exact ih S hI e_N23 e_CR e_RT e_RMe e_RS e_RTh e_RI e_RK e_RSl e_RP e_RSk e_RG (i + 10) ⟨by omega, by omega⟩ (by exact wRM_le q_0 (by omega)) (by omega)
      · refine r_swK (i := 24) (u := 1) (v := 638) (k := 29) (t := 638) rfl rfl h34 (by decide) (by decide) rfl ?_
        refine r_iinc (i := 638) (u := 10) (v := 4) (s := 10) (L1 := [some ((6, 0)), some ((2, 0)), some ((2, 43)), some ((2, 81)), some (vi (i + 10)), none, none]) rfl rfl rfl rfl rfl ?_
        refine r_goto (i := 639) (v := 13) rfl ?_
        exact ih S hI e_N23 e_CR e_RT e_RMe e_RS e_RTh e_RI e_RK e_RSl e_RP e_RSk e_RG (i + 10) ⟨by omega, by omega⟩ (by exact wRM_le q_0 (by omega)) (by omega)
      · refine r_swK (i := 24) (u := 1) (v := 638) (k := 30) (t := 638) rfl rfl h35 (by decide) (by decide) rfl ?_
        refine r_iinc (i := 638) (u := 10) (v := 4) (s := 10) (L1 := [some ((6, 0)), some ((2, 0)), some ((2, 43)), some ((2, 81)), some (vi (i + 10)), none, none]) rfl rfl rfl rfl rfl ?_
        refine r_goto (i := 639) (v := 13) rfl ?_
        exact ih S hI e_N23 e_CR e_RT e_RMe e_RS e_RTh e_RI e_RK e_RSl e_RP e_RSk e_RG (i + 10) ⟨by omega, by omega⟩ (by exact wRM_le q_0 (by omega)) (by omega)
      · refine r_swK (i := 24) (u := 1) (v := 638) (k := 31) (t := 638) rfl rfl h36 (by decide) (by decide) rfl ?_
        refine r_iinc (i := 638) (u := 10) (v := 4) (s := 10) (L1 := [some ((6, 0)), some ((2, 0)), some ((2, 43)), some ((2, 81)), some (vi (i + 10)), none, none]) rfl rfl rfl rfl rfl ?_
        refine r_goto (i := 639) (v := 13) rfl ?_
        exact ih S hI e_N23 e_CR e_RT e_RMe e_RS e_RTh e_RI e_RK e_RSl e_RP e_RSk e_RG (i + 10) ⟨by omega, by omega⟩ (by exact wRM_le q_0 (by omega)) (by omega)
end XNC
