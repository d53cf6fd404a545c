set_option linter.unusedVariables false
set_option maxRecDepth 4000
noncomputable section XNC
/-- ProxyForgeLaw.type -/
theorem sp179 {G : xk} {S : yS} {d : Nat} (hI : yI S) {kR : Int} {p0 : Int} (h_p0 : 0 ≤ p0 ∧ p0 ≤ 1) {p1 : Int} (h_p1 : -2147483648 ≤ p1 ∧ p1 ≤ 2147483647) {p2 : Int} (h_p2 : -2147483648 ≤ p2 ∧ p2 ≤ 2147483647) {p3 : Int} (h_p3 : -2147483648 ≤ p3 ∧ p3 ≤ 2147483647) (p_0 : wRM (kR + 1) S) (p_1 : 0 ≤ kR) (e_N23 : N23 S) (e_CR : CR S) (hd : 7 ≤ d) : yT xPr G LY xC179 0 [some ((2, 0)), some (vi p0), some (vi p1), some (vi p2), some (vi p3), some ((2, 81))] [] S d (fun r S' => ∃ z : Int, r = (1, vi z) ∧ 0 ≤ z ∧ z ≤ 2 ∧ wRM kR S' ∧ hTy S S' p0 p1 p2 p3 z ∧ (z = 0 → c6T S S' p3) ∧ N23 S' ∧ CR S' ∧ yI S' ∧ yFr [(1, 7)] [2, 3, 4, 5, 6, 81] S S') := by
  refine yT_pad 1 ?_
  show yT xPr G LY xC179 0 [some ((2, 0)), some (vi p0), some (vi p1), some (vi p2), some (vi p3), some ((2, 81)), none] [] S d _
  obtain ⟨d, rfl⟩ : ∃ q, d = q + 1 := ⟨d - 1, by omega⟩
  have hF : yFr [(1, 7)] [2, 3, 4, 5, 6, 81] S S := yFr.refl S
  have e_RM := p_0
  refine r_load (i := 0) (u := 5) (w := 2) rfl rfl rfl ?_
  refine r_const (i := 1) (u := 0) (z := 0) rfl rfl ?_
  refine r_load (i := 2) (u := 0) (w := 2) rfl rfl rfl ?_
  refine r_load (i := 3) (u := 1) (w := 0) rfl rfl rfl ?_
  refine r_load (i := 4) (u := 2) (w := 0) rfl rfl rfl ?_
  refine r_load (i := 5) (u := 3) (w := 0) rfl rfl rfl ?_
  refine r_load (i := 6) (u := 4) (w := 0) rfl rfl rfl ?_
  have h1 := hI.f tf1_7
  refine r_call (i := 7) (u := 3940705509310464) (v := 21) (w := 11) (b := 0) (na := 1285) (C2 := xC21) (as := [(2, 0), vi p0, vi p1, vi p2, vi p3]) (s := [vi 0, (2, 81)]) rfl rfl rfl rfl rfl rfl rfl (sp21 (b := p0) (fl := p1) (p := p2) (up := p3) hI ⟨by omega, by omega⟩ ⟨by omega, by omega⟩ ⟨by omega, by omega⟩ ⟨by omega, by omega⟩   (by omega)) (fun r2 S3 hq4 => ?_)
  rcases hq4 with hq5 | ⟨a7, c9, rfl, hc6, rfl⟩
  · obtain ⟨z8, rfl, h9, h10, tc11, tl12, tz13, ct14, c6t15, hI16, hF17, hR18⟩ := hq5
    have hF19 := hF.trans hF17 rfl rfl
    have e20 := N23x.fr e_N23 hF17 hR18 rfl rfl rfl
    have e21 := CRx.fr e_CR hF17 rfl rfl
    have e22 := wRM_rm e_RM hR18
    refine Or.inr (Or.inl ⟨rfl, ?_⟩)
    refine r_i2l (i := 8) rfl ⟨by omega, by omega⟩ ?_
    refine r_lastore (i := 9) rfl ly81 (by decide) (by omega) (by omega) ⟨by omega, by omega⟩ ?_
    have hI24 := hI16.seta0 (b := 81) (j := (0 : Int).toNat) (z := z8) rfl rfl
    have hF26 := hF19.seta (b := 81) (j := (0 : Int).toNat) (z := z8) rfl
    have e28 := N23x.seta e20 (b := 81) (j := (0 : Int).toNat) (z := z8) rfl
    have e29 := CRx.seta e21 (b := 81) (j := (0 : Int).toNat) (z := z8) rfl
    have e30 := wRM_a e22 (b := 81) (j := (0 : Int).toNat) (z := z8)
    refine yT_gen (fun S23 hS25 => ?_)
    rw [hS25] at hI24 hF26  e28 e29 e30
    refine r_goto (i := 10) (v := 17) rfl ?_
    refine r_const (i := 17) (u := 0) (z := 0) rfl rfl ?_
    exact r_retI (i := 18) rfl ⟨0, rfl, by omega, by omega, (by exact wRM_le e30 (by omega)), (by exact Or.inl ⟨rfl, tc11, tl12, by first | (subst hS25; exact ysa_eq.trans tz13) | (subst_vars; rfl), by subst hS25; exact cTy81 ct14⟩), (by intro _; subst hS25; exact c6t15), e28, e29, hI24, hF26⟩
  · obtain ⟨hI31, rm32⟩ := wRM_cost e_RM hI (by omega)
    have e33 : N23 (ycost S 1 6) := e_N23
    have e34 : CR (ycost S 1 6) := e_CR
    have hF35 : yFr [(1, 7)] [2, 3, 4, 5, 6, 81] S (ycost S 1 6) := hF
    rcases hc6 with ⟨rfl, xphc6⟩ | ⟨rfl, xphc6⟩
    · refine Or.inr (Or.inr (Or.inl ⟨rfl, rfl, by decide, ?_⟩))
      refine r_store (i := 11) (u := 6) (w := 2) (L1 := [some ((2, 0)), some (vi p0), some (vi p1), some (vi p2), some (vi p3), some ((2, 81)), some ((2, a7))]) rfl rfl rfl rfl ?_
      refine r_const (i := 12) (u := 1) (z := 1) rfl rfl ?_
      exact r_retI (i := 13) rfl ⟨1, rfl, by omega, by omega, (by exact wRM_le rm32 (by omega)), (by first | exact Or.inr (Or.inl ⟨rfl, xphc6, rfl, rfl⟩) | exact Or.inr (Or.inr ⟨rfl, xphc6.1, xphc6.2, rfl, rfl⟩)), (by intro hz; exact absurd hz (by omega)), e33, e34, hI31, hF35⟩
    · refine Or.inr (Or.inr (Or.inr ⟨rfl, (show (13 : Nat) ≠ 3940705509310464 / 65536 % 65536 by decide), rfl, by decide, ?_⟩))
      refine r_store (i := 14) (u := 6) (w := 2) (L1 := [some ((2, 0)), some (vi p0), some (vi p1), some (vi p2), some (vi p3), some ((2, 81)), some ((2, a7))]) rfl rfl rfl rfl ?_
      refine r_const (i := 15) (u := 2) (z := 2) rfl rfl ?_
      exact r_retI (i := 16) rfl ⟨2, rfl, by omega, by omega, (by exact wRM_le rm32 (by omega)), (by first | exact Or.inr (Or.inl ⟨rfl, xphc6, rfl, rfl⟩) | exact Or.inr (Or.inr ⟨rfl, xphc6.1, xphc6.2, rfl, rfl⟩)), (by intro hz; exact absurd hz (by omega)), e33, e34, hI31, hF35⟩
/-- ProxyForgeLaw.implement -/
theorem sp176 {G : xk} {S : yS} {d : Nat} (hI : yI S) {kR : Int} {p0 : Int} (h_p0 : -2147483648 ≤ p0 ∧ p0 ≤ 2147483647) {p1 : Int} (h_p1 : -2147483648 ≤ p1 ∧ p1 ≤ 2147483647) (p_0 : wRM (kR + 1) S) (p_1 : 0 ≤ kR) (e_N23 : N23 S) (e_CR : CR S) (hd : 7 ≤ d) : yT xPr G LY xC176 0 [some ((2, 0)), some (vi p0), some (vi p1)] [] S d (fun r S' => ∃ z : Int, r = (1, vi z) ∧ 0 ≤ z ∧ z ≤ 2 ∧ wRM kR S' ∧ hIm S S' p0 p1 z ∧ N23 S' ∧ CR S' ∧ yI S' ∧ yFr [] [6, 7, 8] S S') := by
  refine yT_pad 1 ?_
  show yT xPr G LY xC176 0 [some ((2, 0)), some (vi p0), some (vi p1), none] [] S d _
  obtain ⟨d, rfl⟩ : ∃ q, d = q + 1 := ⟨d - 1, by omega⟩
  have hF : yFr [] [6, 7, 8] S S := yFr.refl S
  have e_RM := p_0
  refine r_load (i := 0) (u := 0) (w := 2) rfl rfl rfl ?_
  refine r_load (i := 1) (u := 1) (w := 0) rfl rfl rfl ?_
  refine r_load (i := 2) (u := 2) (w := 0) rfl rfl rfl ?_
  refine r_call (i := 3) (u := 786432) (v := 10) (w := 5) (b := 0) (na := 771) (C2 := xC10) (as := [(2, 0), vi p0, vi p1]) (s := []) rfl rfl rfl rfl rfl rfl rfl (sp10 (t := p0) (f := p1) hI ⟨by omega, by omega⟩ ⟨by omega, by omega⟩   (by omega)) (fun r1 S2 hq3 => ?_)
  rcases hq3 with hq4 | ⟨a6, c9, rfl, hc5, rfl⟩
  · obtain ⟨rfl, ic7, ci28, hI9, hF10, hR11⟩ := hq4
    have hF12 := hF.trans hF10 rfl rfl
    have e13 := N23x.fr e_N23 hF10 hR11 rfl rfl rfl
    have e14 := CRx.fr e_CR hF10 rfl rfl
    have e15 := wRM_rm e_RM hR11
    refine Or.inl ⟨rfl, ?_⟩
    refine r_goto (i := 4) (v := 8) rfl ?_
    refine r_const (i := 8) (u := 0) (z := 0) rfl rfl ?_
    exact r_retI (i := 9) rfl ⟨0, rfl, by omega, by omega, (by exact wRM_le e15 (by omega)), (by exact Or.inl ⟨rfl, ic7, ci28⟩), e13, e14, hI9, hF12⟩
  · obtain ⟨hI16, rm17⟩ := wRM_cost e_RM hI (by omega)
    have e18 : N23 (ycost S 1 6) := e_N23
    have e19 : CR (ycost S 1 6) := e_CR
    have hF20 : yFr [] [6, 7, 8] S (ycost S 1 6) := hF
    obtain ⟨rfl, xphc5⟩ := hc5
    · refine Or.inr (Or.inr (Or.inl ⟨rfl, rfl, by decide, ?_⟩))
      refine r_store (i := 5) (u := 3) (w := 2) (L1 := [some ((2, 0)), some (vi p0), some (vi p1), some ((2, a6))]) rfl rfl rfl rfl ?_
      refine r_const (i := 6) (u := 1) (z := 1) rfl rfl ?_
      exact r_retI (i := 7) rfl ⟨1, rfl, by omega, by omega, (by exact wRM_le rm17 (by omega)), (by exact Or.inr ⟨rfl, xphc5, rfl, rfl⟩), e18, e19, hI16, hF20⟩
/-- ProxyForgeLaw.method -/
theorem sp177 {G : xk} {S : yS} {d : Nat} (hI : yI S) {kR : Int} {p0 : Int} (h_p0 : -2147483648 ≤ p0 ∧ p0 ≤ 2147483647) {p1 : Int} (h_p1 : -2147483648 ≤ p1 ∧ p1 ≤ 2147483647) {p2 : Int} (h_p2 : -2147483648 ≤ p2 ∧ p2 ≤ 2147483647) {p3 : Int} (h_p3 : -2147483648 ≤ p3 ∧ p3 ≤ 2147483647) {p4 : Int} (h_p4 : -2147483648 ≤ p4 ∧ p4 ≤ 2147483647) (p_0 : wRM (kR + 1) S) (p_1 : 0 ≤ kR) (e_N23 : N23 S) (e_CR : CR S) (hd : 7 ≤ d) : yT xPr G LY xC177 0 [some ((2, 0)), some (vi p0), some (vi p1), some (vi p2), some (vi p3), some (vi p4), some ((2, 81))] [] S d (fun r S' => ∃ z : Int, r = (1, vi z) ∧ 0 ≤ z ∧ z ≤ 2 ∧ wRM kR S' ∧ hMe S S' p0 p1 p2 p3 p4 z ∧ N23 S' ∧ CR S' ∧ yI S' ∧ yFr [(9, 8)] [10, 11, 12, 13, 14, 81] S S') := by
  refine yT_pad 1 ?_
  show yT xPr G LY xC177 0 [some ((2, 0)), some (vi p0), some (vi p1), some (vi p2), some (vi p3), some (vi p4), some ((2, 81)), none] [] S d _
  obtain ⟨d, rfl⟩ : ∃ q, d = q + 1 := ⟨d - 1, by omega⟩
  have hF : yFr [(9, 8)] [10, 11, 12, 13, 14, 81] S S := yFr.refl S
  have e_RM := p_0
  refine r_load (i := 0) (u := 6) (w := 2) rfl rfl rfl ?_
  refine r_const (i := 1) (u := 0) (z := 0) rfl rfl ?_
  refine r_load (i := 2) (u := 0) (w := 2) rfl rfl rfl ?_
  refine r_load (i := 3) (u := 1) (w := 0) rfl rfl rfl ?_
  refine r_load (i := 4) (u := 2) (w := 0) rfl rfl rfl ?_
  refine r_load (i := 5) (u := 3) (w := 0) rfl rfl rfl ?_
  refine r_load (i := 6) (u := 4) (w := 0) rfl rfl rfl ?_
  refine r_load (i := 7) (u := 5) (w := 0) rfl rfl rfl ?_
  have h1 := hI.f tf9_8
  refine r_call (i := 8) (u := 4222180486021120) (v := 13) (w := 12) (b := 0) (na := 1542) (C2 := xC13) (as := [(2, 0), vi p0, vi p1, vi p2, vi p3, vi p4]) (s := [vi 0, (2, 81)]) rfl rfl rfl rfl rfl rfl rfl (sp13 (t := p0) (w0 := p1) (fl := p2) (p := p3) (b := p4) hI ⟨by omega, by omega⟩ ⟨by omega, by omega⟩ ⟨by omega, by omega⟩ ⟨by omega, by omega⟩ ⟨by omega, by omega⟩   (by omega)) (fun r2 S3 hq4 => ?_)
  rcases hq4 with hq5 | ⟨a7, c9, rfl, hc6, rfl⟩
  · obtain ⟨z8, rfl, h9, h10, tc11, tl12, tz13, ct14, hI15, hF16, hR17⟩ := hq5
    have hF18 := hF.trans hF16 rfl rfl
    have e19 := N23x.fr e_N23 hF16 hR17 rfl rfl rfl
    have e20 := CRx.fr e_CR hF16 rfl rfl
    have e21 := wRM_rm e_RM hR17
    refine Or.inr (Or.inl ⟨rfl, ?_⟩)
    refine r_i2l (i := 9) rfl ⟨by omega, by omega⟩ ?_
    refine r_lastore (i := 10) rfl ly81 (by decide) (by omega) (by omega) ⟨by omega, by omega⟩ ?_
    have hI23 := hI15.seta0 (b := 81) (j := (0 : Int).toNat) (z := z8) rfl rfl
    have hF25 := hF18.seta (b := 81) (j := (0 : Int).toNat) (z := z8) rfl
    have e27 := N23x.seta e19 (b := 81) (j := (0 : Int).toNat) (z := z8) rfl
    have e28 := CRx.seta e20 (b := 81) (j := (0 : Int).toNat) (z := z8) rfl
    have e29 := wRM_a e21 (b := 81) (j := (0 : Int).toNat) (z := z8)
    refine yT_gen (fun S22 hS24 => ?_)
    rw [hS24] at hI23 hF25  e27 e28 e29
    refine r_goto (i := 11) (v := 18) rfl ?_
    refine r_const (i := 18) (u := 0) (z := 0) rfl rfl ?_
    exact r_retI (i := 19) rfl ⟨0, rfl, by omega, by omega, (by exact wRM_le e29 (by omega)), (by exact Or.inl ⟨rfl, tc11, tl12, by first | (subst hS24; exact ysa_eq.trans tz13) | (subst_vars; rfl), by subst hS24; exact cMe81 ct14⟩), e27, e28, hI23, hF25⟩
  · obtain ⟨hI30, rm31⟩ := wRM_cost e_RM hI (by omega)
    have e32 : N23 (ycost S 1 6) := e_N23
    have e33 : CR (ycost S 1 6) := e_CR
    have hF34 : yFr [(9, 8)] [10, 11, 12, 13, 14, 81] S (ycost S 1 6) := hF
    rcases hc6 with ⟨rfl, xphc6⟩ | ⟨rfl, xphc6⟩
    · refine Or.inr (Or.inr (Or.inl ⟨rfl, rfl, by decide, ?_⟩))
      refine r_store (i := 12) (u := 7) (w := 2) (L1 := [some ((2, 0)), some (vi p0), some (vi p1), some (vi p2), some (vi p3), some (vi p4), some ((2, 81)), some ((2, a7))]) rfl rfl rfl rfl ?_
      refine r_const (i := 13) (u := 1) (z := 1) rfl rfl ?_
      exact r_retI (i := 14) rfl ⟨1, rfl, by omega, by omega, (by exact wRM_le rm31 (by omega)), (by first | exact Or.inr (Or.inl ⟨rfl, xphc6, rfl, rfl⟩) | exact Or.inr (Or.inr ⟨rfl, xphc6.1, xphc6.2, rfl, rfl⟩)), e32, e33, hI30, hF34⟩
    · refine Or.inr (Or.inr (Or.inr ⟨rfl, (show (13 : Nat) ≠ 4222180486021120 / 65536 % 65536 by decide), rfl, by decide, ?_⟩))
      refine r_store (i := 15) (u := 7) (w := 2) (L1 := [some ((2, 0)), some (vi p0), some (vi p1), some (vi p2), some (vi p3), some (vi p4), some ((2, 81)), some ((2, a7))]) rfl rfl rfl rfl ?_
      refine r_const (i := 16) (u := 2) (z := 2) rfl rfl ?_
      exact r_retI (i := 17) rfl ⟨2, rfl, by omega, by omega, (by exact wRM_le rm31 (by omega)), (by first | exact Or.inr (Or.inl ⟨rfl, xphc6, rfl, rfl⟩) | exact Or.inr (Or.inr ⟨rfl, xphc6.1, xphc6.2, rfl, rfl⟩)), e32, e33, hI30, hF34⟩
/-- ProxyForgeLaw.throwing -/
theorem sp178 {G : xk} {S : yS} {d : Nat} (hI : yI S) {kR : Int} {p0 : Int} (h_p0 : -2147483648 ≤ p0 ∧ p0 ≤ 2147483647) {p1 : Int} (h_p1 : -2147483648 ≤ p1 ∧ p1 ≤ 2147483647) (p_0 : wRM (kR + 1) S) (p_1 : 0 ≤ kR) (e_N23 : N23 S) (e_CR : CR S) (hd : 7 ≤ d) : yT xPr G LY xC178 0 [some ((2, 0)), some (vi p0), some (vi p1)] [] S d (fun r S' => ∃ z : Int, r = (1, vi z) ∧ 0 ≤ z ∧ z ≤ 2 ∧ wRM kR S' ∧ hTh S S' p0 p1 z ∧ N23 S' ∧ CR S' ∧ yI S' ∧ yFr [] [15, 16] S S') := by
  refine yT_pad 1 ?_
  show yT xPr G LY xC178 0 [some ((2, 0)), some (vi p0), some (vi p1), none] [] S d _
  obtain ⟨d, rfl⟩ : ∃ q, d = q + 1 := ⟨d - 1, by omega⟩
  have hF : yFr [] [15, 16] S S := yFr.refl S
  have e_RM := p_0
  refine r_load (i := 0) (u := 0) (w := 2) rfl rfl rfl ?_
  refine r_load (i := 1) (u := 1) (w := 0) rfl rfl rfl ?_
  refine r_load (i := 2) (u := 2) (w := 0) rfl rfl rfl ?_
  refine r_call (i := 3) (u := 786432) (v := 20) (w := 5) (b := 0) (na := 771) (C2 := xC20) (as := [(2, 0), vi p0, vi p1]) (s := []) rfl rfl rfl rfl rfl rfl rfl (sp20 (m := p0) (t := p1) hI ⟨by omega, by omega⟩ ⟨by omega, by omega⟩   (by omega)) (fun r1 S2 hq3 => ?_)
  rcases hq3 with hq4 | ⟨a6, c9, rfl, hc5, rfl⟩
  · obtain ⟨rfl, tc27, cth28, hI9, hF10, hR11⟩ := hq4
    have hF12 := hF.trans hF10 rfl rfl
    have e13 := N23x.fr e_N23 hF10 hR11 rfl rfl rfl
    have e14 := CRx.fr e_CR hF10 rfl rfl
    have e15 := wRM_rm e_RM hR11
    refine Or.inl ⟨rfl, ?_⟩
    refine r_goto (i := 4) (v := 8) rfl ?_
    refine r_const (i := 8) (u := 0) (z := 0) rfl rfl ?_
    exact r_retI (i := 9) rfl ⟨0, rfl, by omega, by omega, (by exact wRM_le e15 (by omega)), (by exact Or.inl ⟨rfl, tc27, cth28⟩), e13, e14, hI9, hF12⟩
  · obtain ⟨hI16, rm17⟩ := wRM_cost e_RM hI (by omega)
    have e18 : N23 (ycost S 1 6) := e_N23
    have e19 : CR (ycost S 1 6) := e_CR
    have hF20 : yFr [] [15, 16] S (ycost S 1 6) := hF
    obtain ⟨rfl, xphc5⟩ := hc5
    · refine Or.inr (Or.inr (Or.inl ⟨rfl, rfl, by decide, ?_⟩))
      refine r_store (i := 5) (u := 3) (w := 2) (L1 := [some ((2, 0)), some (vi p0), some (vi p1), some ((2, a6))]) rfl rfl rfl rfl ?_
      refine r_const (i := 6) (u := 1) (z := 1) rfl rfl ?_
      exact r_retI (i := 7) rfl ⟨1, rfl, by omega, by omega, (by exact wRM_le rm17 (by omega)), (by exact Or.inr ⟨rfl, xphc5, rfl, rfl⟩), e18, e19, hI16, hF20⟩
/-- ProxyForgeLaw.forge -/
theorem sp175 {G : xk} {S : yS} {d : Nat} (hI : yI S) {kR : Int} {p0 : Int} (h_p0 : -2147483648 ≤ p0 ∧ p0 ≤ 2147483647) {p1 : Int} (h_p1 : -2147483648 ≤ p1 ∧ p1 ≤ 2147483647) {p2 : Int} (h_p2 : -2147483648 ≤ p2 ∧ p2 ≤ 2147483647) {p3 : Int} (h_p3 : -2147483648 ≤ p3 ∧ p3 ≤ 2147483647) (p_0 : wRM (kR + 1) S) (p_1 : 0 ≤ kR) (e_N23 : N23 S) (e_CR : CR S) (hd : 26 ≤ d) : yT xPr G LY xC175 0 [some ((2, 0)), some (vi p0), some (vi p1), some (vi p2), some (vi p3), some ((2, 81))] [] S d (fun r S' => ∃ z : Int, r = (1, vi z) ∧ 0 ≤ z ∧ z ≤ 2 ∧ wRM kR S' ∧ hFx S S' p0 p1 p2 p3 z ∧ hFi S S' p0 p1 p2 p3 z ∧ N23 S' ∧ CR S' ∧ yI S' ∧ yFr [(17, 6), (17, 7), (17, 8), (17, 9), (17, 10), (17, 11), (17, 12), (22, 3), (31, 1), (33, 7), (33, 8), (33, 9), (33, 10), (33, 11), (33, 12), (33, 13), (33, 14), (33, 15), (34, 1), (36, 5)] [18, 19, 20, 21, 23, 24, 25, 37, 81, 100, 101, 102, 103, 105] S S') := by
  refine yT_pad 1 ?_
  show yT xPr G LY xC175 0 [some ((2, 0)), some (vi p0), some (vi p1), some (vi p2), some (vi p3), some ((2, 81)), none] [] S d _
  obtain ⟨d, rfl⟩ : ∃ q, d = q + 1 := ⟨d - 1, by omega⟩
  have hF : yFr [(17, 6), (17, 7), (17, 8), (17, 9), (17, 10), (17, 11), (17, 12), (22, 3), (31, 1), (33, 7), (33, 8), (33, 9), (33, 10), (33, 11), (33, 12), (33, 13), (33, 14), (33, 15), (34, 1), (36, 5)] [18, 19, 20, 21, 23, 24, 25, 37, 81, 100, 101, 102, 103, 105] S S := yFr.refl S
  have e_RM := p_0
  refine r_load (i := 0) (u := 5) (w := 2) rfl rfl rfl ?_
  refine r_const (i := 1) (u := 0) (z := 0) rfl rfl ?_
  refine r_load (i := 2) (u := 0) (w := 2) rfl rfl rfl ?_
  refine r_load (i := 3) (u := 1) (w := 0) rfl rfl rfl ?_
  refine r_load (i := 4) (u := 2) (w := 0) rfl rfl rfl ?_
  refine r_load (i := 5) (u := 3) (w := 0) rfl rfl rfl ?_
  refine r_load (i := 6) (u := 4) (w := 0) rfl rfl rfl ?_
  refine r_call (i := 7) (u := 786432) (v := 8) (w := 11) (b := 0) (na := 1797) (C2 := xC8) (as := [(2, 0), vi p0, vi p1, vi p2, vi p3]) (s := [vi 0, (2, 81)]) rfl rfl rfl rfl rfl rfl rfl (sp8 (t := p0) (fa := p1) (fb := p2) (fc := p3) hI ⟨by omega, by omega⟩ ⟨by omega, by omega⟩ ⟨by omega, by omega⟩ ⟨by omega, by omega⟩  e_N23 (by omega)) (fun r1 S2 hq3 => ?_)
  rcases hq3 with hq4 | ⟨a6, c9, rfl, hc5, rfl⟩
  · obtain ⟨z7, rfl, h8, h9, fo10, fi11, e12, hI13, hF14, hR15⟩ := hq4
    have hF16 := hF.trans hF14 rfl rfl
    have e17 := CRx.fr e_CR hF14 rfl rfl
    have e18 := wRM_rm e_RM hR15
    refine Or.inr (Or.inl ⟨rfl, ?_⟩)
    refine r_i2l (i := 8) rfl ⟨by omega, by omega⟩ ?_
    refine r_lastore (i := 9) rfl ly81 (by decide) (by omega) (by omega) ⟨by omega, by omega⟩ ?_
    have hI20 := hI13.seta0 (b := 81) (j := (0 : Int).toNat) (z := z7) rfl rfl
    have hF22 := hF16.seta (b := 81) (j := (0 : Int).toNat) (z := z7) rfl
    have e24 := CRx.seta e17 (b := 81) (j := (0 : Int).toNat) (z := z7) rfl
    have e25 := wRM_a e18 (b := 81) (j := (0 : Int).toNat) (z := z7)
    have e26 := N23x.seta e12 (b := 81) (j := (0 : Int).toNat) (z := z7) rfl
    refine yT_gen (fun S19 hS21 => ?_)
    rw [hS21] at hI20 hF22  e24 e25 e26
    refine r_goto (i := 10) (v := 14) rfl ?_
    refine r_const (i := 14) (u := 0) (z := 0) rfl rfl ?_
    exact r_retI (i := 15) rfl ⟨0, rfl, by omega, by omega, (by exact wRM_le e25 (by omega)), (by exact Or.inl ⟨rfl, by subst hS21; rw [ysa_eq]; exact foX_81 fo10⟩), (by exact Or.inl ⟨rfl, by subst hS21; rw [ysa_eq]; exact fiC_81 fi11⟩), e26, e24, hI20, hF22⟩
  · obtain ⟨hI27, rm28⟩ := wRM_cost e_RM hI (by omega)
    have e29 : N23 (ycost S 1 6) := e_N23
    have e30 : CR (ycost S 1 6) := e_CR
    have hF31 : yFr [(17, 6), (17, 7), (17, 8), (17, 9), (17, 10), (17, 11), (17, 12), (22, 3), (31, 1), (33, 7), (33, 8), (33, 9), (33, 10), (33, 11), (33, 12), (33, 13), (33, 14), (33, 15), (34, 1), (36, 5)] [18, 19, 20, 21, 23, 24, 25, 37, 81, 100, 101, 102, 103, 105] S (ycost S 1 6) := hF
    obtain ⟨rfl, xphc5⟩ := hc5
    · refine Or.inr (Or.inr (Or.inl ⟨rfl, rfl, by decide, ?_⟩))
      refine r_store (i := 11) (u := 6) (w := 2) (L1 := [some ((2, 0)), some (vi p0), some (vi p1), some (vi p2), some (vi p3), some ((2, 81)), some ((2, a6))]) rfl rfl rfl rfl ?_
      refine r_const (i := 12) (u := 1) (z := 1) rfl rfl ?_
      exact r_retI (i := 13) rfl ⟨1, rfl, by omega, by omega, (by exact wRM_le rm28 (by omega)), (by exact Or.inr ⟨rfl, xphc5, rfl, fun _ => rfl, fun _ => rfl, fun _ => rfl⟩), (by exact Or.inr ⟨by decide, sF1_rfl⟩), e29, e30, hI27, hF31⟩
/-- ProxyForgeLaw.answer -/
theorem sp173 {G : xk} {S : yS} {d : Nat} (hI : yI S) {kR : Int} {p0 : Int} (h_p0 : -2147483648 ≤ p0 ∧ p0 ≤ 2147483647) {p1 : Int} (h_p1 : Rl p1) (p_0 : wRM (kR + 1) S) (p_1 : 0 ≤ kR) (e_N23 : N23 S) (e_CR : CR S) (hd : 7 ≤ d) : yT xPr G LY xC173 0 [some ((2, 0)), some (vi p0), some (vl p1), none] [] S d (fun r S' => ∃ z : Int, r = (1, vi z) ∧ 0 ≤ z ∧ z ≤ 2 ∧ wRM kR S' ∧ N23 S' ∧ CR S' ∧ yI S' ∧ yFr [(26, 4), (26, 5)] [] S S') := by
  refine yT_pad 1 ?_
  show yT xPr G LY xC173 0 [some ((2, 0)), some (vi p0), some (vl p1), none, none] [] S d _
  obtain ⟨d, rfl⟩ : ∃ q, d = q + 1 := ⟨d - 1, by omega⟩
  have hF : yFr [(26, 4), (26, 5)] [] S S := yFr.refl S
  have e_RM := p_0
  refine r_load (i := 0) (u := 0) (w := 2) rfl rfl rfl ?_
  refine r_load (i := 1) (u := 1) (w := 0) rfl rfl rfl ?_
  refine r_load (i := 2) (u := 2) (w := 1) rfl rfl rfl ?_
  refine r_call (i := 3) (u := 786432) (v := 1) (w := 5) (b := 0) (na := 1027) (C2 := xC1) (as := [(2, 0), vi p0, vl p1]) (s := []) rfl rfl rfl rfl rfl rfl rfl (sp1 (k := p0) (v := p1) hI ⟨by omega, by omega⟩ ⟨by omega, by omega⟩   (by omega)) (fun r1 S2 hq3 => ?_)
  rcases hq3 with hq4 | ⟨a6, c9, rfl, hc5, rfl⟩
  · obtain ⟨rfl, hI7, hF8, hR9⟩ := hq4
    have hF10 := hF.trans hF8 rfl rfl
    have e11 := N23x.fr e_N23 hF8 hR9 rfl rfl rfl
    have e12 := CRx.fr e_CR hF8 rfl rfl
    have e13 := wRM_rm e_RM hR9
    refine Or.inl ⟨rfl, ?_⟩
    refine r_goto (i := 4) (v := 8) rfl ?_
    refine r_const (i := 8) (u := 0) (z := 0) rfl rfl ?_
    exact r_retI (i := 9) rfl ⟨0, rfl, by omega, by omega, (by exact wRM_le e13 (by omega)), e11, e12, hI7, hF10⟩
  · obtain ⟨hI14, rm15⟩ := wRM_cost e_RM hI (by omega)
    have e16 : N23 (ycost S 1 6) := e_N23
    have e17 : CR (ycost S 1 6) := e_CR
    have hF18 : yFr [(26, 4), (26, 5)] [] S (ycost S 1 6) := hF
    obtain rfl := hc5
    · refine Or.inr (Or.inr (Or.inl ⟨rfl, rfl, by decide, ?_⟩))
      refine r_store (i := 5) (u := 4) (w := 2) (L1 := [some ((2, 0)), some (vi p0), some (vl p1), none, some ((2, a6))]) rfl rfl rfl rfl ?_
      refine r_const (i := 6) (u := 1) (z := 1) rfl rfl ?_
      exact r_retI (i := 7) rfl ⟨1, rfl, by omega, by omega, (by exact wRM_le rm15 (by omega)), e16, e17, hI14, hF18⟩
/-- ProxyForgeLaw.call -/
theorem sp174 {G : xk} {S : yS} {d : Nat} (hI : yI S) {kR : Int} {p0 : Int} (h_p0 : -2147483648 ≤ p0 ∧ p0 ≤ 2147483647) {p1 : Int} (h_p1 : Rl p1) {p2 : Int} (h_p2 : Rl p2) {p3 : Int} (h_p3 : Rl p3) {p4 : Int} (h_p4 : Rl p4) (p_0 : wRM (kR + 1) S) (p_1 : 0 ≤ kR) (e_N23 : N23 S) (e_CR : CR S) (hd : 7 ≤ d) : yT xPr G LY xC174 0 [some ((2, 0)), some (vi p0), some (vl p1), none, some (vl p2), none, some (vl p3), none, some (vl p4), none, some ((2, 81))] [] S d (fun r S' => ∃ z : Int, r = (1, vi z) ∧ 0 ≤ z ∧ z ≤ 2 ∧ wRM kR S' ∧ N23 S' ∧ CR S' ∧ yI S' ∧ yFr [(26, 2), (26, 3), (29, 5)] [27, 28, 30, 81] S S') := by
  refine yT_pad 1 ?_
  show yT xPr G LY xC174 0 [some ((2, 0)), some (vi p0), some (vl p1), none, some (vl p2), none, some (vl p3), none, some (vl p4), none, some ((2, 81)), none] [] S d _
  obtain ⟨d, rfl⟩ : ∃ q, d = q + 1 := ⟨d - 1, by omega⟩
  have hF : yFr [(26, 2), (26, 3), (29, 5)] [27, 28, 30, 81] S S := yFr.refl S
  have e_RM := p_0
  refine r_load (i := 0) (u := 10) (w := 2) rfl rfl rfl ?_
  refine r_const (i := 1) (u := 0) (z := 0) rfl rfl ?_
  refine r_load (i := 2) (u := 0) (w := 2) rfl rfl rfl ?_
  refine r_load (i := 3) (u := 1) (w := 0) rfl rfl rfl ?_
  refine r_load (i := 4) (u := 2) (w := 1) rfl rfl rfl ?_
  refine r_load (i := 5) (u := 4) (w := 1) rfl rfl rfl ?_
  refine r_load (i := 6) (u := 6) (w := 1) rfl rfl rfl ?_
  refine r_load (i := 7) (u := 8) (w := 1) rfl rfl rfl ?_
  have h1 := hI.f tf22_3
  refine r_call (i := 8) (u := 786432) (v := 5) (w := 12) (b := 0) (na := 2566) (C2 := xC5) (as := [(2, 0), vi p0, vl p1, vl p2, vl p3, vl p4]) (s := [vi 0, (2, 81)]) rfl rfl rfl rfl rfl rfl rfl (sp5 (k := p0) (a := p1) (b := p2) (c := p3) (e := p4) hI ⟨by omega, by omega⟩ ⟨by omega, by omega⟩ ⟨by omega, by omega⟩ ⟨by omega, by omega⟩ ⟨by omega, by omega⟩   (by omega)) (fun r2 S3 hq4 => ?_)
  rcases hq4 with hq5 | ⟨a7, c9, rfl, hc6, rfl⟩
  · obtain ⟨z8, rfl, h9, h10, cin11, hI12, hF13, hR14⟩ := hq5
    have hF15 := hF.trans hF13 rfl rfl
    have e16 := N23x.fr e_N23 hF13 hR14 rfl rfl rfl
    have e17 := CRx.fr e_CR hF13 rfl rfl
    have e18 := wRM_rm e_RM hR14
    refine Or.inr (Or.inl ⟨rfl, ?_⟩)
    refine r_i2l (i := 9) rfl ⟨by omega, by omega⟩ ?_
    refine r_lastore (i := 10) rfl ly81 (by decide) (by omega) (by omega) ⟨by omega, by omega⟩ ?_
    have hI20 := hI12.seta0 (b := 81) (j := (0 : Int).toNat) (z := z8) rfl rfl
    have hF22 := hF15.seta (b := 81) (j := (0 : Int).toNat) (z := z8) rfl
    have e24 := N23x.seta e16 (b := 81) (j := (0 : Int).toNat) (z := z8) rfl
    have e25 := CRx.seta e17 (b := 81) (j := (0 : Int).toNat) (z := z8) rfl
    have e26 := wRM_a e18 (b := 81) (j := (0 : Int).toNat) (z := z8)
    refine yT_gen (fun S19 hS21 => ?_)
    rw [hS21] at hI20 hF22  e24 e25 e26
    refine r_goto (i := 11) (v := 15) rfl ?_
    refine r_const (i := 15) (u := 0) (z := 0) rfl rfl ?_
    exact r_retI (i := 16) rfl ⟨0, rfl, by omega, by omega, (by exact wRM_le e26 (by omega)), e24, e25, hI20, hF22⟩
  · obtain ⟨hI27, rm28⟩ := wRM_cost e_RM hI (by omega)
    have e29 : N23 (ycost S 1 6) := e_N23
    have e30 : CR (ycost S 1 6) := e_CR
    have hF31 : yFr [(26, 2), (26, 3), (29, 5)] [27, 28, 30, 81] S (ycost S 1 6) := hF
    obtain ⟨rfl, xphc6⟩ := hc6
    · refine Or.inr (Or.inr (Or.inl ⟨rfl, rfl, by decide, ?_⟩))
      refine r_store (i := 12) (u := 11) (w := 2) (L1 := [some ((2, 0)), some (vi p0), some (vl p1), none, some (vl p2), none, some (vl p3), none, some (vl p4), none, some ((2, 81)), some ((2, a7))]) rfl rfl rfl rfl ?_
      refine r_const (i := 13) (u := 1) (z := 1) rfl rfl ?_
      exact r_retI (i := 14) rfl ⟨1, rfl, by omega, by omega, (by exact wRM_le rm28 (by omega)), e29, e30, hI27, hF31⟩
set_option maxHeartbeats 4000000 in
theorem lp280_13 {G : xk} {d : Nat} {S0 : yS} {nS : Nat} {sc : Nat → Int} (hG : ySc G nS sc) (hn5 : nS ≤ 5120) (hd : 27 ≤ d + 1) : ∀ (n : Nat), ∀ (S : yS) (hI : yI S) (e_N23 : N23 S) (e_CR : CR S) (e_RT : RT S) (e_RMe : RMe S) (e_RS : RS S) (e_RTh : RTh S) (e_RI : RI S) (e_RK : RK S) (e_RSl : RSl S) (e_RP : RP S) (e_RSk : RSk S) (e_vZ : vZ S) (e_RW : RW S) (i : Int) (h_i : 0 ≤ i ∧ i ≤ 5120) (q_0 : wRM (5200 - i) S) (hn : 5120 - i < (n : Nat)), yT xPr G LY xC280 13 [some ((6, 0)), some ((2, 0)), some ((2, 43)), some ((2, 81)), some (vi i), none, none] [] S (d + 1) (fun r S' => ∃ z : Int, r = (1, vi z) ∧ 1 ≤ z ∧ z ≤ 1) := by
  intro n
  induction n with
  | zero => intro S hI e_N23 e_CR e_RT e_RMe e_RS e_RTh e_RI e_RK e_RSl e_RP e_RSk e_vZ e_RW i h_i q_0 hn; exact absurd hn (by omega)
  | succ n ih =>
    intro S hI e_N23 e_CR e_RT e_RMe e_RS e_RTh e_RI e_RK e_RSl e_RP e_RSk e_vZ e_RW i h_i q_0 hn
    refine r_load (i := 13) (u := 4) (w := 0) rfl rfl rfl ?_
    refine r_load (i := 14) (u := 0) (w := 2) rfl rfl rfl ?_
    refine r_scN (i := 15) hG rfl ?_
    refine r_const (i := 16) (u := 10) (z := 10) rfl rfl ?_
    refine r_isub (i := 17) rfl ?_
    refine c_gt (i := 18) (v := 639) rfl ⟨by omega, by omega⟩ ⟨by omega, by omega⟩ (fun h1 => ?_) (fun h2 => ?_)
    · refine r_const (i := 639) (u := 1) (z := 1) rfl rfl ?_
      exact r_retZ (i := 640) rfl (by omega) (by omega) ⟨1, rfl, by omega, by omega⟩
    · refine r_load (i := 19) (u := 0) (w := 2) rfl rfl rfl ?_
      refine r_load (i := 20) (u := 4) (w := 0) rfl rfl rfl ?_
      refine r_scA (i := 21) hG rfl (by omega) (by omega) fun h3 => ?_
      have h3 : Rg (sc i.toNat) := h3
      refine r_const (i := 22) (u := 31) (z := 31) rfl rfl ?_
      refine r_iand (i := 23) rfl ?_
      have h4 := @yand_c (sc i.toNat) 31 (by decide) (by decide)
      rcases (show (yand (sc i.toNat) 31) = 0 ∨ (yand (sc i.toNat) 31) = 1 ∨ (yand (sc i.toNat) 31) = 2 ∨ (yand (sc i.toNat) 31) = 3 ∨ (yand (sc i.toNat) 31) = 4 ∨ (yand (sc i.toNat) 31) = 5 ∨ (yand (sc i.toNat) 31) = 6 ∨ (yand (sc i.toNat) 31) = 7 ∨ (yand (sc i.toNat) 31) = 8 ∨ (yand (sc i.toNat) 31) = 9 ∨ (yand (sc i.toNat) 31) = 10 ∨ (yand (sc i.toNat) 31) = 11 ∨ (yand (sc i.toNat) 31) = 12 ∨ (yand (sc i.toNat) 31) = 13 ∨ (yand (sc i.toNat) 31) = 14 ∨ (yand (sc i.toNat) 31) = 15 ∨ (yand (sc i.toNat) 31) = 16 ∨ (yand (sc i.toNat) 31) = 17 ∨ (yand (sc i.toNat) 31) = 18 ∨ (yand (sc i.toNat) 31) = 19 ∨ (yand (sc i.toNat) 31) = 20 ∨ (yand (sc i.toNat) 31) = 21 ∨ (yand (sc i.toNat) 31) = 22 ∨ (yand (sc i.toNat) 31) = 23 ∨ (yand (sc i.toNat) 31) = 24 ∨ (yand (sc i.toNat) 31) = 25 ∨ (yand (sc i.toNat) 31) = 26 ∨ (yand (sc i.toNat) 31) = 27 ∨ (yand (sc i.toNat) 31) = 28 ∨ (yand (sc i.toNat) 31) = 29 ∨ (yand (sc i.toNat) 31) = 30 ∨ (yand (sc i.toNat) 31) = 31 by omega) with h5 | h6 | h7 | h8 | h9 | h10 | h11 | h12 | h13 | h14 | h15 | h16 | h17 | h18 | h19 | h20 | h21 | h22 | h23 | h24 | h25 | h26 | h27 | h28 | h29 | h30 | h31 | h32 | h33 | h34 | h35 | h36
      · refine r_swK (i := 24) (u := 1) (v := 637) (k := 0) (t := 25) rfl rfl h5 (by decide) (by decide) rfl ?_
        refine r_load (i := 25) (u := 1) (w := 2) rfl rfl rfl ?_
        refine r_load (i := 26) (u := 0) (w := 2) rfl rfl rfl ?_
        refine r_load (i := 27) (u := 4) (w := 0) rfl rfl rfl ?_
        refine r_const (i := 28) (u := 1) (z := 1) rfl rfl ?_
        refine r_iadd (i := 29) rfl ?_
        refine r_scA (i := 30) hG rfl (by omega) (by omega) fun h37 => ?_
        have h37 : Rg (sc (i + 1).toNat) := h37
        refine z_eq (i := 31) (v := 34) rfl ⟨by omega, by omega⟩ (fun h38 => ?_) (fun h39 => ?_)
        · refine r_const (i := 34) (u := 0) (z := 0) rfl rfl ?_
          refine r_load (i := 35) (u := 0) (w := 2) rfl rfl rfl ?_
          refine r_load (i := 36) (u := 4) (w := 0) rfl rfl rfl ?_
          refine r_const (i := 37) (u := 2) (z := 2) rfl rfl ?_
          refine r_iadd (i := 38) rfl ?_
          refine r_scA (i := 39) hG rfl (by omega) (by omega) fun h40 => ?_
          have h40 : Rg (sc (i + 2).toNat) := h40
          refine r_load (i := 40) (u := 0) (w := 2) rfl rfl rfl ?_
          refine r_load (i := 41) (u := 4) (w := 0) rfl rfl rfl ?_
          refine r_const (i := 42) (u := 3) (z := 3) rfl rfl ?_
          refine r_iadd (i := 43) rfl ?_
          refine r_scA (i := 44) hG rfl (by omega) (by omega) fun h41 => ?_
          have h41 : Rg (sc (i + 3).toNat) := h41
          refine r_load (i := 45) (u := 0) (w := 2) rfl rfl rfl ?_
          refine r_load (i := 46) (u := 4) (w := 0) rfl rfl rfl ?_
          refine r_const (i := 47) (u := 4) (z := 4) rfl rfl ?_
          refine r_iadd (i := 48) rfl ?_
          refine r_scA (i := 49) hG rfl (by omega) (by omega) fun h42 => ?_
          have h42 : Rg (sc (i + 4).toNat) := h42
          refine r_load (i := 50) (u := 3) (w := 2) rfl rfl rfl ?_
          refine r_call (i := 51) (u := 65535) (v := 179) (w := 0) (b := 2) (na := 1798) (C2 := xC179) (as := [(2, 0), vi 0, vi (sc (i + 2).toNat), vi (sc (i + 3).toNat), vi (sc (i + 4).toNat), (2, 81)]) (s := []) rfl rfl rfl rfl rfl rfl rfl (sp179 (p0 := 0) (p1 := sc (i + 2).toNat) (p2 := sc (i + 3).toNat) (p3 := sc (i + 4).toNat) (kR := 5199 - i) hI ⟨by omega, by omega⟩ ⟨by omega, by omega⟩ ⟨by omega, by omega⟩ ⟨by omega, by omega⟩ (by exact wRM_le q_0 (by omega)) (by omega) e_N23 e_CR (by omega)) (fun r43 S44 hq45 => ?_)
          obtain ⟨z46, rfl, h47, h48, rm49, ht50, c6h51, e52, e53, hI54, hF55⟩ := hq45
          have e56 := RMex.fr e_RMe hF55 rfl rfl
          have e57 := RThx.fr e_RTh hF55 rfl rfl
          have e58 := RKx.fr e_RK hF55 rfl rfl
          have e59 := RSlx.fr e_RSl hF55 rfl rfl
          have e60 := RPx.fr e_RP hF55 rfl rfl
          have e61 := RSkx.fr e_RSk hF55 rfl rfl
          have e62 := vZx.fr e_vZ hF55 rfl rfl
          have e63 := RWx.fr e_RW hF55 rfl rfl
          refine Or.inr (Or.inl ⟨rfl, ?_⟩)
          have rs9 := RS_type e_RS (hI.f tf1_7).1 (by omega) ht50 c6h51 hF55 rfl
          have ri9 := RI_type e_RI e_RS.1 (hI.f tf1_7).1 ht50 hF55 rfl
          refine r_store (i := 52) (u := 5) (w := 0) (L1 := [some ((6, 0)), some ((2, 0)), some ((2, 43)), some ((2, 81)), some (vi i), some (vi z46), none]) rfl rfl rfl rfl ?_
          refine r_load (i := 53) (u := 2) (w := 2) rfl rfl rfl ?_
          refine r_load (i := 54) (u := 0) (w := 2) rfl rfl rfl ?_
          refine r_load (i := 55) (u := 4) (w := 0) rfl rfl rfl ?_
          refine r_const (i := 56) (u := 1) (z := 1) rfl rfl ?_
          refine r_iadd (i := 57) rfl ?_
          refine r_scA (i := 58) hG rfl (by omega) (by omega) fun h64 => ?_
          have h64 : Rg (sc (i + 1).toNat) := h64
          refine z_eq (i := 59) (v := 62) rfl ⟨by omega, by omega⟩ (fun h65 => ?_) (fun h66 => absurd h66 (by omega))
          refine r_const (i := 62) (u := 0) (z := 0) rfl rfl ?_
          refine r_load (i := 63) (u := 0) (w := 2) rfl rfl rfl ?_
          refine r_load (i := 64) (u := 4) (w := 0) rfl rfl rfl ?_
          refine r_const (i := 65) (u := 2) (z := 2) rfl rfl ?_
          refine r_iadd (i := 66) rfl ?_
          refine r_scA (i := 67) hG rfl (by omega) (by omega) fun h67 => ?_
          have h67 : Rg (sc (i + 2).toNat) := h67
          refine r_load (i := 68) (u := 0) (w := 2) rfl rfl rfl ?_
          refine r_load (i := 69) (u := 4) (w := 0) rfl rfl rfl ?_
          refine r_const (i := 70) (u := 3) (z := 3) rfl rfl ?_
          refine r_iadd (i := 71) rfl ?_
          refine r_scA (i := 72) hG rfl (by omega) (by omega) fun h68 => ?_
          have h68 : Rg (sc (i + 3).toNat) := h68
          refine r_load (i := 73) (u := 0) (w := 2) rfl rfl rfl ?_
          refine r_load (i := 74) (u := 4) (w := 0) rfl rfl rfl ?_
          refine r_const (i := 75) (u := 4) (z := 4) rfl rfl ?_
          refine r_iadd (i := 76) rfl ?_
          refine r_scA (i := 77) hG rfl (by omega) (by omega) fun h69 => ?_
          have h69 : Rg (sc (i + 4).toNat) := h69
          refine r_call (i := 78) (u := 11) (v := 258) (w := 0) (b := 0) (na := 1541) (C2 := xC258) (as := [(2, 43), vi 0, vi (sc (i + 2).toNat), vi (sc (i + 3).toNat), vi (sc (i + 4).toNat)]) (s := []) rfl rfl rfl rfl rfl rfl rfl (sp258 (b := 0) (bits := sc (i + 2).toNat) (p := sc (i + 3).toNat) (up := sc (i + 4).toNat) hI54 ⟨by omega, by omega⟩ ⟨by omega, by omega⟩ ⟨by omega, by omega⟩ ⟨by omega, by omega⟩   (by omega)) (fun r70 S71 hq72 => ?_)
          obtain ⟨z73, rfl, h74, h75, mq76, hI77, hF78, hR79⟩ := hq72
          have e80 := RMex.fr e56 hF78 rfl rfl
          have e81 := RThx.fr e57 hF78 rfl rfl
          have e82 := RSlx.fr e59 hF78 rfl rfl
          have e83 := RPx.fr e60 hF78 rfl rfl
          have e84 := RSkx.fr e61 hF78 rfl rfl
          have e85 := RWx.fr e63 hF78 rfl rfl
          have e86 := N23x.fr e52 hF78 hR79 rfl rfl rfl
          have e87 := CRx.fr e53 hF78 rfl rfl
          have e88 := wRM_rm rm49 hR79
          have e89 := RSx.fr rs9 hF78 rfl rfl
          have e90 := RIx.fr ri9 hF78 rfl rfl
          refine Or.inr (Or.inl ⟨rfl, ?_⟩)
          have rt9 := (RT_type e_RT (by omega) (Int.le_trans (by decide) (hI.f tf1_7).1) ht50 hF55 rfl rfl mq76 hF78 rfl rfl).1
          have rk9 := (RT_type e_RT (by omega) (Int.le_trans (by decide) (hI.f tf1_7).1) ht50 hF55 rfl rfl mq76 hF78 rfl rfl).2.1
          have ro9 := (RT_type e_RT (by omega) (Int.le_trans (by decide) (hI.f tf1_7).1) ht50 hF55 rfl rfl mq76 hF78 rfl rfl).2.2
          have rk8 := RK_type (RKx.fr e_RK hF55 rfl rfl) mq76 hF78 rfl
          have vz9 := vZ_type (vZx.fr e_vZ hF55 rfl rfl) mq76 hF78 rfl
          refine r_store (i := 79) (u := 6) (w := 0) (L1 := [some ((6, 0)), some ((2, 0)), some ((2, 43)), some ((2, 81)), some (vi i), some (vi z46), some (vi z73)]) rfl rfl rfl rfl ?_
          refine r_goto (i := 80) (v := 637) rfl ?_
          refine r_iinc (i := 637) (u := 10) (v := 4) (s := 10) (L1 := [some ((6, 0)), some ((2, 0)), some ((2, 43)), some ((2, 81)), some (vi (i + 10)), some (vi z46), some (vi z73)]) rfl rfl rfl rfl rfl ?_
          refine r_goto (i := 638) (v := 13) rfl ?_
          refine yT_drop (L1 := [some ((6, 0)), some ((2, 0)), some ((2, 43)), some ((2, 81)), some (vi (i + 10)), none, none]) rfl ?_
          exact ih S71 hI77 e86 e87 rt9 e80 e89 e81 e90 rk8 e82 e83 e84 vz9 e85 (i + 10) ⟨by omega, by omega⟩ (by exact wRM_le e88 (by omega)) (by omega)
        · refine r_const (i := 32) (u := 1) (z := 1) rfl rfl ?_
          refine r_goto (i := 33) (v := 35) rfl ?_
          refine r_load (i := 35) (u := 0) (w := 2) rfl rfl rfl ?_
          refine r_load (i := 36) (u := 4) (w := 0) rfl rfl rfl ?_
          refine r_const (i := 37) (u := 2) (z := 2) rfl rfl ?_
          refine r_iadd (i := 38) rfl ?_
          refine r_scA (i := 39) hG rfl (by omega) (by omega) fun h91 => ?_
          have h91 : Rg (sc (i + 2).toNat) := h91
          refine r_load (i := 40) (u := 0) (w := 2) rfl rfl rfl ?_
          refine r_load (i := 41) (u := 4) (w := 0) rfl rfl rfl ?_
          refine r_const (i := 42) (u := 3) (z := 3) rfl rfl ?_
          refine r_iadd (i := 43) rfl ?_
          refine r_scA (i := 44) hG rfl (by omega) (by omega) fun h92 => ?_
          have h92 : Rg (sc (i + 3).toNat) := h92
          refine r_load (i := 45) (u := 0) (w := 2) rfl rfl rfl ?_
          refine r_load (i := 46) (u := 4) (w := 0) rfl rfl rfl ?_
          refine r_const (i := 47) (u := 4) (z := 4) rfl rfl ?_
          refine r_iadd (i := 48) rfl ?_
          refine r_scA (i := 49) hG rfl (by omega) (by omega) fun h93 => ?_
          have h93 : Rg (sc (i + 4).toNat) := h93
          refine r_load (i := 50) (u := 3) (w := 2) rfl rfl rfl ?_
          refine r_call (i := 51) (u := 65535) (v := 179) (w := 0) (b := 2) (na := 1798) (C2 := xC179) (as := [(2, 0), vi 1, vi (sc (i + 2).toNat), vi (sc (i + 3).toNat), vi (sc (i + 4).toNat), (2, 81)]) (s := []) rfl rfl rfl rfl rfl rfl rfl (sp179 (p0 := 1) (p1 := sc (i + 2).toNat) (p2 := sc (i + 3).toNat) (p3 := sc (i + 4).toNat) (kR := 5199 - i) hI ⟨by omega, by omega⟩ ⟨by omega, by omega⟩ ⟨by omega, by omega⟩ ⟨by omega, by omega⟩ (by exact wRM_le q_0 (by omega)) (by omega) e_N23 e_CR (by omega)) (fun r94 S95 hq96 => ?_)
          obtain ⟨z97, rfl, h98, h99, rm100, ht101, c6h102, e103, e104, hI105, hF106⟩ := hq96
          have e107 := RMex.fr e_RMe hF106 rfl rfl
          have e108 := RThx.fr e_RTh hF106 rfl rfl
          have e109 := RKx.fr e_RK hF106 rfl rfl
          have e110 := RSlx.fr e_RSl hF106 rfl rfl
          have e111 := RPx.fr e_RP hF106 rfl rfl
          have e112 := RSkx.fr e_RSk hF106 rfl rfl
          have e113 := vZx.fr e_vZ hF106 rfl rfl
          have e114 := RWx.fr e_RW hF106 rfl rfl
          refine Or.inr (Or.inl ⟨rfl, ?_⟩)
          have rs9 := RS_type e_RS (hI.f tf1_7).1 (by omega) ht101 c6h102 hF106 rfl
          have ri9 := RI_type e_RI e_RS.1 (hI.f tf1_7).1 ht101 hF106 rfl
          refine r_store (i := 52) (u := 5) (w := 0) (L1 := [some ((6, 0)), some ((2, 0)), some ((2, 43)), some ((2, 81)), some (vi i), some (vi z97), none]) rfl rfl rfl rfl ?_
          refine r_load (i := 53) (u := 2) (w := 2) rfl rfl rfl ?_
          refine r_load (i := 54) (u := 0) (w := 2) rfl rfl rfl ?_
          refine r_load (i := 55) (u := 4) (w := 0) rfl rfl rfl ?_
          refine r_const (i := 56) (u := 1) (z := 1) rfl rfl ?_
          refine r_iadd (i := 57) rfl ?_
          refine r_scA (i := 58) hG rfl (by omega) (by omega) fun h115 => ?_
          have h115 : Rg (sc (i + 1).toNat) := h115
          refine z_eq (i := 59) (v := 62) rfl ⟨by omega, by omega⟩ (fun h116 => absurd h116 (by omega)) (fun h117 => ?_)
          refine r_const (i := 60) (u := 1) (z := 1) rfl rfl ?_
          refine r_goto (i := 61) (v := 63) rfl ?_
          refine r_load (i := 63) (u := 0) (w := 2) rfl rfl rfl ?_
          refine r_load (i := 64) (u := 4) (w := 0) rfl rfl rfl ?_
          refine r_const (i := 65) (u := 2) (z := 2) rfl rfl ?_
          refine r_iadd (i := 66) rfl ?_
          refine r_scA (i := 67) hG rfl (by omega) (by omega) fun h118 => ?_
          have h118 : Rg (sc (i + 2).toNat) := h118
          refine r_load (i := 68) (u := 0) (w := 2) rfl rfl rfl ?_
          refine r_load (i := 69) (u := 4) (w := 0) rfl rfl rfl ?_
          refine r_const (i := 70) (u := 3) (z := 3) rfl rfl ?_
          refine r_iadd (i := 71) rfl ?_
          refine r_scA (i := 72) hG rfl (by omega) (by omega) fun h119 => ?_
          have h119 : Rg (sc (i + 3).toNat) := h119
          refine r_load (i := 73) (u := 0) (w := 2) rfl rfl rfl ?_
          refine r_load (i := 74) (u := 4) (w := 0) rfl rfl rfl ?_
          refine r_const (i := 75) (u := 4) (z := 4) rfl rfl ?_
          refine r_iadd (i := 76) rfl ?_
          refine r_scA (i := 77) hG rfl (by omega) (by omega) fun h120 => ?_
          have h120 : Rg (sc (i + 4).toNat) := h120
          refine r_call (i := 78) (u := 11) (v := 258) (w := 0) (b := 0) (na := 1541) (C2 := xC258) (as := [(2, 43), vi 1, vi (sc (i + 2).toNat), vi (sc (i + 3).toNat), vi (sc (i + 4).toNat)]) (s := []) rfl rfl rfl rfl rfl rfl rfl (sp258 (b := 1) (bits := sc (i + 2).toNat) (p := sc (i + 3).toNat) (up := sc (i + 4).toNat) hI105 ⟨by omega, by omega⟩ ⟨by omega, by omega⟩ ⟨by omega, by omega⟩ ⟨by omega, by omega⟩   (by omega)) (fun r121 S122 hq123 => ?_)
          obtain ⟨z124, rfl, h125, h126, mq127, hI128, hF129, hR130⟩ := hq123
          have e131 := RMex.fr e107 hF129 rfl rfl
          have e132 := RThx.fr e108 hF129 rfl rfl
          have e133 := RSlx.fr e110 hF129 rfl rfl
          have e134 := RPx.fr e111 hF129 rfl rfl
          have e135 := RSkx.fr e112 hF129 rfl rfl
          have e136 := RWx.fr e114 hF129 rfl rfl
          have e137 := N23x.fr e103 hF129 hR130 rfl rfl rfl
          have e138 := CRx.fr e104 hF129 rfl rfl
          have e139 := wRM_rm rm100 hR130
          have e140 := RSx.fr rs9 hF129 rfl rfl
          have e141 := RIx.fr ri9 hF129 rfl rfl
          refine Or.inr (Or.inl ⟨rfl, ?_⟩)
          have rt9 := (RT_type e_RT (by omega) (Int.le_trans (by decide) (hI.f tf1_7).1) ht101 hF106 rfl rfl mq127 hF129 rfl rfl).1
          have rk9 := (RT_type e_RT (by omega) (Int.le_trans (by decide) (hI.f tf1_7).1) ht101 hF106 rfl rfl mq127 hF129 rfl rfl).2.1
          have ro9 := (RT_type e_RT (by omega) (Int.le_trans (by decide) (hI.f tf1_7).1) ht101 hF106 rfl rfl mq127 hF129 rfl rfl).2.2
          have rk8 := RK_type (RKx.fr e_RK hF106 rfl rfl) mq127 hF129 rfl
          have vz9 := vZ_type (vZx.fr e_vZ hF106 rfl rfl) mq127 hF129 rfl
          refine r_store (i := 79) (u := 6) (w := 0) (L1 := [some ((6, 0)), some ((2, 0)), some ((2, 43)), some ((2, 81)), some (vi i), some (vi z97), some (vi z124)]) rfl rfl rfl rfl ?_
          refine r_goto (i := 80) (v := 637) rfl ?_
          refine r_iinc (i := 637) (u := 10) (v := 4) (s := 10) (L1 := [some ((6, 0)), some ((2, 0)), some ((2, 43)), some ((2, 81)), some (vi (i + 10)), some (vi z97), some (vi z124)]) rfl rfl rfl rfl rfl ?_
          refine r_goto (i := 638) (v := 13) rfl ?_
          refine yT_drop (L1 := [some ((6, 0)), some ((2, 0)), some ((2, 43)), some ((2, 81)), some (vi (i + 10)), none, none]) rfl ?_
          exact ih S122 hI128 e137 e138 rt9 e131 e140 e132 e141 rk8 e133 e134 e135 vz9 e136 (i + 10) ⟨by omega, by omega⟩ (by exact wRM_le e139 (by omega)) (by omega)
      · refine r_swK (i := 24) (u := 1) (v := 637) (k := 1) (t := 81) rfl rfl h6 (by decide) (by decide) rfl ?_
        refine r_load (i := 81) (u := 1) (w := 2) rfl rfl rfl ?_
        refine r_load (i := 82) (u := 0) (w := 2) rfl rfl rfl ?_
        refine r_load (i := 83) (u := 4) (w := 0) rfl rfl rfl ?_
        refine r_const (i := 84) (u := 1) (z := 1) rfl rfl ?_
        refine r_iadd (i := 85) rfl ?_
        refine r_scA (i := 86) hG rfl (by omega) (by omega) fun h142 => ?_
        have h142 : Rg (sc (i + 1).toNat) := h142
        refine r_load (i := 87) (u := 0) (w := 2) rfl rfl rfl ?_
        refine r_load (i := 88) (u := 4) (w := 0) rfl rfl rfl ?_
        refine r_const (i := 89) (u := 2) (z := 2) rfl rfl ?_
        refine r_iadd (i := 90) rfl ?_
        refine r_scA (i := 91) hG rfl (by omega) (by omega) fun h143 => ?_
        have h143 : Rg (sc (i + 2).toNat) := h143
        refine r_call (i := 92) (u := 65535) (v := 176) (w := 0) (b := 2) (na := 1027) (C2 := xC176) (as := [(2, 0), vi (sc (i + 1).toNat), vi (sc (i + 2).toNat)]) (s := []) rfl rfl rfl rfl rfl rfl rfl (sp176 (p0 := sc (i + 1).toNat) (p1 := sc (i + 2).toNat) (kR := 5199 - i) hI ⟨by omega, by omega⟩ ⟨by omega, by omega⟩ (by exact wRM_le q_0 (by omega)) (by omega) e_N23 e_CR (by omega)) (fun r144 S145 hq146 => ?_)
        obtain ⟨z147, rfl, h148, h149, rm150, him151, e152, e153, hI154, hF155⟩ := hq146
        have e156 := RTx.fr e_RT hF155 rfl rfl
        have e157 := RMex.fr e_RMe hF155 rfl rfl
        have e158 := RThx.fr e_RTh hF155 rfl rfl
        have e159 := RKx.fr e_RK hF155 rfl rfl
        have e160 := RSlx.fr e_RSl hF155 rfl rfl
        have e161 := RPx.fr e_RP hF155 rfl rfl
        have e162 := RSkx.fr e_RSk hF155 rfl rfl
        have e163 := vZx.fr e_vZ hF155 rfl rfl
        have e164 := RWx.fr e_RW hF155 rfl rfl
        refine Or.inr (Or.inl ⟨rfl, ?_⟩)
        have ri9 := RI_impl e_RI e_RS.2.2.2 (fun j => hI.a ta7 j) him151 hF155 rfl rfl
        refine r_store (i := 93) (u := 5) (w := 0) (L1 := [some ((6, 0)), some ((2, 0)), some ((2, 43)), some ((2, 81)), some (vi i), some (vi z147), none]) rfl rfl rfl rfl ?_
        refine r_load (i := 94) (u := 2) (w := 2) rfl rfl rfl ?_
        refine r_load (i := 95) (u := 0) (w := 2) rfl rfl rfl ?_
        refine r_load (i := 96) (u := 4) (w := 0) rfl rfl rfl ?_
        refine r_const (i := 97) (u := 1) (z := 1) rfl rfl ?_
        refine r_iadd (i := 98) rfl ?_
        refine r_scA (i := 99) hG rfl (by omega) (by omega) fun h165 => ?_
        have h165 : Rg (sc (i + 1).toNat) := h165
        refine r_load (i := 100) (u := 0) (w := 2) rfl rfl rfl ?_
        refine r_load (i := 101) (u := 4) (w := 0) rfl rfl rfl ?_
        refine r_const (i := 102) (u := 2) (z := 2) rfl rfl ?_
        refine r_iadd (i := 103) rfl ?_
        refine r_scA (i := 104) hG rfl (by omega) (by omega) fun h166 => ?_
        have h166 : Rg (sc (i + 2).toNat) := h166
        refine r_call (i := 105) (u := 11) (v := 206) (w := 0) (b := 0) (na := 1283) (C2 := xC206) (as := [(2, 43), vi (sc (i + 1).toNat), vi (sc (i + 2).toNat)]) (s := []) rfl rfl rfl rfl rfl rfl rfl (sp206 (t := sc (i + 1).toNat) (f := sc (i + 2).toNat) hI154 ⟨by omega, by omega⟩ ⟨by omega, by omega⟩   (by omega)) (fun r167 S168 hq169 => ?_)
        obtain ⟨rfl, mi170, hI171, hF172, hR173⟩ := hq169
        have e174 := RTx.fr e156 hF172 rfl rfl
        have e175 := RMex.fr e157 hF172 rfl rfl
        have e176 := RThx.fr e158 hF172 rfl rfl
        have e177 := RKx.fr e159 hF172 rfl rfl
        have e178 := RSlx.fr e160 hF172 rfl rfl
        have e179 := RPx.fr e161 hF172 rfl rfl
        have e180 := RSkx.fr e162 hF172 rfl rfl
        have e181 := vZx.fr e163 hF172 rfl rfl
        have e182 := RWx.fr e164 hF172 rfl rfl
        have e183 := N23x.fr e152 hF172 hR173 rfl rfl rfl
        have e184 := CRx.fr e153 hF172 rfl rfl
        have e185 := wRM_rm rm150 hR173
        have e186 := RIx.fr ri9 hF172 rfl rfl
        refine Or.inl ⟨rfl, ?_⟩
        have rs9 := (RS_impl e_RT e_RS hI.m3 (fun j => hI.a ta7 j) (hI.f tf1_7).2 him151 hF155 rfl rfl mi170 hF172 rfl rfl).1
        have rk9 := (RS_impl e_RT e_RS hI.m3 (fun j => hI.a ta7 j) (hI.f tf1_7).2 him151 hF155 rfl rfl mi170 hF172 rfl rfl).2
        refine r_goto (i := 106) (v := 637) rfl ?_
        refine r_iinc (i := 637) (u := 10) (v := 4) (s := 10) (L1 := [some ((6, 0)), some ((2, 0)), some ((2, 43)), some ((2, 81)), some (vi (i + 10)), some (vi z147), none]) rfl rfl rfl rfl rfl ?_
        refine r_goto (i := 638) (v := 13) rfl ?_
        refine yT_drop (L1 := [some ((6, 0)), some ((2, 0)), some ((2, 43)), some ((2, 81)), some (vi (i + 10)), none, none]) rfl ?_
        exact ih S168 hI171 e183 e184 e174 e175 rs9 e176 e186 e177 e178 e179 e180 e181 e182 (i + 10) ⟨by omega, by omega⟩ (by exact wRM_le e185 (by omega)) (by omega)
      · refine r_swK (i := 24) (u := 1) (v := 637) (k := 2) (t := 107) rfl rfl h7 (by decide) (by decide) rfl ?_
        refine r_load (i := 107) (u := 1) (w := 2) rfl rfl rfl ?_
        refine r_load (i := 108) (u := 0) (w := 2) rfl rfl rfl ?_
        refine r_load (i := 109) (u := 4) (w := 0) rfl rfl rfl ?_
        refine r_const (i := 110) (u := 1) (z := 1) rfl rfl ?_
        refine r_iadd (i := 111) rfl ?_
        refine r_scA (i := 112) hG rfl (by omega) (by omega) fun h187 => ?_
        have h187 : Rg (sc (i + 1).toNat) := h187
        refine r_load (i := 113) (u := 0) (w := 2) rfl rfl rfl ?_
        refine r_load (i := 114) (u := 4) (w := 0) rfl rfl rfl ?_
        refine r_const (i := 115) (u := 2) (z := 2) rfl rfl ?_
        refine r_iadd (i := 116) rfl ?_
        refine r_scA (i := 117) hG rfl (by omega) (by omega) fun h188 => ?_
        have h188 : Rg (sc (i + 2).toNat) := h188
        refine r_load (i := 118) (u := 0) (w := 2) rfl rfl rfl ?_
        refine r_load (i := 119) (u := 4) (w := 0) rfl rfl rfl ?_
        refine r_const (i := 120) (u := 3) (z := 3) rfl rfl ?_
        refine r_iadd (i := 121) rfl ?_
        refine r_scA (i := 122) hG rfl (by omega) (by omega) fun h189 => ?_
        have h189 : Rg (sc (i + 3).toNat) := h189
        refine r_load (i := 123) (u := 0) (w := 2) rfl rfl rfl ?_
        refine r_load (i := 124) (u := 4) (w := 0) rfl rfl rfl ?_
        refine r_const (i := 125) (u := 4) (z := 4) rfl rfl ?_
        refine r_iadd (i := 126) rfl ?_
        refine r_scA (i := 127) hG rfl (by omega) (by omega) fun h190 => ?_
        have h190 : Rg (sc (i + 4).toNat) := h190
        refine r_load (i := 128) (u := 0) (w := 2) rfl rfl rfl ?_
        refine r_load (i := 129) (u := 4) (w := 0) rfl rfl rfl ?_
        refine r_const (i := 130) (u := 5) (z := 5) rfl rfl ?_
        refine r_iadd (i := 131) rfl ?_
        refine r_scA (i := 132) hG rfl (by omega) (by omega) fun h191 => ?_
        have h191 : Rg (sc (i + 5).toNat) := h191
        refine r_load (i := 133) (u := 3) (w := 2) rfl rfl rfl ?_
        refine r_call (i := 134) (u := 65535) (v := 177) (w := 0) (b := 2) (na := 2055) (C2 := xC177) (as := [(2, 0), vi (sc (i + 1).toNat), vi (sc (i + 2).toNat), vi (sc (i + 3).toNat), vi (sc (i + 4).toNat), vi (sc (i + 5).toNat), (2, 81)]) (s := []) rfl rfl rfl rfl rfl rfl rfl (sp177 (p0 := sc (i + 1).toNat) (p1 := sc (i + 2).toNat) (p2 := sc (i + 3).toNat) (p3 := sc (i + 4).toNat) (p4 := sc (i + 5).toNat) (kR := 5199 - i) hI ⟨by omega, by omega⟩ ⟨by omega, by omega⟩ ⟨by omega, by omega⟩ ⟨by omega, by omega⟩ ⟨by omega, by omega⟩ (by exact wRM_le q_0 (by omega)) (by omega) e_N23 e_CR (by omega)) (fun r192 S193 hq194 => ?_)
        obtain ⟨z195, rfl, h196, h197, rm198, hme199, e200, e201, hI202, hF203⟩ := hq194
        have e204 := RTx.fr e_RT hF203 rfl rfl
        have e205 := RSx.fr e_RS hF203 rfl rfl
        have e206 := RThx.fr e_RTh hF203 rfl rfl
        have e207 := RIx.fr e_RI hF203 rfl rfl
        have e208 := RKx.fr e_RK hF203 rfl rfl
        have e209 := RSlx.fr e_RSl hF203 rfl rfl
        have e210 := RPx.fr e_RP hF203 rfl rfl
        have e211 := RSkx.fr e_RSk hF203 rfl rfl
        have e212 := vZx.fr e_vZ hF203 rfl rfl
        have e213 := RWx.fr e_RW hF203 rfl rfl
        refine Or.inr (Or.inl ⟨rfl, ?_⟩)
        refine r_store (i := 135) (u := 5) (w := 0) (L1 := [some ((6, 0)), some ((2, 0)), some ((2, 43)), some ((2, 81)), some (vi i), some (vi z195), none]) rfl rfl rfl rfl ?_
        refine r_load (i := 136) (u := 2) (w := 2) rfl rfl rfl ?_
        refine r_load (i := 137) (u := 0) (w := 2) rfl rfl rfl ?_
        refine r_load (i := 138) (u := 4) (w := 0) rfl rfl rfl ?_
        refine r_const (i := 139) (u := 1) (z := 1) rfl rfl ?_
        refine r_iadd (i := 140) rfl ?_
        refine r_scA (i := 141) hG rfl (by omega) (by omega) fun h214 => ?_
        have h214 : Rg (sc (i + 1).toNat) := h214
        refine r_load (i := 142) (u := 0) (w := 2) rfl rfl rfl ?_
        refine r_load (i := 143) (u := 4) (w := 0) rfl rfl rfl ?_
        refine r_const (i := 144) (u := 2) (z := 2) rfl rfl ?_
        refine r_iadd (i := 145) rfl ?_
        refine r_scA (i := 146) hG rfl (by omega) (by omega) fun h215 => ?_
        have h215 : Rg (sc (i + 2).toNat) := h215
        refine r_load (i := 147) (u := 0) (w := 2) rfl rfl rfl ?_
        refine r_load (i := 148) (u := 4) (w := 0) rfl rfl rfl ?_
        refine r_const (i := 149) (u := 3) (z := 3) rfl rfl ?_
        refine r_iadd (i := 150) rfl ?_
        refine r_scA (i := 151) hG rfl (by omega) (by omega) fun h216 => ?_
        have h216 : Rg (sc (i + 3).toNat) := h216
        refine r_load (i := 152) (u := 0) (w := 2) rfl rfl rfl ?_
        refine r_load (i := 153) (u := 4) (w := 0) rfl rfl rfl ?_
        refine r_const (i := 154) (u := 4) (z := 4) rfl rfl ?_
        refine r_iadd (i := 155) rfl ?_
        refine r_scA (i := 156) hG rfl (by omega) (by omega) fun h217 => ?_
        have h217 : Rg (sc (i + 4).toNat) := h217
        refine r_load (i := 157) (u := 0) (w := 2) rfl rfl rfl ?_
        refine r_load (i := 158) (u := 4) (w := 0) rfl rfl rfl ?_
        refine r_const (i := 159) (u := 5) (z := 5) rfl rfl ?_
        refine r_iadd (i := 160) rfl ?_
        refine r_scA (i := 161) hG rfl (by omega) (by omega) fun h218 => ?_
        have h218 : Rg (sc (i + 5).toNat) := h218
        refine r_call (i := 162) (u := 11) (v := 220) (w := 0) (b := 0) (na := 1542) (C2 := xC220) (as := [(2, 43), vi (sc (i + 1).toNat), vi (sc (i + 2).toNat), vi (sc (i + 3).toNat), vi (sc (i + 4).toNat), vi (sc (i + 5).toNat)]) (s := []) rfl rfl rfl rfl rfl rfl rfl (sp220 (t := sc (i + 1).toNat) (w0 := sc (i + 2).toNat) (bits := sc (i + 3).toNat) (al := sc (i + 4).toNat) (back := sc (i + 5).toNat) hI202 ⟨by omega, by omega⟩ ⟨by omega, by omega⟩ ⟨by omega, by omega⟩ ⟨by omega, by omega⟩ ⟨by omega, by omega⟩  e201 (by omega)) (fun r219 S220 hq221 => ?_)
        obtain ⟨z222, rfl, h223, h224, mq225, e226, hI227, hF228, hR229⟩ := hq221
        have e230 := RTx.fr e204 hF228 rfl rfl
        have e231 := RSx.fr e205 hF228 rfl rfl
        have e232 := RThx.fr e206 hF228 rfl rfl
        have e233 := RIx.fr e207 hF228 rfl rfl
        have e234 := RSlx.fr e209 hF228 rfl rfl
        have e235 := RPx.fr e210 hF228 rfl rfl
        have e236 := RSkx.fr e211 hF228 rfl rfl
        have e237 := RWx.fr e213 hF228 rfl rfl
        have e238 := N23x.fr e200 hF228 hR229 rfl rfl rfl
        have e239 := wRM_rm rm198 hR229
        refine Or.inr (Or.inl ⟨rfl, ?_⟩)
        have rm9 := (RMe_method e_RT e_RMe hme199 hF203 rfl rfl mq225 hF228 rfl rfl).1
        have rk9 := (RMe_method e_RT e_RMe hme199 hF203 rfl rfl mq225 hF228 rfl rfl).2.1
        have ro9 := (RMe_method e_RT e_RMe hme199 hF203 rfl rfl mq225 hF228 rfl rfl).2.2
        have rk8 := RK_meth (RKx.fr e_RK hF203 rfl rfl) (Int.le_trans (hI.f tf43_1).1 (Int.le_of_eq (hF203.f rfl).symm)) mq225 hF228 rfl
        have vz9 := vZ_meth (vZx.fr e_vZ hF203 rfl rfl) mq225 hF228 rfl
        refine r_store (i := 163) (u := 6) (w := 0) (L1 := [some ((6, 0)), some ((2, 0)), some ((2, 43)), some ((2, 81)), some (vi i), some (vi z195), some (vi z222)]) rfl rfl rfl rfl ?_
        refine r_goto (i := 164) (v := 637) rfl ?_
        refine r_iinc (i := 637) (u := 10) (v := 4) (s := 10) (L1 := [some ((6, 0)), some ((2, 0)), some ((2, 43)), some ((2, 81)), some (vi (i + 10)), some (vi z195), some (vi z222)]) rfl rfl rfl rfl rfl ?_
        refine r_goto (i := 638) (v := 13) rfl ?_
        refine yT_drop (L1 := [some ((6, 0)), some ((2, 0)), some ((2, 43)), some ((2, 81)), some (vi (i + 10)), none, none]) rfl ?_
        exact ih S220 hI227 e238 e226 e230 rm9 e231 e232 e233 rk8 e234 e235 e236 vz9 e237 (i + 10) ⟨by omega, by omega⟩ (by exact wRM_le e239 (by omega)) (by omega)
      · refine r_swK (i := 24) (u := 1) (v := 637) (k := 3) (t := 165) rfl rfl h8 (by decide) (by decide) rfl ?_
        refine r_load (i := 165) (u := 1) (w := 2) rfl rfl rfl ?_
        refine r_load (i := 166) (u := 0) (w := 2) rfl rfl rfl ?_
        refine r_load (i := 167) (u := 4) (w := 0) rfl rfl rfl ?_
        refine r_const (i := 168) (u := 1) (z := 1) rfl rfl ?_
        refine r_iadd (i := 169) rfl ?_
        refine r_scA (i := 170) hG rfl (by omega) (by omega) fun h240 => ?_
        have h240 : Rg (sc (i + 1).toNat) := h240
        refine r_load (i := 171) (u := 0) (w := 2) rfl rfl rfl ?_
        refine r_load (i := 172) (u := 4) (w := 0) rfl rfl rfl ?_
        refine r_const (i := 173) (u := 2) (z := 2) rfl rfl ?_
        refine r_iadd (i := 174) rfl ?_
        refine r_scA (i := 175) hG rfl (by omega) (by omega) fun h241 => ?_
        have h241 : Rg (sc (i + 2).toNat) := h241
        refine r_call (i := 176) (u := 65535) (v := 178) (w := 0) (b := 2) (na := 1027) (C2 := xC178) (as := [(2, 0), vi (sc (i + 1).toNat), vi (sc (i + 2).toNat)]) (s := []) rfl rfl rfl rfl rfl rfl rfl (sp178 (p0 := sc (i + 1).toNat) (p1 := sc (i + 2).toNat) (kR := 5199 - i) hI ⟨by omega, by omega⟩ ⟨by omega, by omega⟩ (by exact wRM_le q_0 (by omega)) (by omega) e_N23 e_CR (by omega)) (fun r242 S243 hq244 => ?_)
        obtain ⟨z245, rfl, h246, h247, rm248, hth249, e250, e251, hI252, hF253⟩ := hq244
        have e254 := RTx.fr e_RT hF253 rfl rfl
        have e255 := RMex.fr e_RMe hF253 rfl rfl
        have e256 := RSx.fr e_RS hF253 rfl rfl
        have e257 := RIx.fr e_RI hF253 rfl rfl
        have e258 := RKx.fr e_RK hF253 rfl rfl
        have e259 := RSlx.fr e_RSl hF253 rfl rfl
        have e260 := RPx.fr e_RP hF253 rfl rfl
        have e261 := RSkx.fr e_RSk hF253 rfl rfl
        have e262 := vZx.fr e_vZ hF253 rfl rfl
        have e263 := RWx.fr e_RW hF253 rfl rfl
        refine Or.inr (Or.inl ⟨rfl, ?_⟩)
        refine r_store (i := 177) (u := 5) (w := 0) (L1 := [some ((6, 0)), some ((2, 0)), some ((2, 43)), some ((2, 81)), some (vi i), some (vi z245), none]) rfl rfl rfl rfl ?_
        refine r_load (i := 178) (u := 2) (w := 2) rfl rfl rfl ?_
        refine r_load (i := 179) (u := 0) (w := 2) rfl rfl rfl ?_
        refine r_load (i := 180) (u := 4) (w := 0) rfl rfl rfl ?_
        refine r_const (i := 181) (u := 1) (z := 1) rfl rfl ?_
        refine r_iadd (i := 182) rfl ?_
        refine r_scA (i := 183) hG rfl (by omega) (by omega) fun h264 => ?_
        have h264 : Rg (sc (i + 1).toNat) := h264
        refine r_load (i := 184) (u := 0) (w := 2) rfl rfl rfl ?_
        refine r_load (i := 185) (u := 4) (w := 0) rfl rfl rfl ?_
        refine r_const (i := 186) (u := 2) (z := 2) rfl rfl ?_
        refine r_iadd (i := 187) rfl ?_
        refine r_scA (i := 188) hG rfl (by omega) (by omega) fun h265 => ?_
        have h265 : Rg (sc (i + 2).toNat) := h265
        refine r_call (i := 189) (u := 11) (v := 255) (w := 0) (b := 0) (na := 1283) (C2 := xC255) (as := [(2, 43), vi (sc (i + 1).toNat), vi (sc (i + 2).toNat)]) (s := []) rfl rfl rfl rfl rfl rfl rfl (sp255 (m := sc (i + 1).toNat) (t := sc (i + 2).toNat) hI252 ⟨by omega, by omega⟩ ⟨by omega, by omega⟩   (by omega)) (fun r266 S267 hq268 => ?_)
        obtain ⟨rfl, mt269, hI270, hF271, hR272⟩ := hq268
        have e273 := RTx.fr e254 hF271 rfl rfl
        have e274 := RMex.fr e255 hF271 rfl rfl
        have e275 := RSx.fr e256 hF271 rfl rfl
        have e276 := RIx.fr e257 hF271 rfl rfl
        have e277 := RKx.fr e258 hF271 rfl rfl
        have e278 := RSlx.fr e259 hF271 rfl rfl
        have e279 := RPx.fr e260 hF271 rfl rfl
        have e280 := vZx.fr e262 hF271 rfl rfl
        have e281 := RWx.fr e263 hF271 rfl rfl
        have e282 := N23x.fr e250 hF271 hR272 rfl rfl rfl
        have e283 := CRx.fr e251 hF271 rfl rfl
        have e284 := wRM_rm rm248 hR272
        refine Or.inl ⟨rfl, ?_⟩
        have rt9 := (RTh_thr e_RT e_RS e_RMe e_RTh hI.m3 hth249 hF253 rfl rfl mt269 hF271 rfl).1
        have rk9 := (RTh_thr e_RT e_RS e_RMe e_RTh hI.m3 hth249 hF253 rfl rfl mt269 hF271 rfl).2
        have rs9 := RSk_thr e_RSk (fun j => (hI.a ta60 j).1) (fun j => hI.a ta58 j) hF253 rfl rfl (FM_of e_RT e_RS hI.m3 (hF253.f rfl) (hF253.a rfl) (hF253.a rfl) (hF253.a rfl)) mt269 hF271 rfl rfl
        refine r_goto (i := 190) (v := 637) rfl ?_
        refine r_iinc (i := 637) (u := 10) (v := 4) (s := 10) (L1 := [some ((6, 0)), some ((2, 0)), some ((2, 43)), some ((2, 81)), some (vi (i + 10)), some (vi z245), none]) rfl rfl rfl rfl rfl ?_
        refine r_goto (i := 638) (v := 13) rfl ?_
        refine yT_drop (L1 := [some ((6, 0)), some ((2, 0)), some ((2, 43)), some ((2, 81)), some (vi (i + 10)), none, none]) rfl ?_
        exact ih S267 hI270 e282 e283 e273 e274 e275 rt9 e276 e277 e278 e279 rs9 e280 e281 (i + 10) ⟨by omega, by omega⟩ (by exact wRM_le e284 (by omega)) (by omega)
      · refine r_swK (i := 24) (u := 1) (v := 637) (k := 4) (t := 191) rfl rfl h9 (by decide) (by decide) rfl ?_
        refine r_load (i := 191) (u := 1) (w := 2) rfl rfl rfl ?_
        refine r_load (i := 192) (u := 0) (w := 2) rfl rfl rfl ?_
        refine r_load (i := 193) (u := 4) (w := 0) rfl rfl rfl ?_
        refine r_const (i := 194) (u := 1) (z := 1) rfl rfl ?_
        refine r_iadd (i := 195) rfl ?_
        refine r_scA (i := 196) hG rfl (by omega) (by omega) fun h285 => ?_
        have h285 : Rg (sc (i + 1).toNat) := h285
        refine r_load (i := 197) (u := 0) (w := 2) rfl rfl rfl ?_
        refine r_load (i := 198) (u := 4) (w := 0) rfl rfl rfl ?_
        refine r_const (i := 199) (u := 2) (z := 2) rfl rfl ?_
        refine r_iadd (i := 200) rfl ?_
        refine r_scA (i := 201) hG rfl (by omega) (by omega) fun h286 => ?_
        have h286 : Rg (sc (i + 2).toNat) := h286
        have h287 := hI.f tf1_7
        refine r_call (i := 202) (u := 0) (v := 12) (w := 0) (b := 0) (na := 771) (C2 := xC12) (as := [(2, 0), vi (sc (i + 1).toNat), vi (sc (i + 2).toNat)]) (s := []) rfl rfl rfl rfl rfl rfl rfl (sp12 (t := sc (i + 1).toNat) (o := sc (i + 2).toNat) hI ⟨by omega, by omega⟩ ⟨by omega, by omega⟩   (by omega)) (fun r288 S289 hq290 => ?_)
        obtain ⟨z291, rfl, h292, h293, cs294, rfl⟩ := hq290
        refine Or.inr (Or.inl ⟨rfl, ?_⟩)
        refine r_pop (i := 203) rfl rfl ?_
        refine r_load (i := 204) (u := 2) (w := 2) rfl rfl rfl ?_
        refine r_load (i := 205) (u := 0) (w := 2) rfl rfl rfl ?_
        refine r_load (i := 206) (u := 4) (w := 0) rfl rfl rfl ?_
        refine r_const (i := 207) (u := 1) (z := 1) rfl rfl ?_
        refine r_iadd (i := 208) rfl ?_
        refine r_scA (i := 209) hG rfl (by omega) (by omega) fun h295 => ?_
        have h295 : Rg (sc (i + 1).toNat) := h295
        refine r_load (i := 210) (u := 0) (w := 2) rfl rfl rfl ?_
        refine r_load (i := 211) (u := 4) (w := 0) rfl rfl rfl ?_
        refine r_const (i := 212) (u := 2) (z := 2) rfl rfl ?_
        refine r_iadd (i := 213) rfl ?_
        refine r_scA (i := 214) hG rfl (by omega) (by omega) fun h296 => ?_
        have h296 : Rg (sc (i + 2).toNat) := h296
        have h297 := hI.f tf43_1
        refine r_call (i := 215) (u := 11) (v := 211) (w := 0) (b := 0) (na := 771) (C2 := xC211) (as := [(2, 43), vi (sc (i + 1).toNat), vi (sc (i + 2).toNat)]) (s := []) rfl rfl rfl rfl rfl rfl rfl (sp211 (t := sc (i + 1).toNat) (o := sc (i + 2).toNat) hI ⟨by omega, by omega⟩ ⟨by omega, by omega⟩   (by omega)) (fun r298 S299 hq300 => ?_)
        obtain ⟨z301, rfl, h302, h303, ms304, hI305, hF306, hR307⟩ := hq300
        have e308 := N23x.fr e_N23 hF306 hR307 rfl rfl rfl
        have e309 := CRx.fr e_CR hF306 rfl rfl
        have e310 := RTx.fr e_RT hF306 rfl rfl
        have e311 := RMex.fr e_RMe hF306 rfl rfl
        have e312 := RSx.fr e_RS hF306 rfl rfl
        have e313 := RThx.fr e_RTh hF306 rfl rfl
        have e314 := RIx.fr e_RI hF306 rfl rfl
        have e315 := RKx.fr e_RK hF306 rfl rfl
        have e316 := RSlx.fr e_RSl hF306 rfl rfl
        have e317 := RPx.fr e_RP hF306 rfl rfl
        have e318 := RSkx.fr e_RSk hF306 rfl rfl
        have e319 := vZx.fr e_vZ hF306 rfl rfl
        have e320 := RWx.fr e_RW hF306 rfl rfl
        have e321 := wRM_rm q_0 hR307
        refine Or.inr (Or.inl ⟨rfl, ?_⟩)
        have eq9 := RS_sub e_RT e_RS hI.m3 (hI.f tf1_7).2 cs294 ms304 rfl (fun _ => rfl) (fun _ => rfl) (fun _ => rfl)
        refine r_pop (i := 216) rfl rfl ?_
        refine r_goto (i := 217) (v := 637) rfl ?_
        refine r_iinc (i := 637) (u := 10) (v := 4) (s := 10) (L1 := [some ((6, 0)), some ((2, 0)), some ((2, 43)), some ((2, 81)), some (vi (i + 10)), none, none]) rfl rfl rfl rfl rfl ?_
        refine r_goto (i := 638) (v := 13) rfl ?_
        exact ih S299 hI305 e308 e309 e310 e311 e312 e313 e314 e315 e316 e317 e318 e319 e320 (i + 10) ⟨by omega, by omega⟩ (by exact wRM_le e321 (by omega)) (by omega)
      · refine r_swK (i := 24) (u := 1) (v := 637) (k := 5) (t := 218) rfl rfl h10 (by decide) (by decide) rfl ?_
        refine r_load (i := 218) (u := 1) (w := 2) rfl rfl rfl ?_
        refine r_load (i := 219) (u := 0) (w := 2) rfl rfl rfl ?_
        refine r_load (i := 220) (u := 4) (w := 0) rfl rfl rfl ?_
        refine r_const (i := 221) (u := 1) (z := 1) rfl rfl ?_
        refine r_iadd (i := 222) rfl ?_
        refine r_scA (i := 223) hG rfl (by omega) (by omega) fun h322 => ?_
        have h322 : Rg (sc (i + 1).toNat) := h322
        refine r_load (i := 224) (u := 0) (w := 2) rfl rfl rfl ?_
        refine r_load (i := 225) (u := 4) (w := 0) rfl rfl rfl ?_
        refine r_const (i := 226) (u := 2) (z := 2) rfl rfl ?_
        refine r_iadd (i := 227) rfl ?_
        refine r_scA (i := 228) hG rfl (by omega) (by omega) fun h323 => ?_
        have h323 : Rg (sc (i + 2).toNat) := h323
        refine r_call (i := 229) (u := 0) (v := 14) (w := 0) (b := 0) (na := 771) (C2 := xC14) (as := [(2, 0), vi (sc (i + 1).toNat), vi (sc (i + 2).toNat)]) (s := []) rfl rfl rfl rfl rfl rfl rfl (sp14 (w0 := sc (i + 1).toNat) (k := sc (i + 2).toNat) hI ⟨by omega, by omega⟩ ⟨by omega, by omega⟩   (by omega)) (fun r324 S325 hq326 => ?_)
        obtain ⟨z327, rfl, h328, h329, h330, pl331, hI332, hF333, hR334⟩ := hq326
        have e335 := N23x.fr e_N23 hF333 hR334 rfl rfl rfl
        have e336 := CRx.fr e_CR hF333 rfl rfl
        have e337 := RTx.fr e_RT hF333 rfl rfl
        have e338 := RMex.fr e_RMe hF333 rfl rfl
        have e339 := RSx.fr e_RS hF333 rfl rfl
        have e340 := RThx.fr e_RTh hF333 rfl rfl
        have e341 := RIx.fr e_RI hF333 rfl rfl
        have e342 := RKx.fr e_RK hF333 rfl rfl
        have e343 := RSlx.fr e_RSl hF333 rfl rfl
        have e344 := RSkx.fr e_RSk hF333 rfl rfl
        have e345 := vZx.fr e_vZ hF333 rfl rfl
        have e346 := RWx.fr e_RW hF333 rfl rfl
        have e347 := wRM_rm q_0 hR334
        refine Or.inr (Or.inl ⟨rfl, ?_⟩)
        refine r_pop (i := 230) rfl rfl ?_
        refine r_load (i := 231) (u := 2) (w := 2) rfl rfl rfl ?_
        refine r_load (i := 232) (u := 0) (w := 2) rfl rfl rfl ?_
        refine r_load (i := 233) (u := 4) (w := 0) rfl rfl rfl ?_
        refine r_const (i := 234) (u := 1) (z := 1) rfl rfl ?_
        refine r_iadd (i := 235) rfl ?_
        refine r_scA (i := 236) hG rfl (by omega) (by omega) fun h348 => ?_
        have h348 : Rg (sc (i + 1).toNat) := h348
        refine r_load (i := 237) (u := 0) (w := 2) rfl rfl rfl ?_
        refine r_load (i := 238) (u := 4) (w := 0) rfl rfl rfl ?_
        refine r_const (i := 239) (u := 2) (z := 2) rfl rfl ?_
        refine r_iadd (i := 240) rfl ?_
        refine r_scA (i := 241) hG rfl (by omega) (by omega) fun h349 => ?_
        have h349 : Rg (sc (i + 2).toNat) := h349
        refine r_call (i := 242) (u := 11) (v := 232) (w := 0) (b := 0) (na := 771) (C2 := xC232) (as := [(2, 43), vi (sc (i + 1).toNat), vi (sc (i + 2).toNat)]) (s := []) rfl rfl rfl rfl rfl rfl rfl (sp232 (w0 := sc (i + 1).toNat) (k := sc (i + 2).toNat) hI332 ⟨by omega, by omega⟩ ⟨by omega, by omega⟩   (by omega)) (fun r350 S351 hq352 => ?_)
        obtain ⟨z353, rfl, h354, h355, h356, pl357, hI358, hF359, hR360⟩ := hq352
        have e361 := N23x.fr e335 hF359 hR360 rfl rfl rfl
        have e362 := CRx.fr e336 hF359 rfl rfl
        have e363 := RTx.fr e337 hF359 rfl rfl
        have e364 := RMex.fr e338 hF359 rfl rfl
        have e365 := RSx.fr e339 hF359 rfl rfl
        have e366 := RThx.fr e340 hF359 rfl rfl
        have e367 := RIx.fr e341 hF359 rfl rfl
        have e368 := RKx.fr e342 hF359 rfl rfl
        have e369 := RSlx.fr e343 hF359 rfl rfl
        have e370 := RSkx.fr e344 hF359 rfl rfl
        have e371 := vZx.fr e345 hF359 rfl rfl
        have e372 := RWx.fr e346 hF359 rfl rfl
        have e373 := wRM_rm e347 hR360
        refine Or.inr (Or.inl ⟨rfl, ?_⟩)
        have rp9 := RP_pol e_RP pl331 hF333 rfl pl357 hF359 rfl (by omega)
        refine r_pop (i := 243) rfl rfl ?_
        refine r_goto (i := 244) (v := 637) rfl ?_
        refine r_iinc (i := 637) (u := 10) (v := 4) (s := 10) (L1 := [some ((6, 0)), some ((2, 0)), some ((2, 43)), some ((2, 81)), some (vi (i + 10)), none, none]) rfl rfl rfl rfl rfl ?_
        refine r_goto (i := 638) (v := 13) rfl ?_
        exact ih S351 hI358 e361 e362 e363 e364 e365 e366 e367 e368 e369 rp9 e370 e371 e372 (i + 10) ⟨by omega, by omega⟩ (by exact wRM_le e373 (by omega)) (by omega)
      · refine r_swK (i := 24) (u := 1) (v := 637) (k := 6) (t := 245) rfl rfl h11 (by decide) (by decide) rfl ?_
        refine r_load (i := 245) (u := 1) (w := 2) rfl rfl rfl ?_
        refine r_load (i := 246) (u := 0) (w := 2) rfl rfl rfl ?_
        refine r_load (i := 247) (u := 4) (w := 0) rfl rfl rfl ?_
        refine r_const (i := 248) (u := 1) (z := 1) rfl rfl ?_
        refine r_iadd (i := 249) rfl ?_
        refine r_scA (i := 250) hG rfl (by omega) (by omega) fun h374 => ?_
        have h374 : Rg (sc (i + 1).toNat) := h374
        refine r_load (i := 251) (u := 0) (w := 2) rfl rfl rfl ?_
        refine r_load (i := 252) (u := 4) (w := 0) rfl rfl rfl ?_
        refine r_const (i := 253) (u := 2) (z := 2) rfl rfl ?_
        refine r_iadd (i := 254) rfl ?_
        refine r_scA (i := 255) hG rfl (by omega) (by omega) fun h375 => ?_
        have h375 : Rg (sc (i + 2).toNat) := h375
        refine r_load (i := 256) (u := 0) (w := 2) rfl rfl rfl ?_
        refine r_load (i := 257) (u := 4) (w := 0) rfl rfl rfl ?_
        refine r_const (i := 258) (u := 3) (z := 3) rfl rfl ?_
        refine r_iadd (i := 259) rfl ?_
        refine r_scA (i := 260) hG rfl (by omega) (by omega) fun h376 => ?_
        have h376 : Rg (sc (i + 3).toNat) := h376
        refine r_load (i := 261) (u := 0) (w := 2) rfl rfl rfl ?_
        refine r_load (i := 262) (u := 4) (w := 0) rfl rfl rfl ?_
        refine r_const (i := 263) (u := 4) (z := 4) rfl rfl ?_
        refine r_iadd (i := 264) rfl ?_
        refine r_scA (i := 265) hG rfl (by omega) (by omega) fun h377 => ?_
        have h377 : Rg (sc (i + 4).toNat) := h377
        refine r_load (i := 266) (u := 3) (w := 2) rfl rfl rfl ?_
        refine r_call (i := 267) (u := 65535) (v := 175) (w := 0) (b := 2) (na := 1798) (C2 := xC175) (as := [(2, 0), vi (sc (i + 1).toNat), vi (sc (i + 2).toNat), vi (sc (i + 3).toNat), vi (sc (i + 4).toNat), (2, 81)]) (s := []) rfl rfl rfl rfl rfl rfl rfl (sp175 (p0 := sc (i + 1).toNat) (p1 := sc (i + 2).toNat) (p2 := sc (i + 3).toNat) (p3 := sc (i + 4).toNat) (kR := 5199 - i) hI ⟨by omega, by omega⟩ ⟨by omega, by omega⟩ ⟨by omega, by omega⟩ ⟨by omega, by omega⟩ (by exact wRM_le q_0 (by omega)) (by omega) e_N23 e_CR (by omega)) (fun r378 S379 hq380 => ?_)
        obtain ⟨z381, rfl, h382, h383, rm384, hfo385, hfi386, e387, e388, hI389, hF390⟩ := hq380
        have e391 := RTx.fr e_RT hF390 rfl rfl
        have e392 := RMex.fr e_RMe hF390 rfl rfl
        have e393 := RSx.fr e_RS hF390 rfl rfl
        have e394 := RThx.fr e_RTh hF390 rfl rfl
        have e395 := RIx.fr e_RI hF390 rfl rfl
        have e396 := RKx.fr e_RK hF390 rfl rfl
        have e397 := RPx.fr e_RP hF390 rfl rfl
        have e398 := vZx.fr e_vZ hF390 rfl rfl
        refine Or.inr (Or.inl ⟨rfl, ?_⟩)
        refine r_store (i := 268) (u := 5) (w := 0) (L1 := [some ((6, 0)), some ((2, 0)), some ((2, 43)), some ((2, 81)), some (vi i), some (vi z381), none]) rfl rfl rfl rfl ?_
        refine r_load (i := 269) (u := 2) (w := 2) rfl rfl rfl ?_
        refine r_load (i := 270) (u := 0) (w := 2) rfl rfl rfl ?_
        refine r_load (i := 271) (u := 4) (w := 0) rfl rfl rfl ?_
        refine r_const (i := 272) (u := 1) (z := 1) rfl rfl ?_
        refine r_iadd (i := 273) rfl ?_
        refine r_scA (i := 274) hG rfl (by omega) (by omega) fun h399 => ?_
        have h399 : Rg (sc (i + 1).toNat) := h399
        refine r_load (i := 275) (u := 0) (w := 2) rfl rfl rfl ?_
        refine r_load (i := 276) (u := 4) (w := 0) rfl rfl rfl ?_
        refine r_const (i := 277) (u := 2) (z := 2) rfl rfl ?_
        refine r_iadd (i := 278) rfl ?_
        refine r_scA (i := 279) hG rfl (by omega) (by omega) fun h400 => ?_
        have h400 : Rg (sc (i + 2).toNat) := h400
        refine r_load (i := 280) (u := 0) (w := 2) rfl rfl rfl ?_
        refine r_load (i := 281) (u := 4) (w := 0) rfl rfl rfl ?_
        refine r_const (i := 282) (u := 3) (z := 3) rfl rfl ?_
        refine r_iadd (i := 283) rfl ?_
        refine r_scA (i := 284) hG rfl (by omega) (by omega) fun h401 => ?_
        have h401 : Rg (sc (i + 3).toNat) := h401
        refine r_load (i := 285) (u := 0) (w := 2) rfl rfl rfl ?_
        refine r_load (i := 286) (u := 4) (w := 0) rfl rfl rfl ?_
        refine r_const (i := 287) (u := 4) (z := 4) rfl rfl ?_
        refine r_iadd (i := 288) rfl ?_
        refine r_scA (i := 289) hG rfl (by omega) (by omega) fun h402 => ?_
        have h402 : Rg (sc (i + 4).toNat) := h402
        refine r_call (i := 290) (u := 11) (v := 203) (w := 0) (b := 0) (na := 2565) (C2 := xC203) (as := [(2, 43), vi (sc (i + 1).toNat), vi (sc (i + 2).toNat), vi (sc (i + 3).toNat), vi (sc (i + 4).toNat)]) (s := []) rfl rfl rfl rfl rfl rfl rfl (sp203 (c := sc (i + 1).toNat) (a := sc (i + 2).toNat) (b := sc (i + 3).toNat) (e := sc (i + 4).toNat) hI389 ⟨by omega, by omega⟩ ⟨by omega, by omega⟩ ⟨by omega, by omega⟩ ⟨by omega, by omega⟩  e388 (by omega)) (fun r403 S404 hq405 => ?_)
        obtain ⟨z406, rfl, h407, h408, mf409, mkq410, fmz411, e412, hI413, hF414, hR415⟩ := hq405
        have e416 := RTx.fr e391 hF414 rfl rfl
        have e417 := RMex.fr e392 hF414 rfl rfl
        have e418 := RSx.fr e393 hF414 rfl rfl
        have e419 := RThx.fr e394 hF414 rfl rfl
        have e420 := RIx.fr e395 hF414 rfl rfl
        have e421 := RKx.fr e396 hF414 rfl rfl
        have e422 := RPx.fr e397 hF414 rfl rfl
        have e423 := vZx.fr e398 hF414 rfl rfl
        have e424 := N23x.fr e387 hF414 hR415 rfl rfl rfl
        have e425 := wRM_rm rm384 hR415
        refine Or.inr (Or.inl ⟨rfl, ?_⟩)
        have rs9 := (FX_eq e_RT e_RS e_RMe e_RI e_RK hI.m3 (hI.f tf1_7).2 hfo385 (sMa_fr hF390 rfl rfl) mf409 e_RSl (sSm_fr hF390 rfl rfl) (sSl_fr hF414 rfl rfl) (hI413.f tf43_20).1).2.2
        have rk9 := (FX_eq e_RT e_RS e_RMe e_RI e_RK hI.m3 (hI.f tf1_7).2 hfo385 (sMa_fr hF390 rfl rfl) mf409 e_RSl (sSm_fr hF390 rfl rfl) (sSl_fr hF414 rfl rfl) (hI413.f tf43_20).1).1
        have ro9 := (FX_eq e_RT e_RS e_RMe e_RI e_RK hI.m3 (hI.f tf1_7).2 hfo385 (sMa_fr hF390 rfl rfl) mf409 e_RSl (sSm_fr hF390 rfl rfl) (sSl_fr hF414 rfl rfl) (hI413.f tf43_20).1).2.1
        have rs8 := RSk_forge e_RSk hfo385 hF390 rfl mf409 mkq410 hF414 rfl rfl rk9 ro9 rs9 e422 e417 e419
        have rw8 := RW_forge e_RW e_RT e_RS e_RMe e_RI hI.m3 (hI.f tf1_7).2 hfo385 hfi386 hF390 rfl rfl rfl rfl fmz411 hF414 rfl rfl rfl rfl rfl rfl rfl rk9 ro9 e416 e417 e419 rs9 rs8 e_vZ (fun j => hI.a ta52 j) (fun j => (hI413.a ta60 j).1) (hI413.f tf43_42).1 (hI413).b0.1
        refine r_store (i := 291) (u := 6) (w := 0) (L1 := [some ((6, 0)), some ((2, 0)), some ((2, 43)), some ((2, 81)), some (vi i), some (vi z381), some (vi z406)]) rfl rfl rfl rfl ?_
        refine r_goto (i := 292) (v := 637) rfl ?_
        refine r_iinc (i := 637) (u := 10) (v := 4) (s := 10) (L1 := [some ((6, 0)), some ((2, 0)), some ((2, 43)), some ((2, 81)), some (vi (i + 10)), some (vi z381), some (vi z406)]) rfl rfl rfl rfl rfl ?_
        refine r_goto (i := 638) (v := 13) rfl ?_
        refine yT_drop (L1 := [some ((6, 0)), some ((2, 0)), some ((2, 43)), some ((2, 81)), some (vi (i + 10)), none, none]) rfl ?_
        exact ih S404 hI413 e424 e412 e416 e417 e418 e419 e420 e421 rs9 e422 rs8 e423 rw8 (i + 10) ⟨by omega, by omega⟩ (by exact wRM_le e425 (by omega)) (by omega)
      · refine r_swK (i := 24) (u := 1) (v := 637) (k := 7) (t := 293) rfl rfl h12 (by decide) (by decide) rfl ?_
        refine r_load (i := 293) (u := 1) (w := 2) rfl rfl rfl ?_
        have h426 := hI.f tf22_3
        refine r_call (i := 294) (u := 0) (v := 19) (w := 0) (b := 0) (na := 257) (C2 := xC19) (as := [(2, 0)]) (s := []) rfl rfl rfl rfl rfl rfl rfl (sp19  hI    (by omega)) (fun r427 S428 hq429 => ?_)
        obtain ⟨z430, rfl, h431, h432, sc_slots433, rfl⟩ := hq429
        refine Or.inr (Or.inl ⟨rfl, ?_⟩)
        refine r_pop (i := 295) rfl rfl ?_
        refine r_load (i := 296) (u := 2) (w := 2) rfl rfl rfl ?_
        have h434 := hI.f tf43_20
        refine r_call (i := 297) (u := 11) (v := 244) (w := 0) (b := 0) (na := 257) (C2 := xC244) (as := [(2, 43)]) (s := []) rfl rfl rfl rfl rfl rfl rfl (sp244  hI    (by omega)) (fun r435 S436 hq437 => ?_)
        obtain ⟨z438, rfl, h439, h440, sm_slots441, hI442, hF443, hR444⟩ := hq437
        have e445 := N23x.fr e_N23 hF443 hR444 rfl rfl rfl
        have e446 := CRx.fr e_CR hF443 rfl rfl
        have e447 := RTx.fr e_RT hF443 rfl rfl
        have e448 := RMex.fr e_RMe hF443 rfl rfl
        have e449 := RSx.fr e_RS hF443 rfl rfl
        have e450 := RThx.fr e_RTh hF443 rfl rfl
        have e451 := RIx.fr e_RI hF443 rfl rfl
        have e452 := RKx.fr e_RK hF443 rfl rfl
        have e453 := RSlx.fr e_RSl hF443 rfl rfl
        have e454 := RPx.fr e_RP hF443 rfl rfl
        have e455 := RSkx.fr e_RSk hF443 rfl rfl
        have e456 := vZx.fr e_vZ hF443 rfl rfl
        have e457 := RWx.fr e_RW hF443 rfl rfl
        have e458 := wRM_rm q_0 hR444
        refine Or.inr (Or.inl ⟨rfl, ?_⟩)
        have eq9 := e_RSl.1
        refine r_pop (i := 298) rfl rfl ?_
        refine r_goto (i := 299) (v := 637) rfl ?_
        refine r_iinc (i := 637) (u := 10) (v := 4) (s := 10) (L1 := [some ((6, 0)), some ((2, 0)), some ((2, 43)), some ((2, 81)), some (vi (i + 10)), none, none]) rfl rfl rfl rfl rfl ?_
        refine r_goto (i := 638) (v := 13) rfl ?_
        exact ih S436 hI442 e445 e446 e447 e448 e449 e450 e451 e452 e453 e454 e455 e456 e457 (i + 10) ⟨by omega, by omega⟩ (by exact wRM_le e458 (by omega)) (by omega)
      · refine r_swK (i := 24) (u := 1) (v := 637) (k := 8) (t := 300) rfl rfl h13 (by decide) (by decide) rfl ?_
        refine r_load (i := 300) (u := 1) (w := 2) rfl rfl rfl ?_
        refine r_load (i := 301) (u := 0) (w := 2) rfl rfl rfl ?_
        refine r_load (i := 302) (u := 4) (w := 0) rfl rfl rfl ?_
        refine r_const (i := 303) (u := 1) (z := 1) rfl rfl ?_
        refine r_iadd (i := 304) rfl ?_
        refine r_scA (i := 305) hG rfl (by omega) (by omega) fun h459 => ?_
        have h459 : Rg (sc (i + 1).toNat) := h459
        have h460 := hI.f tf22_3
        refine r_call (i := 306) (u := 0) (v := 18) (w := 0) (b := 0) (na := 514) (C2 := xC18) (as := [(2, 0), vi (sc (i + 1).toNat)]) (s := []) rfl rfl rfl rfl rfl rfl rfl (sp18 (k := sc (i + 1).toNat) hI ⟨by omega, by omega⟩   (by omega)) (fun r461 S462 hq463 => ?_)
        obtain ⟨z464, rfl, h465, h466, sc_slot467, rfl⟩ := hq463
        refine Or.inr (Or.inl ⟨rfl, ?_⟩)
        refine r_pop (i := 307) rfl rfl ?_
        refine r_load (i := 308) (u := 2) (w := 2) rfl rfl rfl ?_
        refine r_load (i := 309) (u := 0) (w := 2) rfl rfl rfl ?_
        refine r_load (i := 310) (u := 4) (w := 0) rfl rfl rfl ?_
        refine r_const (i := 311) (u := 1) (z := 1) rfl rfl ?_
        refine r_iadd (i := 312) rfl ?_
        refine r_scA (i := 313) hG rfl (by omega) (by omega) fun h468 => ?_
        have h468 : Rg (sc (i + 1).toNat) := h468
        have h469 := hI.f tf43_20
        refine r_call (i := 314) (u := 11) (v := 243) (w := 0) (b := 0) (na := 514) (C2 := xC243) (as := [(2, 43), vi (sc (i + 1).toNat)]) (s := []) rfl rfl rfl rfl rfl rfl rfl (sp243 (k := sc (i + 1).toNat) hI ⟨by omega, by omega⟩   (by omega)) (fun r470 S471 hq472 => ?_)
        obtain ⟨z473, rfl, h474, h475, sm_slot476, hI477, hF478, hR479⟩ := hq472
        have e480 := N23x.fr e_N23 hF478 hR479 rfl rfl rfl
        have e481 := CRx.fr e_CR hF478 rfl rfl
        have e482 := RTx.fr e_RT hF478 rfl rfl
        have e483 := RMex.fr e_RMe hF478 rfl rfl
        have e484 := RSx.fr e_RS hF478 rfl rfl
        have e485 := RThx.fr e_RTh hF478 rfl rfl
        have e486 := RIx.fr e_RI hF478 rfl rfl
        have e487 := RKx.fr e_RK hF478 rfl rfl
        have e488 := RSlx.fr e_RSl hF478 rfl rfl
        have e489 := RPx.fr e_RP hF478 rfl rfl
        have e490 := RSkx.fr e_RSk hF478 rfl rfl
        have e491 := vZx.fr e_vZ hF478 rfl rfl
        have e492 := RWx.fr e_RW hF478 rfl rfl
        have e493 := wRM_rm q_0 hR479
        refine Or.inr (Or.inl ⟨rfl, ?_⟩)
        have eq9 := RSl_slot e_RSl sc_slot467 sm_slot476
        refine r_pop (i := 315) rfl rfl ?_
        refine r_goto (i := 316) (v := 637) rfl ?_
        refine r_iinc (i := 637) (u := 10) (v := 4) (s := 10) (L1 := [some ((6, 0)), some ((2, 0)), some ((2, 43)), some ((2, 81)), some (vi (i + 10)), none, none]) rfl rfl rfl rfl rfl ?_
        refine r_goto (i := 638) (v := 13) rfl ?_
        exact ih S471 hI477 e480 e481 e482 e483 e484 e485 e486 e487 e488 e489 e490 e491 e492 (i + 10) ⟨by omega, by omega⟩ (by exact wRM_le e493 (by omega)) (by omega)
      · refine r_swK (i := 24) (u := 1) (v := 637) (k := 9) (t := 317) rfl rfl h14 (by decide) (by decide) rfl ?_
        refine r_load (i := 317) (u := 1) (w := 2) rfl rfl rfl ?_
        refine r_load (i := 318) (u := 0) (w := 2) rfl rfl rfl ?_
        refine r_load (i := 319) (u := 4) (w := 0) rfl rfl rfl ?_
        refine r_const (i := 320) (u := 1) (z := 1) rfl rfl ?_
        refine r_iadd (i := 321) rfl ?_
        refine r_scA (i := 322) hG rfl (by omega) (by omega) fun h494 => ?_
        have h494 : Rg (sc (i + 1).toNat) := h494
        refine r_load (i := 323) (u := 0) (w := 2) rfl rfl rfl ?_
        refine r_load (i := 324) (u := 4) (w := 0) rfl rfl rfl ?_
        refine r_const (i := 325) (u := 2) (z := 2) rfl rfl ?_
        refine r_iadd (i := 326) rfl ?_
        refine r_scA (i := 327) hG rfl (by omega) (by omega) fun h495 => ?_
        have h495 : Rg (sc (i + 2).toNat) := h495
        refine r_i2l (i := 328) rfl ⟨by omega, by omega⟩ ?_
        refine r_const (i := 329) (u := 32) (z := 32) rfl rfl ?_
        refine r_lshl (i := 330) rfl ?_
        refine r_load (i := 331) (u := 0) (w := 2) rfl rfl rfl ?_
        refine r_load (i := 332) (u := 4) (w := 0) rfl rfl rfl ?_
        refine r_const (i := 333) (u := 3) (z := 3) rfl rfl ?_
        refine r_iadd (i := 334) rfl ?_
        refine r_scA (i := 335) hG rfl (by omega) (by omega) fun h496 => ?_
        have h496 : Rg (sc (i + 3).toNat) := h496
        refine r_i2l (i := 336) rfl ⟨by omega, by omega⟩ ?_
        refine r_lconst (i := 337) (u := 4294967295) (z := 4294967295) rfl rfl ?_
        refine r_land (i := 338) rfl ?_
        have h497 := @yland_c (sc (i + 3).toNat) 4294967295 (by decide) (by decide)
        refine r_lor (i := 339) rfl ?_
        have h498 := ylor_rl ((sc (i + 2).toNat) * 4294967296) (yland (sc (i + 3).toNat) 4294967295)
        refine r_call (i := 340) (u := 65535) (v := 173) (w := 0) (b := 2) (na := 1283) (C2 := xC173) (as := [(2, 0), vi (sc (i + 1).toNat), vl (ylor ((sc (i + 2).toNat) * 4294967296) (yland (sc (i + 3).toNat) 4294967295))]) (s := []) rfl rfl rfl rfl rfl rfl rfl (sp173 (p0 := sc (i + 1).toNat) (p1 := ylor ((sc (i + 2).toNat) * 4294967296) (yland (sc (i + 3).toNat) 4294967295)) (kR := 5199 - i) hI ⟨by omega, by omega⟩ ⟨by omega, by omega⟩ (by exact wRM_le q_0 (by omega)) (by omega) e_N23 e_CR (by omega)) (fun r499 S500 hq501 => ?_)
        obtain ⟨z502, rfl, h503, h504, rm505, e506, e507, hI508, hF509⟩ := hq501
        have e510 := RTx.fr e_RT hF509 rfl rfl
        have e511 := RMex.fr e_RMe hF509 rfl rfl
        have e512 := RSx.fr e_RS hF509 rfl rfl
        have e513 := RThx.fr e_RTh hF509 rfl rfl
        have e514 := RIx.fr e_RI hF509 rfl rfl
        have e515 := RKx.fr e_RK hF509 rfl rfl
        have e516 := RSlx.fr e_RSl hF509 rfl rfl
        have e517 := RPx.fr e_RP hF509 rfl rfl
        have e518 := RSkx.fr e_RSk hF509 rfl rfl
        have e519 := vZx.fr e_vZ hF509 rfl rfl
        have e520 := RWx.fr e_RW hF509 rfl rfl
        refine Or.inr (Or.inl ⟨rfl, ?_⟩)
        refine r_store (i := 341) (u := 5) (w := 0) (L1 := [some ((6, 0)), some ((2, 0)), some ((2, 43)), some ((2, 81)), some (vi i), some (vi z502), none]) rfl rfl rfl rfl ?_
        refine r_load (i := 342) (u := 2) (w := 2) rfl rfl rfl ?_
        refine r_load (i := 343) (u := 0) (w := 2) rfl rfl rfl ?_
        refine r_load (i := 344) (u := 4) (w := 0) rfl rfl rfl ?_
        refine r_const (i := 345) (u := 1) (z := 1) rfl rfl ?_
        refine r_iadd (i := 346) rfl ?_
        refine r_scA (i := 347) hG rfl (by omega) (by omega) fun h521 => ?_
        have h521 : Rg (sc (i + 1).toNat) := h521
        refine r_load (i := 348) (u := 0) (w := 2) rfl rfl rfl ?_
        refine r_load (i := 349) (u := 4) (w := 0) rfl rfl rfl ?_
        refine r_const (i := 350) (u := 2) (z := 2) rfl rfl ?_
        refine r_iadd (i := 351) rfl ?_
        refine r_scA (i := 352) hG rfl (by omega) (by omega) fun h522 => ?_
        have h522 : Rg (sc (i + 2).toNat) := h522
        refine r_i2l (i := 353) rfl ⟨by omega, by omega⟩ ?_
        refine r_const (i := 354) (u := 32) (z := 32) rfl rfl ?_
        refine r_lshl (i := 355) rfl ?_
        refine r_load (i := 356) (u := 0) (w := 2) rfl rfl rfl ?_
        refine r_load (i := 357) (u := 4) (w := 0) rfl rfl rfl ?_
        refine r_const (i := 358) (u := 3) (z := 3) rfl rfl ?_
        refine r_iadd (i := 359) rfl ?_
        refine r_scA (i := 360) hG rfl (by omega) (by omega) fun h523 => ?_
        have h523 : Rg (sc (i + 3).toNat) := h523
        refine r_i2l (i := 361) rfl ⟨by omega, by omega⟩ ?_
        refine r_lconst (i := 362) (u := 4294967295) (z := 4294967295) rfl rfl ?_
        refine r_land (i := 363) rfl ?_
        have h524 := @yland_c (sc (i + 3).toNat) 4294967295 (by decide) (by decide)
        refine r_lor (i := 364) rfl ?_
        have h525 := ylor_rl ((sc (i + 2).toNat) * 4294967296) (yland (sc (i + 3).toNat) 4294967295)
        refine r_call (i := 365) (u := 11) (v := 181) (w := 0) (b := 0) (na := 1539) (C2 := xC181) (as := [(2, 43), vi (sc (i + 1).toNat), vl (ylor ((sc (i + 2).toNat) * 4294967296) (yland (sc (i + 3).toNat) 4294967295))]) (s := []) rfl rfl rfl rfl rfl rfl rfl (sp181 (w0 := sc (i + 1).toNat) (v := ylor ((sc (i + 2).toNat) * 4294967296) (yland (sc (i + 3).toNat) 4294967295)) hI508 ⟨by omega, by omega⟩ ⟨by omega, by omega⟩   (by omega)) (fun r526 S527 hq528 => ?_)
        obtain ⟨rfl, hI529, hF530, hR531⟩ := hq528
        have e532 := RTx.fr e510 hF530 rfl rfl
        have e533 := RMex.fr e511 hF530 rfl rfl
        have e534 := RSx.fr e512 hF530 rfl rfl
        have e535 := RThx.fr e513 hF530 rfl rfl
        have e536 := RIx.fr e514 hF530 rfl rfl
        have e537 := RKx.fr e515 hF530 rfl rfl
        have e538 := RSlx.fr e516 hF530 rfl rfl
        have e539 := RPx.fr e517 hF530 rfl rfl
        have e540 := RSkx.fr e518 hF530 rfl rfl
        have e541 := vZx.fr e519 hF530 rfl rfl
        have e542 := RWx.fr e520 hF530 rfl rfl
        have e543 := N23x.fr e506 hF530 hR531 rfl rfl rfl
        have e544 := CRx.fr e507 hF530 rfl rfl
        have e545 := wRM_rm rm505 hR531
        refine Or.inl ⟨rfl, ?_⟩
        refine r_goto (i := 366) (v := 637) rfl ?_
        refine r_iinc (i := 637) (u := 10) (v := 4) (s := 10) (L1 := [some ((6, 0)), some ((2, 0)), some ((2, 43)), some ((2, 81)), some (vi (i + 10)), some (vi z502), none]) rfl rfl rfl rfl rfl ?_
        refine r_goto (i := 638) (v := 13) rfl ?_
        refine yT_drop (L1 := [some ((6, 0)), some ((2, 0)), some ((2, 43)), some ((2, 81)), some (vi (i + 10)), none, none]) rfl ?_
        exact ih S527 hI529 e543 e544 e532 e533 e534 e535 e536 e537 e538 e539 e540 e541 e542 (i + 10) ⟨by omega, by omega⟩ (by exact wRM_le e545 (by omega)) (by omega)
      · refine r_swK (i := 24) (u := 1) (v := 637) (k := 10) (t := 367) rfl rfl h15 (by decide) (by decide) rfl ?_
        refine r_load (i := 367) (u := 1) (w := 2) rfl rfl rfl ?_
        refine r_load (i := 368) (u := 0) (w := 2) rfl rfl rfl ?_
        refine r_load (i := 369) (u := 4) (w := 0) rfl rfl rfl ?_
        refine r_const (i := 370) (u := 1) (z := 1) rfl rfl ?_
        refine r_iadd (i := 371) rfl ?_
        refine r_scA (i := 372) hG rfl (by omega) (by omega) fun h546 => ?_
        have h546 : Rg (sc (i + 1).toNat) := h546
        refine r_load (i := 373) (u := 0) (w := 2) rfl rfl rfl ?_
        refine r_load (i := 374) (u := 4) (w := 0) rfl rfl rfl ?_
        refine r_const (i := 375) (u := 2) (z := 2) rfl rfl ?_
        refine r_iadd (i := 376) rfl ?_
        refine r_scA (i := 377) hG rfl (by omega) (by omega) fun h547 => ?_
        have h547 : Rg (sc (i + 2).toNat) := h547
        refine r_i2l (i := 378) rfl ⟨by omega, by omega⟩ ?_
        refine r_const (i := 379) (u := 32) (z := 32) rfl rfl ?_
        refine r_lshl (i := 380) rfl ?_
        refine r_load (i := 381) (u := 0) (w := 2) rfl rfl rfl ?_
        refine r_load (i := 382) (u := 4) (w := 0) rfl rfl rfl ?_
        refine r_const (i := 383) (u := 3) (z := 3) rfl rfl ?_
        refine r_iadd (i := 384) rfl ?_
        refine r_scA (i := 385) hG rfl (by omega) (by omega) fun h548 => ?_
        have h548 : Rg (sc (i + 3).toNat) := h548
        refine r_i2l (i := 386) rfl ⟨by omega, by omega⟩ ?_
        refine r_lconst (i := 387) (u := 4294967295) (z := 4294967295) rfl rfl ?_
        refine r_land (i := 388) rfl ?_
        have h549 := @yland_c (sc (i + 3).toNat) 4294967295 (by decide) (by decide)
        refine r_lor (i := 389) rfl ?_
        have h550 := ylor_rl ((sc (i + 2).toNat) * 4294967296) (yland (sc (i + 3).toNat) 4294967295)
        refine r_load (i := 390) (u := 0) (w := 2) rfl rfl rfl ?_
        refine r_load (i := 391) (u := 4) (w := 0) rfl rfl rfl ?_
        refine r_const (i := 392) (u := 4) (z := 4) rfl rfl ?_
        refine r_iadd (i := 393) rfl ?_
        refine r_scA (i := 394) hG rfl (by omega) (by omega) fun h551 => ?_
        have h551 : Rg (sc (i + 4).toNat) := h551
        refine r_i2l (i := 395) rfl ⟨by omega, by omega⟩ ?_
        refine r_const (i := 396) (u := 32) (z := 32) rfl rfl ?_
        refine r_lshl (i := 397) rfl ?_
        refine r_load (i := 398) (u := 0) (w := 2) rfl rfl rfl ?_
        refine r_load (i := 399) (u := 4) (w := 0) rfl rfl rfl ?_
        refine r_const (i := 400) (u := 5) (z := 5) rfl rfl ?_
        refine r_iadd (i := 401) rfl ?_
        refine r_scA (i := 402) hG rfl (by omega) (by omega) fun h552 => ?_
        have h552 : Rg (sc (i + 5).toNat) := h552
        refine r_i2l (i := 403) rfl ⟨by omega, by omega⟩ ?_
        refine r_lconst (i := 404) (u := 4294967295) (z := 4294967295) rfl rfl ?_
        refine r_land (i := 405) rfl ?_
        have h553 := @yland_c (sc (i + 5).toNat) 4294967295 (by decide) (by decide)
        refine r_lor (i := 406) rfl ?_
        have h554 := ylor_rl ((sc (i + 4).toNat) * 4294967296) (yland (sc (i + 5).toNat) 4294967295)
        refine r_load (i := 407) (u := 0) (w := 2) rfl rfl rfl ?_
        refine r_load (i := 408) (u := 4) (w := 0) rfl rfl rfl ?_
        refine r_const (i := 409) (u := 6) (z := 6) rfl rfl ?_
        refine r_iadd (i := 410) rfl ?_
        refine r_scA (i := 411) hG rfl (by omega) (by omega) fun h555 => ?_
        have h555 : Rg (sc (i + 6).toNat) := h555
        refine r_i2l (i := 412) rfl ⟨by omega, by omega⟩ ?_
        refine r_const (i := 413) (u := 32) (z := 32) rfl rfl ?_
        refine r_lshl (i := 414) rfl ?_
        refine r_load (i := 415) (u := 0) (w := 2) rfl rfl rfl ?_
        refine r_load (i := 416) (u := 4) (w := 0) rfl rfl rfl ?_
        refine r_const (i := 417) (u := 7) (z := 7) rfl rfl ?_
        refine r_iadd (i := 418) rfl ?_
        refine r_scA (i := 419) hG rfl (by omega) (by omega) fun h556 => ?_
        have h556 : Rg (sc (i + 7).toNat) := h556
        refine r_i2l (i := 420) rfl ⟨by omega, by omega⟩ ?_
        refine r_lconst (i := 421) (u := 4294967295) (z := 4294967295) rfl rfl ?_
        refine r_land (i := 422) rfl ?_
        have h557 := @yland_c (sc (i + 7).toNat) 4294967295 (by decide) (by decide)
        refine r_lor (i := 423) rfl ?_
        have h558 := ylor_rl ((sc (i + 6).toNat) * 4294967296) (yland (sc (i + 7).toNat) 4294967295)
        refine r_load (i := 424) (u := 0) (w := 2) rfl rfl rfl ?_
        refine r_load (i := 425) (u := 4) (w := 0) rfl rfl rfl ?_
        refine r_const (i := 426) (u := 8) (z := 8) rfl rfl ?_
        refine r_iadd (i := 427) rfl ?_
        refine r_scA (i := 428) hG rfl (by omega) (by omega) fun h559 => ?_
        have h559 : Rg (sc (i + 8).toNat) := h559
        refine r_i2l (i := 429) rfl ⟨by omega, by omega⟩ ?_
        refine r_const (i := 430) (u := 32) (z := 32) rfl rfl ?_
        refine r_lshl (i := 431) rfl ?_
        refine r_load (i := 432) (u := 0) (w := 2) rfl rfl rfl ?_
        refine r_load (i := 433) (u := 4) (w := 0) rfl rfl rfl ?_
        refine r_const (i := 434) (u := 9) (z := 9) rfl rfl ?_
        refine r_iadd (i := 435) rfl ?_
        refine r_scA (i := 436) hG rfl (by omega) (by omega) fun h560 => ?_
        have h560 : Rg (sc (i + 9).toNat) := h560
        refine r_i2l (i := 437) rfl ⟨by omega, by omega⟩ ?_
        refine r_lconst (i := 438) (u := 4294967295) (z := 4294967295) rfl rfl ?_
        refine r_land (i := 439) rfl ?_
        have h561 := @yland_c (sc (i + 9).toNat) 4294967295 (by decide) (by decide)
        refine r_lor (i := 440) rfl ?_
        have h562 := ylor_rl ((sc (i + 8).toNat) * 4294967296) (yland (sc (i + 9).toNat) 4294967295)
        refine r_load (i := 441) (u := 3) (w := 2) rfl rfl rfl ?_
        refine r_call (i := 442) (u := 65535) (v := 174) (w := 0) (b := 2) (na := 3079) (C2 := xC174) (as := [(2, 0), vi (sc (i + 1).toNat), vl (ylor ((sc (i + 2).toNat) * 4294967296) (yland (sc (i + 3).toNat) 4294967295)), vl (ylor ((sc (i + 4).toNat) * 4294967296) (yland (sc (i + 5).toNat) 4294967295)), vl (ylor ((sc (i + 6).toNat) * 4294967296) (yland (sc (i + 7).toNat) 4294967295)), vl (ylor ((sc (i + 8).toNat) * 4294967296) (yland (sc (i + 9).toNat) 4294967295)), (2, 81)]) (s := []) rfl rfl rfl rfl rfl rfl rfl (sp174 (p0 := sc (i + 1).toNat) (p1 := ylor ((sc (i + 2).toNat) * 4294967296) (yland (sc (i + 3).toNat) 4294967295)) (p2 := ylor ((sc (i + 4).toNat) * 4294967296) (yland (sc (i + 5).toNat) 4294967295)) (p3 := ylor ((sc (i + 6).toNat) * 4294967296) (yland (sc (i + 7).toNat) 4294967295)) (p4 := ylor ((sc (i + 8).toNat) * 4294967296) (yland (sc (i + 9).toNat) 4294967295)) (kR := 5199 - i) hI ⟨by omega, by omega⟩ ⟨by omega, by omega⟩ ⟨by omega, by omega⟩ ⟨by omega, by omega⟩ ⟨by omega, by omega⟩ (by exact wRM_le q_0 (by omega)) (by omega) e_N23 e_CR (by omega)) (fun r563 S564 hq565 => ?_)
        obtain ⟨z566, rfl, h567, h568, rm569, e570, e571, hI572, hF573⟩ := hq565
        have e574 := RTx.fr e_RT hF573 rfl rfl
        have e575 := RMex.fr e_RMe hF573 rfl rfl
        have e576 := RSx.fr e_RS hF573 rfl rfl
        have e577 := RThx.fr e_RTh hF573 rfl rfl
        have e578 := RIx.fr e_RI hF573 rfl rfl
        have e579 := RKx.fr e_RK hF573 rfl rfl
        have e580 := RSlx.fr e_RSl hF573 rfl rfl
        have e581 := RPx.fr e_RP hF573 rfl rfl
        have e582 := RSkx.fr e_RSk hF573 rfl rfl
        have e583 := vZx.fr e_vZ hF573 rfl rfl
        have e584 := RWx.fr e_RW hF573 rfl rfl
        refine Or.inr (Or.inl ⟨rfl, ?_⟩)
        refine r_store (i := 443) (u := 5) (w := 0) (L1 := [some ((6, 0)), some ((2, 0)), some ((2, 43)), some ((2, 81)), some (vi i), some (vi z566), none]) rfl rfl rfl rfl ?_
        refine r_load (i := 444) (u := 2) (w := 2) rfl rfl rfl ?_
        refine r_load (i := 445) (u := 0) (w := 2) rfl rfl rfl ?_
        refine r_load (i := 446) (u := 4) (w := 0) rfl rfl rfl ?_
        refine r_const (i := 447) (u := 1) (z := 1) rfl rfl ?_
        refine r_iadd (i := 448) rfl ?_
        refine r_scA (i := 449) hG rfl (by omega) (by omega) fun h585 => ?_
        have h585 : Rg (sc (i + 1).toNat) := h585
        refine r_load (i := 450) (u := 0) (w := 2) rfl rfl rfl ?_
        refine r_load (i := 451) (u := 4) (w := 0) rfl rfl rfl ?_
        refine r_const (i := 452) (u := 2) (z := 2) rfl rfl ?_
        refine r_iadd (i := 453) rfl ?_
        refine r_scA (i := 454) hG rfl (by omega) (by omega) fun h586 => ?_
        have h586 : Rg (sc (i + 2).toNat) := h586
        refine r_i2l (i := 455) rfl ⟨by omega, by omega⟩ ?_
        refine r_const (i := 456) (u := 32) (z := 32) rfl rfl ?_
        refine r_lshl (i := 457) rfl ?_
        refine r_load (i := 458) (u := 0) (w := 2) rfl rfl rfl ?_
        refine r_load (i := 459) (u := 4) (w := 0) rfl rfl rfl ?_
        refine r_const (i := 460) (u := 3) (z := 3) rfl rfl ?_
        refine r_iadd (i := 461) rfl ?_
        refine r_scA (i := 462) hG rfl (by omega) (by omega) fun h587 => ?_
        have h587 : Rg (sc (i + 3).toNat) := h587
        refine r_i2l (i := 463) rfl ⟨by omega, by omega⟩ ?_
        refine r_lconst (i := 464) (u := 4294967295) (z := 4294967295) rfl rfl ?_
        refine r_land (i := 465) rfl ?_
        have h588 := @yland_c (sc (i + 3).toNat) 4294967295 (by decide) (by decide)
        refine r_lor (i := 466) rfl ?_
        have h589 := ylor_rl ((sc (i + 2).toNat) * 4294967296) (yland (sc (i + 3).toNat) 4294967295)
        refine r_load (i := 467) (u := 0) (w := 2) rfl rfl rfl ?_
        refine r_load (i := 468) (u := 4) (w := 0) rfl rfl rfl ?_
        refine r_const (i := 469) (u := 4) (z := 4) rfl rfl ?_
        refine r_iadd (i := 470) rfl ?_
        refine r_scA (i := 471) hG rfl (by omega) (by omega) fun h590 => ?_
        have h590 : Rg (sc (i + 4).toNat) := h590
        refine r_i2l (i := 472) rfl ⟨by omega, by omega⟩ ?_
        refine r_const (i := 473) (u := 32) (z := 32) rfl rfl ?_
        refine r_lshl (i := 474) rfl ?_
        refine r_load (i := 475) (u := 0) (w := 2) rfl rfl rfl ?_
        refine r_load (i := 476) (u := 4) (w := 0) rfl rfl rfl ?_
        refine r_const (i := 477) (u := 5) (z := 5) rfl rfl ?_
        refine r_iadd (i := 478) rfl ?_
        refine r_scA (i := 479) hG rfl (by omega) (by omega) fun h591 => ?_
        have h591 : Rg (sc (i + 5).toNat) := h591
        refine r_i2l (i := 480) rfl ⟨by omega, by omega⟩ ?_
        refine r_lconst (i := 481) (u := 4294967295) (z := 4294967295) rfl rfl ?_
        refine r_land (i := 482) rfl ?_
        have h592 := @yland_c (sc (i + 5).toNat) 4294967295 (by decide) (by decide)
        refine r_lor (i := 483) rfl ?_
        have h593 := ylor_rl ((sc (i + 4).toNat) * 4294967296) (yland (sc (i + 5).toNat) 4294967295)
        refine r_load (i := 484) (u := 0) (w := 2) rfl rfl rfl ?_
        refine r_load (i := 485) (u := 4) (w := 0) rfl rfl rfl ?_
        refine r_const (i := 486) (u := 6) (z := 6) rfl rfl ?_
        refine r_iadd (i := 487) rfl ?_
        refine r_scA (i := 488) hG rfl (by omega) (by omega) fun h594 => ?_
        have h594 : Rg (sc (i + 6).toNat) := h594
        refine r_i2l (i := 489) rfl ⟨by omega, by omega⟩ ?_
        refine r_const (i := 490) (u := 32) (z := 32) rfl rfl ?_
        refine r_lshl (i := 491) rfl ?_
        refine r_load (i := 492) (u := 0) (w := 2) rfl rfl rfl ?_
        refine r_load (i := 493) (u := 4) (w := 0) rfl rfl rfl ?_
        refine r_const (i := 494) (u := 7) (z := 7) rfl rfl ?_
        refine r_iadd (i := 495) rfl ?_
        refine r_scA (i := 496) hG rfl (by omega) (by omega) fun h595 => ?_
        have h595 : Rg (sc (i + 7).toNat) := h595
        refine r_i2l (i := 497) rfl ⟨by omega, by omega⟩ ?_
        refine r_lconst (i := 498) (u := 4294967295) (z := 4294967295) rfl rfl ?_
        refine r_land (i := 499) rfl ?_
        have h596 := @yland_c (sc (i + 7).toNat) 4294967295 (by decide) (by decide)
        refine r_lor (i := 500) rfl ?_
        have h597 := ylor_rl ((sc (i + 6).toNat) * 4294967296) (yland (sc (i + 7).toNat) 4294967295)
        refine r_load (i := 501) (u := 0) (w := 2) rfl rfl rfl ?_
        refine r_load (i := 502) (u := 4) (w := 0) rfl rfl rfl ?_
        refine r_const (i := 503) (u := 8) (z := 8) rfl rfl ?_
        refine r_iadd (i := 504) rfl ?_
        refine r_scA (i := 505) hG rfl (by omega) (by omega) fun h598 => ?_
        have h598 : Rg (sc (i + 8).toNat) := h598
        refine r_i2l (i := 506) rfl ⟨by omega, by omega⟩ ?_
        refine r_const (i := 507) (u := 32) (z := 32) rfl rfl ?_
        refine r_lshl (i := 508) rfl ?_
        refine r_load (i := 509) (u := 0) (w := 2) rfl rfl rfl ?_
        refine r_load (i := 510) (u := 4) (w := 0) rfl rfl rfl ?_
        refine r_const (i := 511) (u := 9) (z := 9) rfl rfl ?_
        refine r_iadd (i := 512) rfl ?_
        refine r_scA (i := 513) hG rfl (by omega) (by omega) fun h599 => ?_
        have h599 : Rg (sc (i + 9).toNat) := h599
        refine r_i2l (i := 514) rfl ⟨by omega, by omega⟩ ?_
        refine r_lconst (i := 515) (u := 4294967295) (z := 4294967295) rfl rfl ?_
        refine r_land (i := 516) rfl ?_
        have h600 := @yland_c (sc (i + 9).toNat) 4294967295 (by decide) (by decide)
        refine r_lor (i := 517) rfl ?_
        have h601 := ylor_rl ((sc (i + 8).toNat) * 4294967296) (yland (sc (i + 9).toNat) 4294967295)
        refine r_call (i := 518) (u := 11) (v := 188) (w := 0) (b := 0) (na := 4102) (C2 := xC188) (as := [(2, 43), vi (sc (i + 1).toNat), vl (ylor ((sc (i + 2).toNat) * 4294967296) (yland (sc (i + 3).toNat) 4294967295)), vl (ylor ((sc (i + 4).toNat) * 4294967296) (yland (sc (i + 5).toNat) 4294967295)), vl (ylor ((sc (i + 6).toNat) * 4294967296) (yland (sc (i + 7).toNat) 4294967295)), vl (ylor ((sc (i + 8).toNat) * 4294967296) (yland (sc (i + 9).toNat) 4294967295))]) (s := []) rfl rfl rfl rfl rfl rfl rfl (sp188 (k := sc (i + 1).toNat) (a := ylor ((sc (i + 2).toNat) * 4294967296) (yland (sc (i + 3).toNat) 4294967295)) (b := ylor ((sc (i + 4).toNat) * 4294967296) (yland (sc (i + 5).toNat) 4294967295)) (c := ylor ((sc (i + 6).toNat) * 4294967296) (yland (sc (i + 7).toNat) 4294967295)) (e := ylor ((sc (i + 8).toNat) * 4294967296) (yland (sc (i + 9).toNat) 4294967295)) hI572 ⟨by omega, by omega⟩ ⟨by omega, by omega⟩ ⟨by omega, by omega⟩ ⟨by omega, by omega⟩ ⟨by omega, by omega⟩   (by omega)) (fun r602 S603 hq604 => ?_)
        obtain ⟨z605, rfl, h606, h607, hI608, hF609, hR610⟩ := hq604
        have e611 := RTx.fr e574 hF609 rfl rfl
        have e612 := RMex.fr e575 hF609 rfl rfl
        have e613 := RSx.fr e576 hF609 rfl rfl
        have e614 := RThx.fr e577 hF609 rfl rfl
        have e615 := RIx.fr e578 hF609 rfl rfl
        have e616 := RKx.fr e579 hF609 rfl rfl
        have e617 := RSlx.fr e580 hF609 rfl rfl
        have e618 := RPx.fr e581 hF609 rfl rfl
        have e619 := RSkx.fr e582 hF609 rfl rfl
        have e620 := vZx.fr e583 hF609 rfl rfl
        have e621 := RWx.fr e584 hF609 rfl rfl
        have e622 := N23x.fr e570 hF609 hR610 rfl rfl rfl
        have e623 := CRx.fr e571 hF609 rfl rfl
        have e624 := wRM_rm rm569 hR610
        refine Or.inr (Or.inl ⟨rfl, ?_⟩)
        refine r_store (i := 519) (u := 6) (w := 0) (L1 := [some ((6, 0)), some ((2, 0)), some ((2, 43)), some ((2, 81)), some (vi i), some (vi z566), some (vi z605)]) rfl rfl rfl rfl ?_
        refine r_goto (i := 520) (v := 637) rfl ?_
        refine r_iinc (i := 637) (u := 10) (v := 4) (s := 10) (L1 := [some ((6, 0)), some ((2, 0)), some ((2, 43)), some ((2, 81)), some (vi (i + 10)), some (vi z566), some (vi z605)]) rfl rfl rfl rfl rfl ?_
        refine r_goto (i := 638) (v := 13) rfl ?_
        refine yT_drop (L1 := [some ((6, 0)), some ((2, 0)), some ((2, 43)), some ((2, 81)), some (vi (i + 10)), none, none]) rfl ?_
        exact ih S603 hI608 e622 e623 e611 e612 e613 e614 e615 e616 e617 e618 e619 e620 e621 (i + 10) ⟨by omega, by omega⟩ (by exact wRM_le e624 (by omega)) (by omega)
      · refine r_swK (i := 24) (u := 1) (v := 637) (k := 11) (t := 521) rfl rfl h16 (by decide) (by decide) rfl ?_
        refine r_load (i := 521) (u := 1) (w := 2) rfl rfl rfl ?_
        refine r_call (i := 522) (u := 0) (v := 16) (w := 0) (b := 0) (na := 257) (C2 := xC16) (as := [(2, 0)]) (s := []) rfl rfl rfl rfl rfl rfl rfl (sp16  hI    (by omega)) (fun r625 S626 hq627 => ?_)
        obtain ⟨z628, rfl, h629, rfl⟩ := hq627
        refine Or.inr (Or.inl ⟨rfl, ?_⟩)
        refine r_pop2 (i := 523) rfl rfl ?_
        refine r_load (i := 524) (u := 2) (w := 2) rfl rfl rfl ?_
        refine r_call (i := 525) (u := 11) (v := 239) (w := 0) (b := 0) (na := 257) (C2 := xC239) (as := [(2, 43)]) (s := []) rfl rfl rfl rfl rfl rfl rfl (sp239  hI    (by omega)) (fun r630 S631 hq632 => ?_)
        obtain ⟨z633, rfl, h634, hI635, hF636, hR637⟩ := hq632
        have e638 := N23x.fr e_N23 hF636 hR637 rfl rfl rfl
        have e639 := CRx.fr e_CR hF636 rfl rfl
        have e640 := RTx.fr e_RT hF636 rfl rfl
        have e641 := RMex.fr e_RMe hF636 rfl rfl
        have e642 := RSx.fr e_RS hF636 rfl rfl
        have e643 := RThx.fr e_RTh hF636 rfl rfl
        have e644 := RIx.fr e_RI hF636 rfl rfl
        have e645 := RKx.fr e_RK hF636 rfl rfl
        have e646 := RSlx.fr e_RSl hF636 rfl rfl
        have e647 := RPx.fr e_RP hF636 rfl rfl
        have e648 := RSkx.fr e_RSk hF636 rfl rfl
        have e649 := vZx.fr e_vZ hF636 rfl rfl
        have e650 := RWx.fr e_RW hF636 rfl rfl
        have e651 := wRM_rm q_0 hR637
        refine Or.inr (Or.inl ⟨rfl, ?_⟩)
        refine r_pop2 (i := 526) rfl rfl ?_
        refine r_goto (i := 527) (v := 637) rfl ?_
        refine r_iinc (i := 637) (u := 10) (v := 4) (s := 10) (L1 := [some ((6, 0)), some ((2, 0)), some ((2, 43)), some ((2, 81)), some (vi (i + 10)), none, none]) rfl rfl rfl rfl rfl ?_
        refine r_goto (i := 638) (v := 13) rfl ?_
        exact ih S631 hI635 e638 e639 e640 e641 e642 e643 e644 e645 e646 e647 e648 e649 e650 (i + 10) ⟨by omega, by omega⟩ (by exact wRM_le e651 (by omega)) (by omega)
      · refine r_swK (i := 24) (u := 1) (v := 637) (k := 12) (t := 528) rfl rfl h17 (by decide) (by decide) rfl ?_
        refine r_load (i := 528) (u := 1) (w := 2) rfl rfl rfl ?_
        refine r_call (i := 529) (u := 0) (v := 3) (w := 0) (b := 0) (na := 257) (C2 := xC3) (as := [(2, 0)]) (s := []) rfl rfl rfl rfl rfl rfl rfl (sp3  hI    (by omega)) (fun r652 S653 hq654 => ?_)
        obtain ⟨z655, rfl, h656, h657, rfl⟩ := hq654
        refine Or.inr (Or.inl ⟨rfl, ?_⟩)
        refine r_pop (i := 530) rfl rfl ?_
        refine r_load (i := 531) (u := 2) (w := 2) rfl rfl rfl ?_
        refine r_call (i := 532) (u := 11) (v := 184) (w := 0) (b := 0) (na := 257) (C2 := xC184) (as := [(2, 43)]) (s := []) rfl rfl rfl rfl rfl rfl rfl (sp184  hI    (by omega)) (fun r658 S659 hq660 => ?_)
        obtain ⟨z661, rfl, h662, h663, hI664, hF665, hR666⟩ := hq660
        have e667 := N23x.fr e_N23 hF665 hR666 rfl rfl rfl
        have e668 := CRx.fr e_CR hF665 rfl rfl
        have e669 := RTx.fr e_RT hF665 rfl rfl
        have e670 := RMex.fr e_RMe hF665 rfl rfl
        have e671 := RSx.fr e_RS hF665 rfl rfl
        have e672 := RThx.fr e_RTh hF665 rfl rfl
        have e673 := RIx.fr e_RI hF665 rfl rfl
        have e674 := RKx.fr e_RK hF665 rfl rfl
        have e675 := RSlx.fr e_RSl hF665 rfl rfl
        have e676 := RPx.fr e_RP hF665 rfl rfl
        have e677 := RSkx.fr e_RSk hF665 rfl rfl
        have e678 := vZx.fr e_vZ hF665 rfl rfl
        have e679 := RWx.fr e_RW hF665 rfl rfl
        have e680 := wRM_rm q_0 hR666
        refine Or.inr (Or.inl ⟨rfl, ?_⟩)
        refine r_pop (i := 533) rfl rfl ?_
        refine r_goto (i := 534) (v := 637) rfl ?_
        refine r_iinc (i := 637) (u := 10) (v := 4) (s := 10) (L1 := [some ((6, 0)), some ((2, 0)), some ((2, 43)), some ((2, 81)), some (vi (i + 10)), none, none]) rfl rfl rfl rfl rfl ?_
        refine r_goto (i := 638) (v := 13) rfl ?_
        exact ih S659 hI664 e667 e668 e669 e670 e671 e672 e673 e674 e675 e676 e677 e678 e679 (i + 10) ⟨by omega, by omega⟩ (by exact wRM_le e680 (by omega)) (by omega)
      · refine r_swK (i := 24) (u := 1) (v := 637) (k := 13) (t := 535) rfl rfl h18 (by decide) (by decide) rfl ?_
        refine r_load (i := 535) (u := 1) (w := 2) rfl rfl rfl ?_
        refine r_load (i := 536) (u := 0) (w := 2) rfl rfl rfl ?_
        refine r_load (i := 537) (u := 4) (w := 0) rfl rfl rfl ?_
        refine r_const (i := 538) (u := 1) (z := 1) rfl rfl ?_
        refine r_iadd (i := 539) rfl ?_
        refine r_scA (i := 540) hG rfl (by omega) (by omega) fun h681 => ?_
        have h681 : Rg (sc (i + 1).toNat) := h681
        refine r_load (i := 541) (u := 0) (w := 2) rfl rfl rfl ?_
        refine r_load (i := 542) (u := 4) (w := 0) rfl rfl rfl ?_
        refine r_const (i := 543) (u := 2) (z := 2) rfl rfl ?_
        refine r_iadd (i := 544) rfl ?_
        refine r_scA (i := 545) hG rfl (by omega) (by omega) fun h682 => ?_
        have h682 : Rg (sc (i + 2).toNat) := h682
        refine r_call (i := 546) (u := 0) (v := 9) (w := 0) (b := 0) (na := 771) (C2 := xC9) (as := [(2, 0), vi (sc (i + 1).toNat), vi (sc (i + 2).toNat)]) (s := []) rfl rfl rfl rfl rfl rfl rfl (sp9 (i0 := sc (i + 1).toNat) (w0 := sc (i + 2).toNat) hI ⟨by omega, by omega⟩ ⟨by omega, by omega⟩   (by omega)) (fun r683 S684 hq685 => ?_)
        obtain ⟨z686, rfl, h687, rfl⟩ := hq685
        refine Or.inr (Or.inl ⟨rfl, ?_⟩)
        refine r_pop2 (i := 547) rfl rfl ?_
        refine r_load (i := 548) (u := 2) (w := 2) rfl rfl rfl ?_
        refine r_load (i := 549) (u := 0) (w := 2) rfl rfl rfl ?_
        refine r_load (i := 550) (u := 4) (w := 0) rfl rfl rfl ?_
        refine r_const (i := 551) (u := 1) (z := 1) rfl rfl ?_
        refine r_iadd (i := 552) rfl ?_
        refine r_scA (i := 553) hG rfl (by omega) (by omega) fun h688 => ?_
        have h688 : Rg (sc (i + 1).toNat) := h688
        refine r_load (i := 554) (u := 0) (w := 2) rfl rfl rfl ?_
        refine r_load (i := 555) (u := 4) (w := 0) rfl rfl rfl ?_
        refine r_const (i := 556) (u := 2) (z := 2) rfl rfl ?_
        refine r_iadd (i := 557) rfl ?_
        refine r_scA (i := 558) hG rfl (by omega) (by omega) fun h689 => ?_
        have h689 : Rg (sc (i + 2).toNat) := h689
        refine r_call (i := 559) (u := 11) (v := 205) (w := 0) (b := 0) (na := 771) (C2 := xC205) (as := [(2, 43), vi (sc (i + 1).toNat), vi (sc (i + 2).toNat)]) (s := []) rfl rfl rfl rfl rfl rfl rfl (sp205 (i0 := sc (i + 1).toNat) (w0 := sc (i + 2).toNat) hI ⟨by omega, by omega⟩ ⟨by omega, by omega⟩   (by omega)) (fun r690 S691 hq692 => ?_)
        obtain ⟨z693, rfl, h694, hI695, hF696, hR697⟩ := hq692
        have e698 := N23x.fr e_N23 hF696 hR697 rfl rfl rfl
        have e699 := CRx.fr e_CR hF696 rfl rfl
        have e700 := RTx.fr e_RT hF696 rfl rfl
        have e701 := RMex.fr e_RMe hF696 rfl rfl
        have e702 := RSx.fr e_RS hF696 rfl rfl
        have e703 := RThx.fr e_RTh hF696 rfl rfl
        have e704 := RIx.fr e_RI hF696 rfl rfl
        have e705 := RKx.fr e_RK hF696 rfl rfl
        have e706 := RSlx.fr e_RSl hF696 rfl rfl
        have e707 := RPx.fr e_RP hF696 rfl rfl
        have e708 := RSkx.fr e_RSk hF696 rfl rfl
        have e709 := vZx.fr e_vZ hF696 rfl rfl
        have e710 := RWx.fr e_RW hF696 rfl rfl
        have e711 := wRM_rm q_0 hR697
        refine Or.inr (Or.inl ⟨rfl, ?_⟩)
        refine r_pop2 (i := 560) rfl rfl ?_
        refine r_goto (i := 561) (v := 637) rfl ?_
        refine r_iinc (i := 637) (u := 10) (v := 4) (s := 10) (L1 := [some ((6, 0)), some ((2, 0)), some ((2, 43)), some ((2, 81)), some (vi (i + 10)), none, none]) rfl rfl rfl rfl rfl ?_
        refine r_goto (i := 638) (v := 13) rfl ?_
        exact ih S691 hI695 e698 e699 e700 e701 e702 e703 e704 e705 e706 e707 e708 e709 e710 (i + 10) ⟨by omega, by omega⟩ (by exact wRM_le e711 (by omega)) (by omega)
      · refine r_swK (i := 24) (u := 1) (v := 637) (k := 14) (t := 562) rfl rfl h19 (by decide) (by decide) rfl ?_
        refine r_load (i := 562) (u := 1) (w := 2) rfl rfl rfl ?_
        have h712 := hI.b0
        refine r_call (i := 563) (u := 0) (v := 17) (w := 0) (b := 0) (na := 257) (C2 := xC17) (as := [(2, 0)]) (s := []) rfl rfl rfl rfl rfl rfl rfl (sp17  hI    (by omega)) (fun r713 S714 hq715 => ?_)
        obtain ⟨z716, rfl, h717, h718, szc719, rfl⟩ := hq715
        refine Or.inr (Or.inl ⟨rfl, ?_⟩)
        refine r_pop (i := 564) rfl rfl ?_
        refine r_load (i := 565) (u := 2) (w := 2) rfl rfl rfl ?_
        have h720 := hI.f tf43_42
        refine r_call (i := 566) (u := 11) (v := 242) (w := 0) (b := 0) (na := 257) (C2 := xC242) (as := [(2, 43)]) (s := []) rfl rfl rfl rfl rfl rfl rfl (sp242  hI    (by omega)) (fun r721 S722 hq723 => ?_)
        obtain ⟨z724, rfl, h725, h726, szm727, hI728, hF729, hR730⟩ := hq723
        have e731 := N23x.fr e_N23 hF729 hR730 rfl rfl rfl
        have e732 := CRx.fr e_CR hF729 rfl rfl
        have e733 := RTx.fr e_RT hF729 rfl rfl
        have e734 := RMex.fr e_RMe hF729 rfl rfl
        have e735 := RSx.fr e_RS hF729 rfl rfl
        have e736 := RThx.fr e_RTh hF729 rfl rfl
        have e737 := RIx.fr e_RI hF729 rfl rfl
        have e738 := RKx.fr e_RK hF729 rfl rfl
        have e739 := RSlx.fr e_RSl hF729 rfl rfl
        have e740 := RPx.fr e_RP hF729 rfl rfl
        have e741 := RSkx.fr e_RSk hF729 rfl rfl
        have e742 := vZx.fr e_vZ hF729 rfl rfl
        have e743 := RWx.fr e_RW hF729 rfl rfl
        have e744 := wRM_rm q_0 hR730
        refine Or.inr (Or.inl ⟨rfl, ?_⟩)
        have eq9 := e_RW.1
        refine r_pop (i := 567) rfl rfl ?_
        refine r_goto (i := 568) (v := 637) rfl ?_
        refine r_iinc (i := 637) (u := 10) (v := 4) (s := 10) (L1 := [some ((6, 0)), some ((2, 0)), some ((2, 43)), some ((2, 81)), some (vi (i + 10)), none, none]) rfl rfl rfl rfl rfl ?_
        refine r_goto (i := 638) (v := 13) rfl ?_
        exact ih S722 hI728 e731 e732 e733 e734 e735 e736 e737 e738 e739 e740 e741 e742 e743 (i + 10) ⟨by omega, by omega⟩ (by exact wRM_le e744 (by omega)) (by omega)
      · refine r_swK (i := 24) (u := 1) (v := 637) (k := 15) (t := 569) rfl rfl h20 (by decide) (by decide) rfl ?_
        refine r_load (i := 569) (u := 1) (w := 2) rfl rfl rfl ?_
        refine r_load (i := 570) (u := 0) (w := 2) rfl rfl rfl ?_
        refine r_load (i := 571) (u := 4) (w := 0) rfl rfl rfl ?_
        refine r_const (i := 572) (u := 1) (z := 1) rfl rfl ?_
        refine r_iadd (i := 573) rfl ?_
        refine r_scA (i := 574) hG rfl (by omega) (by omega) fun h745 => ?_
        have h745 : Rg (sc (i + 1).toNat) := h745
        refine r_call (i := 575) (u := 0) (v := 4) (w := 0) (b := 0) (na := 514) (C2 := xC4) (as := [(2, 0), vi (sc (i + 1).toNat)]) (s := []) rfl rfl rfl rfl rfl rfl rfl (sp4 (k := sc (i + 1).toNat) hI ⟨by omega, by omega⟩   (by omega)) (fun r746 S747 hq748 => ?_)
        obtain ⟨z749, rfl, h750, h751, byc752, rfl⟩ := hq748
        refine Or.inr (Or.inl ⟨rfl, ?_⟩)
        refine r_pop (i := 576) rfl rfl ?_
        refine r_load (i := 577) (u := 2) (w := 2) rfl rfl rfl ?_
        refine r_load (i := 578) (u := 0) (w := 2) rfl rfl rfl ?_
        refine r_load (i := 579) (u := 4) (w := 0) rfl rfl rfl ?_
        refine r_const (i := 580) (u := 1) (z := 1) rfl rfl ?_
        refine r_iadd (i := 581) rfl ?_
        refine r_scA (i := 582) hG rfl (by omega) (by omega) fun h753 => ?_
        have h753 : Rg (sc (i + 1).toNat) := h753
        refine r_call (i := 583) (u := 11) (v := 187) (w := 0) (b := 0) (na := 514) (C2 := xC187) (as := [(2, 43), vi (sc (i + 1).toNat)]) (s := []) rfl rfl rfl rfl rfl rfl rfl (sp187 (k := sc (i + 1).toNat) hI ⟨by omega, by omega⟩   (by omega)) (fun r754 S755 hq756 => ?_)
        obtain ⟨z757, rfl, h758, h759, bym760, hI761, hF762, hR763⟩ := hq756
        have e764 := N23x.fr e_N23 hF762 hR763 rfl rfl rfl
        have e765 := CRx.fr e_CR hF762 rfl rfl
        have e766 := RTx.fr e_RT hF762 rfl rfl
        have e767 := RMex.fr e_RMe hF762 rfl rfl
        have e768 := RSx.fr e_RS hF762 rfl rfl
        have e769 := RThx.fr e_RTh hF762 rfl rfl
        have e770 := RIx.fr e_RI hF762 rfl rfl
        have e771 := RKx.fr e_RK hF762 rfl rfl
        have e772 := RSlx.fr e_RSl hF762 rfl rfl
        have e773 := RPx.fr e_RP hF762 rfl rfl
        have e774 := RSkx.fr e_RSk hF762 rfl rfl
        have e775 := vZx.fr e_vZ hF762 rfl rfl
        have e776 := RWx.fr e_RW hF762 rfl rfl
        have e777 := wRM_rm q_0 hR763
        refine Or.inr (Or.inl ⟨rfl, ?_⟩)
        have eq9 := RW_byte e_RW (fun j => hI.a ta71 j) byc752 bym760
        refine r_pop (i := 584) rfl rfl ?_
        refine r_goto (i := 585) (v := 637) rfl ?_
        refine r_iinc (i := 637) (u := 10) (v := 4) (s := 10) (L1 := [some ((6, 0)), some ((2, 0)), some ((2, 43)), some ((2, 81)), some (vi (i + 10)), none, none]) rfl rfl rfl rfl rfl ?_
        refine r_goto (i := 638) (v := 13) rfl ?_
        exact ih S755 hI761 e764 e765 e766 e767 e768 e769 e770 e771 e772 e773 e774 e775 e776 (i + 10) ⟨by omega, by omega⟩ (by exact wRM_le e777 (by omega)) (by omega)
      · refine r_swK (i := 24) (u := 1) (v := 637) (k := 16) (t := 586) rfl rfl h21 (by decide) (by decide) rfl ?_
        refine r_load (i := 586) (u := 1) (w := 2) rfl rfl rfl ?_
        refine r_load (i := 587) (u := 0) (w := 2) rfl rfl rfl ?_
        refine r_load (i := 588) (u := 4) (w := 0) rfl rfl rfl ?_
        refine r_const (i := 589) (u := 1) (z := 1) rfl rfl ?_
        refine r_iadd (i := 590) rfl ?_
        refine r_scA (i := 591) hG rfl (by omega) (by omega) fun h778 => ?_
        have h778 : Rg (sc (i + 1).toNat) := h778
        refine r_load (i := 592) (u := 0) (w := 2) rfl rfl rfl ?_
        refine r_load (i := 593) (u := 4) (w := 0) rfl rfl rfl ?_
        refine r_const (i := 594) (u := 2) (z := 2) rfl rfl ?_
        refine r_iadd (i := 595) rfl ?_
        refine r_scA (i := 596) hG rfl (by omega) (by omega) fun h779 => ?_
        have h779 : Rg (sc (i + 2).toNat) := h779
        refine r_call (i := 597) (u := 0) (v := 6) (w := 0) (b := 0) (na := 771) (C2 := xC6) (as := [(2, 0), vi (sc (i + 1).toNat), vi (sc (i + 2).toNat)]) (s := []) rfl rfl rfl rfl rfl rfl rfl (sp6 (k := sc (i + 1).toNat) (b := sc (i + 2).toNat) hI ⟨by omega, by omega⟩ ⟨by omega, by omega⟩   (by omega)) (fun r780 S781 hq782 => ?_)
        obtain ⟨z783, rfl, h784, h785, chc786, hI787, hF788, hR789⟩ := hq782
        have e790 := N23x.fr e_N23 hF788 hR789 rfl rfl rfl
        have e791 := CRx.fr e_CR hF788 rfl rfl
        have e792 := RTx.fr e_RT hF788 rfl rfl
        have e793 := RMex.fr e_RMe hF788 rfl rfl
        have e794 := RSx.fr e_RS hF788 rfl rfl
        have e795 := RThx.fr e_RTh hF788 rfl rfl
        have e796 := RIx.fr e_RI hF788 rfl rfl
        have e797 := RKx.fr e_RK hF788 rfl rfl
        have e798 := RSlx.fr e_RSl hF788 rfl rfl
        have e799 := RPx.fr e_RP hF788 rfl rfl
        have e800 := RSkx.fr e_RSk hF788 rfl rfl
        have e801 := vZx.fr e_vZ hF788 rfl rfl
        have e802 := wRM_rm q_0 hR789
        refine Or.inr (Or.inl ⟨rfl, ?_⟩)
        refine r_pop (i := 598) rfl rfl ?_
        refine r_load (i := 599) (u := 2) (w := 2) rfl rfl rfl ?_
        refine r_load (i := 600) (u := 0) (w := 2) rfl rfl rfl ?_
        refine r_load (i := 601) (u := 4) (w := 0) rfl rfl rfl ?_
        refine r_const (i := 602) (u := 1) (z := 1) rfl rfl ?_
        refine r_iadd (i := 603) rfl ?_
        refine r_scA (i := 604) hG rfl (by omega) (by omega) fun h803 => ?_
        have h803 : Rg (sc (i + 1).toNat) := h803
        refine r_load (i := 605) (u := 0) (w := 2) rfl rfl rfl ?_
        refine r_load (i := 606) (u := 4) (w := 0) rfl rfl rfl ?_
        refine r_const (i := 607) (u := 2) (z := 2) rfl rfl ?_
        refine r_iadd (i := 608) rfl ?_
        refine r_scA (i := 609) hG rfl (by omega) (by omega) fun h804 => ?_
        have h804 : Rg (sc (i + 2).toNat) := h804
        refine r_call (i := 610) (u := 11) (v := 191) (w := 0) (b := 0) (na := 771) (C2 := xC191) (as := [(2, 43), vi (sc (i + 1).toNat), vi (sc (i + 2).toNat)]) (s := []) rfl rfl rfl rfl rfl rfl rfl (sp191 (k := sc (i + 1).toNat) (b := sc (i + 2).toNat) hI787 ⟨by omega, by omega⟩ ⟨by omega, by omega⟩   (by omega)) (fun r805 S806 hq807 => ?_)
        obtain ⟨z808, rfl, h809, h810, chm811, hI812, hF813, hR814⟩ := hq807
        have e815 := N23x.fr e790 hF813 hR814 rfl rfl rfl
        have e816 := CRx.fr e791 hF813 rfl rfl
        have e817 := RTx.fr e792 hF813 rfl rfl
        have e818 := RMex.fr e793 hF813 rfl rfl
        have e819 := RSx.fr e794 hF813 rfl rfl
        have e820 := RThx.fr e795 hF813 rfl rfl
        have e821 := RIx.fr e796 hF813 rfl rfl
        have e822 := RKx.fr e797 hF813 rfl rfl
        have e823 := RSlx.fr e798 hF813 rfl rfl
        have e824 := RPx.fr e799 hF813 rfl rfl
        have e825 := RSkx.fr e800 hF813 rfl rfl
        have e826 := vZx.fr e801 hF813 rfl rfl
        have e827 := wRM_rm e802 hR814
        refine Or.inr (Or.inl ⟨rfl, ?_⟩)
        have eq9 := RW_chz e_RW chc786 hF788 rfl rfl chm811
        have rw8 := RW_ch e_RW chc786 hF788 rfl rfl chm811 hF813 rfl rfl
        refine r_pop (i := 611) rfl rfl ?_
        refine r_goto (i := 612) (v := 637) rfl ?_
        refine r_iinc (i := 637) (u := 10) (v := 4) (s := 10) (L1 := [some ((6, 0)), some ((2, 0)), some ((2, 43)), some ((2, 81)), some (vi (i + 10)), none, none]) rfl rfl rfl rfl rfl ?_
        refine r_goto (i := 638) (v := 13) rfl ?_
        exact ih S806 hI812 e815 e816 e817 e818 e819 e820 e821 e822 e823 e824 e825 e826 rw8 (i + 10) ⟨by omega, by omega⟩ (by exact wRM_le e827 (by omega)) (by omega)
      · refine r_swK (i := 24) (u := 1) (v := 637) (k := 17) (t := 613) rfl rfl h22 (by decide) (by decide) rfl ?_
        refine r_load (i := 613) (u := 1) (w := 2) rfl rfl rfl ?_
        refine r_load (i := 614) (u := 0) (w := 2) rfl rfl rfl ?_
        refine r_load (i := 615) (u := 4) (w := 0) rfl rfl rfl ?_
        refine r_const (i := 616) (u := 1) (z := 1) rfl rfl ?_
        refine r_iadd (i := 617) rfl ?_
        refine r_scA (i := 618) hG rfl (by omega) (by omega) fun h828 => ?_
        have h828 : Rg (sc (i + 1).toNat) := h828
        refine r_call (i := 619) (u := 0) (v := 7) (w := 0) (b := 0) (na := 514) (C2 := xC7) (as := [(2, 0), vi (sc (i + 1).toNat)]) (s := []) rfl rfl rfl rfl rfl rfl rfl (sp7 (k := sc (i + 1).toNat) hI ⟨by omega, by omega⟩   (by omega)) (fun r829 S830 hq831 => ?_)
        obtain ⟨z832, rfl, h833, h834, cuc835, hI836, hF837, hR838⟩ := hq831
        have e839 := N23x.fr e_N23 hF837 hR838 rfl rfl rfl
        have e840 := CRx.fr e_CR hF837 rfl rfl
        have e841 := RTx.fr e_RT hF837 rfl rfl
        have e842 := RMex.fr e_RMe hF837 rfl rfl
        have e843 := RSx.fr e_RS hF837 rfl rfl
        have e844 := RThx.fr e_RTh hF837 rfl rfl
        have e845 := RIx.fr e_RI hF837 rfl rfl
        have e846 := RKx.fr e_RK hF837 rfl rfl
        have e847 := RSlx.fr e_RSl hF837 rfl rfl
        have e848 := RPx.fr e_RP hF837 rfl rfl
        have e849 := RSkx.fr e_RSk hF837 rfl rfl
        have e850 := vZx.fr e_vZ hF837 rfl rfl
        have e851 := wRM_rm q_0 hR838
        refine Or.inr (Or.inl ⟨rfl, ?_⟩)
        refine r_load (i := 620) (u := 2) (w := 2) rfl rfl rfl ?_
        refine r_load (i := 621) (u := 0) (w := 2) rfl rfl rfl ?_
        refine r_load (i := 622) (u := 4) (w := 0) rfl rfl rfl ?_
        refine r_const (i := 623) (u := 1) (z := 1) rfl rfl ?_
        refine r_iadd (i := 624) rfl ?_
        refine r_scA (i := 625) hG rfl (by omega) (by omega) fun h852 => ?_
        have h852 : Rg (sc (i + 1).toNat) := h852
        refine r_call (i := 626) (u := 11) (v := 197) (w := 0) (b := 0) (na := 514) (C2 := xC197) (as := [(2, 43), vi (sc (i + 1).toNat)]) (s := [vi z832]) rfl rfl rfl rfl rfl rfl rfl (sp197 (k := sc (i + 1).toNat) hI836 ⟨by omega, by omega⟩   (by omega)) (fun r853 S854 hq855 => ?_)
        obtain ⟨z856, rfl, h857, h858, cum859, hI860, hF861, hR862⟩ := hq855
        have e863 := N23x.fr e839 hF861 hR862 rfl rfl rfl
        have e864 := CRx.fr e840 hF861 rfl rfl
        have e865 := RTx.fr e841 hF861 rfl rfl
        have e866 := RMex.fr e842 hF861 rfl rfl
        have e867 := RSx.fr e843 hF861 rfl rfl
        have e868 := RThx.fr e844 hF861 rfl rfl
        have e869 := RIx.fr e845 hF861 rfl rfl
        have e870 := RKx.fr e846 hF861 rfl rfl
        have e871 := RSlx.fr e847 hF861 rfl rfl
        have e872 := RPx.fr e848 hF861 rfl rfl
        have e873 := RSkx.fr e849 hF861 rfl rfl
        have e874 := vZx.fr e850 hF861 rfl rfl
        have e875 := wRM_rm e851 hR862
        refine Or.inr (Or.inl ⟨rfl, ?_⟩)
        have eq9 := RW_cuz e_RW cuc835 hF837 rfl rfl cum859
        have rw8 := RW_cu e_RW cuc835 hF837 rfl rfl cum859 hF861 rfl rfl
        refine c_eq (i := 627) (v := 637) rfl ⟨by omega, by omega⟩ ⟨by omega, by omega⟩ (fun h876 => ?_) (fun h877 => ?_)
        · refine r_iinc (i := 637) (u := 10) (v := 4) (s := 10) (L1 := [some ((6, 0)), some ((2, 0)), some ((2, 43)), some ((2, 81)), some (vi (i + 10)), none, none]) rfl rfl rfl rfl rfl ?_
          refine r_goto (i := 638) (v := 13) rfl ?_
          exact ih S854 hI860 e863 e864 e865 e866 e867 e868 e869 e870 e871 e872 e873 e874 rw8 (i + 10) ⟨by omega, by omega⟩ (by exact wRM_le e875 (by omega)) (by omega)
        · refine r_const (i := 628) (u := 0) (z := 0) rfl rfl ?_
          exact r_retZ (i := 629) rfl (by omega) (by omega) ⟨0, rfl, by omega, by omega⟩
      · refine r_swK (i := 24) (u := 1) (v := 637) (k := 18) (t := 630) rfl rfl h23 (by decide) (by decide) rfl ?_
        refine r_load (i := 630) (u := 1) (w := 2) rfl rfl rfl ?_
        refine r_call (i := 631) (u := 0) (v := 15) (w := 0) (b := 0) (na := 257) (C2 := xC15) (as := [(2, 0)]) (s := []) rfl rfl rfl rfl rfl rfl rfl (sp15  hI    (by omega)) (fun r878 S879 hq880 => ?_)
        obtain ⟨z881, rfl, h882, h883, hI884, hF885, hR886⟩ := hq880
        have e887 := N23x.fr e_N23 hF885 hR886 rfl rfl rfl
        have e888 := CRx.fr e_CR hF885 rfl rfl
        have e889 := RTx.fr e_RT hF885 rfl rfl
        have e890 := RMex.fr e_RMe hF885 rfl rfl
        have e891 := RSx.fr e_RS hF885 rfl rfl
        have e892 := RThx.fr e_RTh hF885 rfl rfl
        have e893 := RIx.fr e_RI hF885 rfl rfl
        have e894 := RKx.fr e_RK hF885 rfl rfl
        have e895 := RSlx.fr e_RSl hF885 rfl rfl
        have e896 := RPx.fr e_RP hF885 rfl rfl
        have e897 := RSkx.fr e_RSk hF885 rfl rfl
        have e898 := vZx.fr e_vZ hF885 rfl rfl
        have e899 := RWx.fr e_RW hF885 rfl rfl
        have e900 := wRM_rm q_0 hR886
        refine Or.inr (Or.inl ⟨rfl, ?_⟩)
        refine r_pop (i := 632) rfl rfl ?_
        refine r_load (i := 633) (u := 2) (w := 2) rfl rfl rfl ?_
        refine r_call (i := 634) (u := 11) (v := 235) (w := 0) (b := 0) (na := 1025) (C2 := xC235) (as := [(2, 43)]) (s := []) rfl rfl rfl rfl rfl rfl rfl (sp235  hI884    (by omega)) (fun r901 S902 hq903 => ?_)
        obtain ⟨z904, rfl, h905, h906, hI907, hF908, hR909⟩ := hq903
        have e910 := N23x.fr e887 hF908 hR909 rfl rfl rfl
        have e911 := CRx.fr e888 hF908 rfl rfl
        have e912 := RTx.fr e889 hF908 rfl rfl
        have e913 := RMex.fr e890 hF908 rfl rfl
        have e914 := RSx.fr e891 hF908 rfl rfl
        have e915 := RThx.fr e892 hF908 rfl rfl
        have e916 := RIx.fr e893 hF908 rfl rfl
        have e917 := RKx.fr e894 hF908 rfl rfl
        have e918 := RSlx.fr e895 hF908 rfl rfl
        have e919 := RPx.fr e896 hF908 rfl rfl
        have e920 := RSkx.fr e897 hF908 rfl rfl
        have e921 := vZx.fr e898 hF908 rfl rfl
        have e922 := RWx.fr e899 hF908 rfl rfl
        have e923 := wRM_rm e900 hR909
        refine Or.inr (Or.inl ⟨rfl, ?_⟩)
        refine r_pop (i := 635) rfl rfl ?_
        refine r_goto (i := 636) (v := 637) rfl ?_
        refine r_iinc (i := 637) (u := 10) (v := 4) (s := 10) (L1 := [some ((6, 0)), some ((2, 0)), some ((2, 43)), some ((2, 81)), some (vi (i + 10)), none, none]) rfl rfl rfl rfl rfl ?_
        refine r_goto (i := 638) (v := 13) rfl ?_
        exact ih S902 hI907 e910 e911 e912 e913 e914 e915 e916 e917 e918 e919 e920 e921 e922 (i + 10) ⟨by omega, by omega⟩ (by exact wRM_le e923 (by omega)) (by omega)
      · refine r_swK (i := 24) (u := 1) (v := 637) (k := 19) (t := 637) rfl rfl h24 (by decide) (by decide) rfl ?_
        refine r_iinc (i := 637) (u := 10) (v := 4) (s := 10) (L1 := [some ((6, 0)), some ((2, 0)), some ((2, 43)), some ((2, 81)), some (vi (i + 10)), none, none]) rfl rfl rfl rfl rfl ?_
        refine r_goto (i := 638) (v := 13) rfl ?_
        exact ih S hI e_N23 e_CR e_RT e_RMe e_RS e_RTh e_RI e_RK e_RSl e_RP e_RSk e_vZ e_RW (i + 10) ⟨by omega, by omega⟩ (by exact wRM_le q_0 (by omega)) (by omega)
      · refine r_swK (i := 24) (u := 1) (v := 637) (k := 20) (t := 637) rfl rfl h25 (by decide) (by decide) rfl ?_
        refine r_iinc (i := 637) (u := 10) (v := 4) (s := 10) (L1 := [some ((6, 0)), some ((2, 0)), some ((2, 43)), some ((2, 81)), some (vi (i + 10)), none, none]) rfl rfl rfl rfl rfl ?_
        refine r_goto (i := 638) (v := 13) rfl ?_
        exact ih S hI e_N23 e_CR e_RT e_RMe e_RS e_RTh e_RI e_RK e_RSl e_RP e_RSk e_vZ e_RW (i + 10) ⟨by omega, by omega⟩ (by exact wRM_le q_0 (by omega)) (by omega)
      · refine r_swK (i := 24) (u := 1) (v := 637) (k := 21) (t := 637) rfl rfl h26 (by decide) (by decide) rfl ?_
        refine r_iinc (i := 637) (u := 10) (v := 4) (s := 10) (L1 := [some ((6, 0)), some ((2, 0)), some ((2, 43)), some ((2, 81)), some (vi (i + 10)), none, none]) rfl rfl rfl rfl rfl ?_
        refine r_goto (i := 638) (v := 13) rfl ?_
        exact ih S hI e_N23 e_CR e_RT e_RMe e_RS e_RTh e_RI e_RK e_RSl e_RP e_RSk e_vZ e_RW (i + 10) ⟨by omega, by omega⟩ (by exact wRM_le q_0 (by omega)) (by omega)
      · refine r_swK (i := 24) (u := 1) (v := 637) (k := 22) (t := 637) rfl rfl h27 (by decide) (by decide) rfl ?_
        refine r_iinc (i := 637) (u := 10) (v := 4) (s := 10) (L1 := [some ((6, 0)), some ((2, 0)), some ((2, 43)), some ((2, 81)), some (vi (i + 10)), none, none]) rfl rfl rfl rfl rfl ?_
        refine r_goto (i := 638) (v := 13) rfl ?_
        exact ih S hI e_N23 e_CR e_RT e_RMe e_RS e_RTh e_RI e_RK e_RSl e_RP e_RSk e_vZ e_RW (i + 10) ⟨by omega, by omega⟩ (by exact wRM_le q_0 (by omega)) (by omega)
      · refine r_swK (i := 24) (u := 1) (v := 637) (k := 23) (t := 637) rfl rfl h28 (by decide) (by decide) rfl ?_
        refine r_iinc (i := 637) (u := 10) (v := 4) (s := 10) (L1 := [some ((6, 0)), some ((2, 0)), some ((2, 43)), some ((2, 81)), some (vi (i + 10)), none, none]) rfl rfl rfl rfl rfl ?_
        refine r_goto (i := 638) (v := 13) rfl ?_
        exact ih S hI e_N23 e_CR e_RT e_RMe e_RS e_RTh e_RI e_RK e_RSl e_RP e_RSk e_vZ e_RW (i + 10) ⟨by omega, by omega⟩ (by exact wRM_le q_0 (by omega)) (by omega)
      · refine r_swK (i := 24) (u := 1) (v := 637) (k := 24) (t := 637) rfl rfl h29 (by decide) (by decide) rfl ?_
        refine r_iinc (i := 637) (u := 10) (v := 4) (s := 10) (L1 := [some ((6, 0)), some ((2, 0)), some ((2, 43)), some ((2, 81)), some (vi (i + 10)), none, none]) rfl rfl rfl rfl rfl ?_
        refine r_goto (i := 638) (v := 13) rfl ?_
        exact ih S hI e_N23 e_CR e_RT e_RMe e_RS e_RTh e_RI e_RK e_RSl e_RP e_RSk e_vZ e_RW (i + 10) ⟨by omega, by omega⟩ (by exact wRM_le q_0 (by omega)) (by omega)
      · refine r_swK (i := 24) (u := 1) (v := 637) (k := 25) (t := 637) rfl rfl h30 (by decide) (by decide) rfl ?_
        refine r_iinc (i := 637) (u := 10) (v := 4) (s := 10) (L1 := [some ((6, 0)), some ((2, 0)), some ((2, 43)), some ((2, 81)), some (vi (i + 10)), none, none]) rfl rfl rfl rfl rfl ?_
        refine r_goto (i := 638) (v := 13) rfl ?_
        exact ih S hI e_N23 e_CR e_RT e_RMe e_RS e_RTh e_RI e_RK e_RSl e_RP e_RSk e_vZ e_RW (i + 10) ⟨by omega, by omega⟩ (by exact wRM_le q_0 (by omega)) (by omega)
      · refine r_swK (i := 24) (u := 1) (v := 637) (k := 26) (t := 637) rfl rfl h31 (by decide) (by decide) rfl ?_
        refine r_iinc (i := 637) (u := 10) (v := 4) (s := 10) (L1 := [some ((6, 0)), some ((2, 0)), some ((2, 43)), some ((2, 81)), some (vi (i + 10)), none, none]) rfl rfl rfl rfl rfl ?_
        refine r_goto (i := 638) (v := 13) rfl ?_
        exact ih S hI e_N23 e_CR e_RT e_RMe e_RS e_RTh e_RI e_RK e_RSl e_RP e_RSk e_vZ e_RW (i + 10) ⟨by omega, by omega⟩ (by exact wRM_le q_0 (by omega)) (by omega)
      · refine r_swK (i := 24) (u := 1) (v := 637) (k := 27) (t := 637) rfl rfl h32 (by decide) (by decide) rfl ?_
        refine r_iinc (i := 637) (u := 10) (v := 4) (s := 10) (L1 := [some ((6, 0)), some ((2, 0)), some ((2, 43)), some ((2, 81)), some (vi (i + 10)), none, none]) rfl rfl rfl rfl rfl ?_
        refine r_goto (i := 638) (v := 13) rfl ?_
        exact ih S hI e_N23 e_CR e_RT e_RMe e_RS e_RTh e_RI e_RK e_RSl e_RP e_RSk e_vZ e_RW (i + 10) ⟨by omega, by omega⟩ (by exact wRM_le q_0 (by omega)) (by omega)
      · refine r_swK (i := 24) (u := 1) (v := 637) (k := 28) (t := 637) rfl rfl h33 (by decide) (by decide) rfl ?_
        refine r_iinc (i := 637) (u := 10) (v := 4) (s := 10) (L1 := [some ((6, 0)), some ((2, 0)), some ((2, 43)), some ((2, 81)), some (vi (i + 10)), none, none]) rfl rfl rfl rfl rfl ?_
        refine r_goto (i := 638) (v := 13) rfl ?_
        exact ih S hI e_N23 e_CR e_RT e_RMe e_RS e_RTh e_RI e_RK e_RSl e_RP e_RSk e_vZ e_RW (i + 10) ⟨by omega, by omega⟩ (by exact wRM_le q_0 (by omega)) (by omega)
      · refine r_swK (i := 24) (u := 1) (v := 637) (k := 29) (t := 637) rfl rfl h34 (by decide) (by decide) rfl ?_
        refine r_iinc (i := 637) (u := 10) (v := 4) (s := 10) (L1 := [some ((6, 0)), some ((2, 0)), some ((2, 43)), some ((2, 81)), some (vi (i + 10)), none, none]) rfl rfl rfl rfl rfl ?_
        refine r_goto (i := 638) (v := 13) rfl ?_
        exact ih S hI e_N23 e_CR e_RT e_RMe e_RS e_RTh e_RI e_RK e_RSl e_RP e_RSk e_vZ e_RW (i + 10) ⟨by omega, by omega⟩ (by exact wRM_le q_0 (by omega)) (by omega)
      · refine r_swK (i := 24) (u := 1) (v := 637) (k := 30) (t := 637) rfl rfl h35 (by decide) (by decide) rfl ?_
        refine r_iinc (i := 637) (u := 10) (v := 4) (s := 10) (L1 := [some ((6, 0)), some ((2, 0)), some ((2, 43)), some ((2, 81)), some (vi (i + 10)), none, none]) rfl rfl rfl rfl rfl ?_
        refine r_goto (i := 638) (v := 13) rfl ?_
        exact ih S hI e_N23 e_CR e_RT e_RMe e_RS e_RTh e_RI e_RK e_RSl e_RP e_RSk e_vZ e_RW (i + 10) ⟨by omega, by omega⟩ (by exact wRM_le q_0 (by omega)) (by omega)
      · refine r_swK (i := 24) (u := 1) (v := 637) (k := 31) (t := 637) rfl rfl h36 (by decide) (by decide) rfl ?_
        refine r_iinc (i := 637) (u := 10) (v := 4) (s := 10) (L1 := [some ((6, 0)), some ((2, 0)), some ((2, 43)), some ((2, 81)), some (vi (i + 10)), none, none]) rfl rfl rfl rfl rfl ?_
        refine r_goto (i := 638) (v := 13) rfl ?_
        exact ih S hI e_N23 e_CR e_RT e_RMe e_RS e_RTh e_RI e_RK e_RSl e_RP e_RSk e_vZ e_RW (i + 10) ⟨by omega, by omega⟩ (by exact wRM_le q_0 (by omega)) (by omega)
end XNC
