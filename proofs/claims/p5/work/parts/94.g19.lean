set_option linter.unusedVariables false
set_option maxRecDepth 4000
noncomputable section XNC
/-- ProxyForgeLaw.type -/
theorem sp179 {G : xk} {S : yS} {d : Nat} (hI : yI S) {kR : Int} {p0 : Int} (h_p0 : 0 ≤ p0 ∧ p0 ≤ 1) {p1 : Int} (h_p1 : -2147483648 ≤ p1 ∧ p1 ≤ 2147483647) {p2 : Int} (h_p2 : -2147483648 ≤ p2 ∧ p2 ≤ 2147483647) {p3 : Int} (h_p3 : -2147483648 ≤ p3 ∧ p3 ≤ 2147483647) (p_0 : wRM (kR + 1) S) (p_1 : 0 ≤ kR) (e_N23 : N23 S) (e_CR : CR S) (hd : 7 ≤ d) : yT xPr G LY xC179 0 [some ((2, 0)), some (vi p0), some (vi p1), some (vi p2), some (vi p3), some ((2, 81))] [] S d (fun r S' => ∃ z : Int, r = (1, vi z) ∧ 0 ≤ z ∧ z ≤ 2 ∧ wRM kR S' ∧ hTy S S' p0 p1 p2 p3 z ∧ (z = 0 → c6T S S' p3) ∧ N23 S' ∧ CR S' ∧ yI S' ∧ yFr [(1, 7)] [2, 3, 4, 5, 6, 81] S S') := by
  refine yT_pad 1 ?_
  show yT xPr G LY xC179 0 [some ((2, 0)), some (vi p0), some (vi p1), some (vi p2), some (vi p3), some ((2, 81)), none] [] S d _
  obtain ⟨d, rfl⟩ : ∃ q, d = q + 1 := ⟨d - 1, by omega⟩
  have hF : yFr [(1, 7)] [2, 3, 4, 5, 6, 81] S S := yFr.refl S
  have e_RM := p_0
  refine r_load (i := 0) (u := 5) (w := 2) rfl rfl rfl ?_
  refine r_const (i := 1) (u := 0) (z := 0) rfl rfl ?_
  refine r_load (i := 2) (u := 0) (w := 2) rfl rfl rfl ?_
  refine r_load (i := 3) (u := 1) (w := 0) rfl rfl rfl ?_
  refine r_load (i := 4) (u := 2) (w := 0) rfl rfl rfl ?_
  refine r_load (i := 5) (u := 3) (w := 0) rfl rfl rfl ?_
  refine r_load (i := 6) (u := 4) (w := 0) rfl rfl rfl ?_
  have h1 := hI.f tf1_7
  refine r_call (i := 7) (u := 3940705509310464) (v := 21) (w := 11) (b := 0) (na := 1285) (C2 := xC21) (as := [(2, 0), vi p0, vi p1, vi p2, vi p3]) (s := [vi 0, (2, 81)]) rfl rfl rfl rfl rfl rfl rfl (sp21 (b := p0) (fl := p1) (p := p2) (up := p3) hI ⟨by omega, by omega⟩ ⟨by omega, by omega⟩ ⟨by omega, by omega⟩ ⟨by omega, by omega⟩   (by omega)) (fun r2 S3 hq4 => ?_)
  rcases hq4 with hq5 | ⟨a7, c9, rfl, hc6, rfl⟩
  · obtain ⟨z8, rfl, h9, h10, tc11, tl12, tz13, ct14, c6t15, hI16, hF17, hR18⟩ := hq5
    have hF19 := hF.trans hF17 rfl rfl
    have e20 := N23x.fr e_N23 hF17 hR18 rfl rfl rfl
    have e21 := CRx.fr e_CR hF17 rfl rfl
    have e22 := wRM_rm e_RM hR18
    refine Or.inr (Or.inl ⟨rfl, ?_⟩)
    refine r_i2l (i := 8) rfl ⟨by omega, by omega⟩ ?_
    refine r_lastore (i := 9) rfl ly81 (by decide) (by omega) (by omega) ⟨by omega, by omega⟩ ?_
    have hI24 := hI16.seta0 (b := 81) (j := (0 : Int).toNat) (z := z8) rfl rfl
    have hF26 := hF19.seta (b := 81) (j := (0 : Int).toNat) (z := z8) rfl
    have e28 := N23x.seta e20 (b := 81) (j := (0 : Int).toNat) (z := z8) rfl
    have e29 := CRx.seta e21 (b := 81) (j := (0 : Int).toNat) (z := z8) rfl
    have e30 := wRM_a e22 (b := 81) (j := (0 : Int).toNat) (z := z8)
    refine yT_gen (fun S23 hS25 => ?_)
    rw [hS25] at hI24 hF26  e28 e29 e30
    refine r_goto (i := 10) (v := 17) rfl ?_
    refine r_const (i := 17) (u := 0) (z := 0) rfl rfl ?_
    exact r_retI (i := 18) rfl ⟨0, rfl, by omega, by omega, (by exact wRM_le e30 (by omega)), (by exact Or.inl ⟨rfl, tc11, tl12, by first | (subst hS25; exact ysa_eq.trans tz13) | (subst_vars; rfl), by subst hS25; exact cTy81 ct14⟩), (by intro _; subst hS25; exact c6t15), e28, e29, hI24, hF26⟩
  · obtain ⟨hI31, rm32⟩ := wRM_cost e_RM hI (by omega)
    have e33 : N23 (ycost S 1 6) := e_N23
    have e34 : CR (ycost S 1 6) := e_CR
    have hF35 : yFr [(1, 7)] [2, 3, 4, 5, 6, 81] S (ycost S 1 6) := hF
    rcases hc6 with ⟨rfl, xphc6⟩ | ⟨rfl, xphc6⟩
    · refine Or.inr (Or.inr (Or.inl ⟨rfl, rfl, by decide, ?_⟩))
      refine r_store (i := 11) (u := 6) (w := 2) (L1 := [some ((2, 0)), some (vi p0), some (vi p1), some (vi p2), some (vi p3), some ((2, 81)), some ((2, a7))]) rfl rfl rfl rfl ?_
      refine r_const (i := 12) (u := 1) (z := 1) rfl rfl ?_
      exact r_retI (i := 13) rfl ⟨1, rfl, by omega, by omega, (by exact wRM_le rm32 (by omega)), (by first | exact Or.inr (Or.inl ⟨rfl, xphc6, rfl, rfl⟩) | exact Or.inr (Or.inr ⟨rfl, xphc6.1, xphc6.2, rfl, rfl⟩)), (by intro hz; exact absurd hz (by omega)), e33, e34, hI31, hF35⟩
    · refine Or.inr (Or.inr (Or.inr ⟨rfl, (show (13 : Nat) ≠ 3940705509310464 / 65536 % 65536 by decide), rfl, by decide, ?_⟩))
      refine r_store (i := 14) (u := 6) (w := 2) (L1 := [some ((2, 0)), some (vi p0), some (vi p1), some (vi p2), some (vi p3), some ((2, 81)), some ((2, a7))]) rfl rfl rfl rfl ?_
      refine r_const (i := 15) (u := 2) (z := 2) rfl rfl ?_
      exact r_retI (i := 16) rfl ⟨2, rfl, by omega, by omega, (by exact wRM_le rm32 (by omega)), (by first | exact Or.inr (Or.inl ⟨rfl, xphc6, rfl, rfl⟩) | exact Or.inr (Or.inr ⟨rfl, xphc6.1, xphc6.2, rfl, rfl⟩)), (by intro hz; exact absurd hz (by omega)), e33, e34, hI31, hF35⟩
/-- ProxyForgeLaw.implement -/
theorem sp176 {G : xk} {S : yS} {d : Nat} (hI : yI S) {kR : Int} {p0 : Int} (h_p0 : -2147483648 ≤ p0 ∧ p0 ≤ 2147483647) {p1 : Int} (h_p1 : -2147483648 ≤ p1 ∧ p1 ≤ 2147483647) (p_0 : wRM (kR + 1) S) (p_1 : 0 ≤ kR) (e_N23 : N23 S) (e_CR : CR S) (hd : 7 ≤ d) : yT xPr G LY xC176 0 [some ((2, 0)), some (vi p0), some (vi p1)] [] S d (fun r S' => ∃ z : Int, r = (1, vi z) ∧ 0 ≤ z ∧ z ≤ 2 ∧ wRM kR S' ∧ hIm S S' p0 p1 z ∧ N23 S' ∧ CR S' ∧ yI S' ∧ yFr [] [6, 7, 8] S S') := by
  refine yT_pad 1 ?_
  show yT xPr G LY xC176 0 [some ((2, 0)), some (vi p0), some (vi p1), none] [] S d _
  obtain ⟨d, rfl⟩ : ∃ q, d = q + 1 := ⟨d - 1, by omega⟩
  have hF : yFr [] [6, 7, 8] S S := yFr.refl S
  have e_RM := p_0
  refine r_load (i := 0) (u := 0) (w := 2) rfl rfl rfl ?_
  refine r_load (i := 1) (u := 1) (w := 0) rfl rfl rfl ?_
  refine r_load (i := 2) (u := 2) (w := 0) rfl rfl rfl ?_
  refine r_call (i := 3) (u := 786432) (v := 10) (w := 5) (b := 0) (na := 771) (C2 := xC10) (as := [(2, 0), vi p0, vi p1]) (s := []) rfl rfl rfl rfl rfl rfl rfl (sp10 (t := p0) (f := p1) hI ⟨by omega, by omega⟩ ⟨by omega, by omega⟩   (by omega)) (fun r1 S2 hq3 => ?_)
  rcases hq3 with hq4 | ⟨a6, c9, rfl, hc5, rfl⟩
  · obtain ⟨rfl, ic7, ci28, hI9, hF10, hR11⟩ := hq4
    have hF12 := hF.trans hF10 rfl rfl
    have e13 := N23x.fr e_N23 hF10 hR11 rfl rfl rfl
    have e14 := CRx.fr e_CR hF10 rfl rfl
    have e15 := wRM_rm e_RM hR11
    refine Or.inl ⟨rfl, ?_⟩
    refine r_goto (i := 4) (v := 8) rfl ?_
    refine r_const (i := 8) (u := 0) (z := 0) rfl rfl ?_
    exact r_retI (i := 9) rfl ⟨0, rfl, by omega, by omega, (by exact wRM_le e15 (by omega)), (by exact Or.inl ⟨rfl, ic7, ci28⟩), e13, e14, hI9, hF12⟩
  · obtain ⟨hI16, rm17⟩ := wRM_cost e_RM hI (by omega)
    have e18 : N23 (ycost S 1 6) := e_N23
    have e19 : CR (ycost S 1 6) := e_CR
    have hF20 : yFr [] [6, 7, 8] S (ycost S 1 6) := hF
    obtain ⟨rfl, xphc5⟩ := hc5
    · refine Or.inr (Or.inr (Or.inl ⟨rfl, rfl, by decide, ?_⟩))
      refine r_store (i := 5) (u := 3) (w := 2) (L1 := [some ((2, 0)), some (vi p0), some (vi p1), some ((2, a6))]) rfl rfl rfl rfl ?_
      refine r_const (i := 6) (u := 1) (z := 1) rfl rfl ?_
      exact r_retI (i := 7) rfl ⟨1, rfl, by omega, by omega, (by exact wRM_le rm17 (by omega)), (by exact Or.inr ⟨rfl, xphc5, rfl, rfl⟩), e18, e19, hI16, hF20⟩
/-- ProxyForgeLaw.method -/
theorem sp177 {G : xk} {S : yS} {d : Nat} (hI : yI S) {kR : Int} {p0 : Int} (h_p0 : -2147483648 ≤ p0 ∧ p0 ≤ 2147483647) {p1 : Int} (h_p1 : -2147483648 ≤ p1 ∧ p1 ≤ 2147483647) {p2 : Int} (h_p2 : -2147483648 ≤ p2 ∧ p2 ≤ 2147483647) {p3 : Int} (h_p3 : -2147483648 ≤ p3 ∧ p3 ≤ 2147483647) {p4 : Int} (h_p4 : -2147483648 ≤ p4 ∧ p4 ≤ 2147483647) (p_0 : wRM (kR + 1) S) (p_1 : 0 ≤ kR) (e_N23 : N23 S) (e_CR : CR S) (hd : 7 ≤ d) : yT xPr G LY xC177 0 [some ((2, 0)), some (vi p0), some (vi p1), some (vi p2), some (vi p3), some (vi p4), some ((2, 81))] [] S d (fun r S' => ∃ z : Int, r = (1, vi z) ∧ 0 ≤ z ∧ z ≤ 2 ∧ wRM kR S' ∧ hMe S S' p0 p1 p2 p3 p4 z ∧ N23 S' ∧ CR S' ∧ yI S' ∧ yFr [(9, 8)] [10, 11, 12, 13, 14, 81] S S') := by
  refine yT_pad 1 ?_
  show yT xPr G LY xC177 0 [some ((2, 0)), some (vi p0), some (vi p1), some (vi p2), some (vi p3), some (vi p4), some ((2, 81)), none] [] S d _
  obtain ⟨d, rfl⟩ : ∃ q, d = q + 1 := ⟨d - 1, by omega⟩
  have hF : yFr [(9, 8)] [10, 11, 12, 13, 14, 81] S S := yFr.refl S
  have e_RM := p_0
  refine r_load (i := 0) (u := 6) (w := 2) rfl rfl rfl ?_
  refine r_const (i := 1) (u := 0) (z := 0) rfl rfl ?_
  refine r_load (i := 2) (u := 0) (w := 2) rfl rfl rfl ?_
  refine r_load (i := 3) (u := 1) (w := 0) rfl rfl rfl ?_
  refine r_load (i := 4) (u := 2) (w := 0) rfl rfl rfl ?_
  refine r_load (i := 5) (u := 3) (w := 0) rfl rfl rfl ?_
  refine r_load (i := 6) (u := 4) (w := 0) rfl rfl rfl ?_
  refine r_load (i := 7) (u := 5) (w := 0) rfl rfl rfl ?_
  have h1 := hI.f tf9_8
  refine r_call (i := 8) (u := 4222180486021120) (v := 13) (w := 12) (b := 0) (na := 1542) (C2 := xC13) (as := [(2, 0), vi p0, vi p1, vi p2, vi p3, vi p4]) (s := [vi 0, (2, 81)]) rfl rfl rfl rfl rfl rfl rfl (sp13 (t := p0) (w0 := p1) (fl := p2) (p := p3) (b := p4) hI ⟨by omega, by omega⟩ ⟨by omega, by omega⟩ ⟨by omega, by omega⟩ ⟨by omega, by omega⟩ ⟨by omega, by omega⟩   (by omega)) (fun r2 S3 hq4 => ?_)
  rcases hq4 with hq5 | ⟨a7, c9, rfl, hc6, rfl⟩
  · obtain ⟨z8, rfl, h9, h10, tc11, tl12, tz13, ct14, hI15, hF16, hR17⟩ := hq5
    have hF18 := hF.trans hF16 rfl rfl
    have e19 := N23x.fr e_N23 hF16 hR17 rfl rfl rfl
    have e20 := CRx.fr e_CR hF16 rfl rfl
    have e21 := wRM_rm e_RM hR17
    refine Or.inr (Or.inl ⟨rfl, ?_⟩)
    refine r_i2l (i := 9) rfl ⟨by omega, by omega⟩ ?_
    refine r_lastore (i := 10) rfl ly81 (by decide) (by omega) (by omega) ⟨by omega, by omega⟩ ?_
    have hI23 := hI15.seta0 (b := 81) (j := (0 : Int).toNat) (z := z8) rfl rfl
    have hF25 := hF18.seta (b := 81) (j := (0 : Int).toNat) (z := z8) rfl
    have e27 := N23x.seta e19 (b := 81) (j := (0 : Int).toNat) (z := z8) rfl
    have e28 := CRx.seta e20 (b := 81) (j := (0 : Int).toNat) (z := z8) rfl
    have e29 := wRM_a e21 (b := 81) (j := (0 : Int).toNat) (z := z8)
    refine yT_gen (fun S22 hS24 => ?_)
    rw [hS24] at hI23 hF25  e27 e28 e29
    refine r_goto (i := 11) (v := 18) rfl ?_
    refine r_const (i := 18) (u := 0) (z := 0) rfl rfl ?_
    exact r_retI (i := 19) rfl ⟨0, rfl, by omega, by omega, (by exact wRM_le e29 (by omega)), (by exact Or.inl ⟨rfl, tc11, tl12, by first | (subst hS24; exact ysa_eq.trans tz13) | (subst_vars; rfl), by subst hS24; exact cMe81 ct14⟩), e27, e28, hI23, hF25⟩
  · obtain ⟨hI30, rm31⟩ := wRM_cost e_RM hI (by omega)
    have e32 : N23 (ycost S 1 6) := e_N23
    have e33 : CR (ycost S 1 6) := e_CR
    have hF34 : yFr [(9, 8)] [10, 11, 12, 13, 14, 81] S (ycost S 1 6) := hF
    rcases hc6 with ⟨rfl, xphc6⟩ | ⟨rfl, xphc6⟩
    · refine Or.inr (Or.inr (Or.inl ⟨rfl, rfl, by decide, ?_⟩))
      refine r_store (i := 12) (u := 7) (w := 2) (L1 := [some ((2, 0)), some (vi p0), some (vi p1), some (vi p2), some (vi p3), some (vi p4), some ((2, 81)), some ((2, a7))]) rfl rfl rfl rfl ?_
      refine r_const (i := 13) (u := 1) (z := 1) rfl rfl ?_
      exact r_retI (i := 14) rfl ⟨1, rfl, by omega, by omega, (by exact wRM_le rm31 (by omega)), (by first | exact Or.inr (Or.inl ⟨rfl, xphc6, rfl, rfl⟩) | exact Or.inr (Or.inr ⟨rfl, xphc6.1, xphc6.2, rfl, rfl⟩)), e32, e33, hI30, hF34⟩
    · refine Or.inr (Or.inr (Or.inr ⟨rfl, (show (13 : Nat) ≠ 4222180486021120 / 65536 % 65536 by decide), rfl, by decide, ?_⟩))
      refine r_store (i := 15) (u := 7) (w := 2) (L1 := [some ((2, 0)), some (vi p0), some (vi p1), some (vi p2), some (vi p3), some (vi p4), some ((2, 81)), some ((2, a7))]) rfl rfl rfl rfl ?_
      refine r_const (i := 16) (u := 2) (z := 2) rfl rfl ?_
      exact r_retI (i := 17) rfl ⟨2, rfl, by omega, by omega, (by exact wRM_le rm31 (by omega)), (by first | exact Or.inr (Or.inl ⟨rfl, xphc6, rfl, rfl⟩) | exact Or.inr (Or.inr ⟨rfl, xphc6.1, xphc6.2, rfl, rfl⟩)), e32, e33, hI30, hF34⟩
/-- ProxyForgeLaw.throwing -/
theorem sp178 {G : xk} {S : yS} {d : Nat} (hI : yI S) {kR : Int} {p0 : Int} (h_p0 : -2147483648 ≤ p0 ∧ p0 ≤ 2147483647) {p1 : Int} (h_p1 : -2147483648 ≤ p1 ∧ p1 ≤ 2147483647) (p_0 : wRM (kR + 1) S) (p_1 : 0 ≤ kR) (e_N23 : N23 S) (e_CR : CR S) (hd : 7 ≤ d) : yT xPr G LY xC178 0 [some ((2, 0)), some (vi p0), some (vi p1)] [] S d (fun r S' => ∃ z : Int, r = (1, vi z) ∧ 0 ≤ z ∧ z ≤ 2 ∧ wRM kR S' ∧ hTh S S' p0 p1 z ∧ N23 S' ∧ CR S' ∧ yI S' ∧ yFr [] [15, 16] S S') := by
  refine yT_pad 1 ?_
  show yT xPr G LY xC178 0 [some ((2, 0)), some (vi p0), some (vi p1), none] [] S d _
  obtain ⟨d, rfl⟩ : ∃ q, d = q + 1 := ⟨d - 1, by omega⟩
  have hF : yFr [] [15, 16] S S := yFr.refl S
  have e_RM := p_0
  refine r_load (i := 0) (u := 0) (w := 2) rfl rfl rfl ?_
  refine r_load (i := 1) (u := 1) (w := 0) rfl rfl rfl ?_
  refine r_load (i := 2) (u := 2) (w := 0) rfl rfl rfl ?_
  refine r_call (i := 3) (u := 786432) (v := 20) (w := 5) (b := 0) (na := 771) (C2 := xC20) (as := [(2, 0), vi p0, vi p1]) (s := []) rfl rfl rfl rfl rfl rfl rfl (sp20 (m := p0) (t := p1) hI ⟨by omega, by omega⟩ ⟨by omega, by omega⟩   (by omega)) (fun r1 S2 hq3 => ?_)
  rcases hq3 with hq4 | ⟨a6, c9, rfl, hc5, rfl⟩
  · obtain ⟨rfl, tc27, cth28, hI9, hF10, hR11⟩ := hq4
    have hF12 := hF.trans hF10 rfl rfl
    have e13 := N23x.fr e_N23 hF10 hR11 rfl rfl rfl
    have e14 := CRx.fr e_CR hF10 rfl rfl
    have e15 := wRM_rm e_RM hR11
    refine Or.inl ⟨rfl, ?_⟩
    refine r_goto (i := 4) (v := 8) rfl ?_
    refine r_const (i := 8) (u := 0) (z := 0) rfl rfl ?_
    exact r_retI (i := 9) rfl ⟨0, rfl, by omega, by omega, (by exact wRM_le e15 (by omega)), (by exact Or.inl ⟨rfl, tc27, cth28⟩), e13, e14, hI9, hF12⟩
  · obtain ⟨hI16, rm17⟩ := wRM_cost e_RM hI (by omega)
    have e18 : N23 (ycost S 1 6) := e_N23
    have e19 : CR (ycost S 1 6) := e_CR
    have hF20 : yFr [] [15, 16] S (ycost S 1 6) := hF
    obtain ⟨rfl, xphc5⟩ := hc5
    · refine Or.inr (Or.inr (Or.inl ⟨rfl, rfl, by decide, ?_⟩))
      refine r_store (i := 5) (u := 3) (w := 2) (L1 := [some ((2, 0)), some (vi p0), some (vi p1), some ((2, a6))]) rfl rfl rfl rfl ?_
      refine r_const (i := 6) (u := 1) (z := 1) rfl rfl ?_
      exact r_retI (i := 7) rfl ⟨1, rfl, by omega, by omega, (by exact wRM_le rm17 (by omega)), (by exact Or.inr ⟨rfl, xphc5, rfl, rfl⟩), e18, e19, hI16, hF20⟩
/-- ProxyForgeLaw.forge -/
theorem sp175 {G : xk} {S : yS} {d : Nat} (hI : yI S) {kR : Int} {p0 : Int} (h_p0 : -2147483648 ≤ p0 ∧ p0 ≤ 2147483647) {p1 : Int} (h_p1 : -2147483648 ≤ p1 ∧ p1 ≤ 2147483647) {p2 : Int} (h_p2 : -2147483648 ≤ p2 ∧ p2 ≤ 2147483647) {p3 : Int} (h_p3 : -2147483648 ≤ p3 ∧ p3 ≤ 2147483647) (p_0 : wRM (kR + 1) S) (p_1 : 0 ≤ kR) (e_N23 : N23 S) (e_CR : CR S) (hd : 26 ≤ d) : yT xPr G LY xC175 0 [some ((2, 0)), some (vi p0), some (vi p1), some (vi p2), some (vi p3), some ((2, 81))] [] S d (fun r S' => ∃ z : Int, r = (1, vi z) ∧ 0 ≤ z ∧ z ≤ 2 ∧ wRM kR S' ∧ N23 S' ∧ CR S' ∧ yI S' ∧ yFr [(17, 6), (17, 7), (17, 8), (17, 9), (17, 10), (17, 11), (17, 12), (22, 3), (31, 1), (33, 7), (33, 8), (33, 9), (33, 10), (33, 11), (33, 12), (33, 13), (33, 14), (33, 15), (34, 1), (36, 5)] [18, 19, 20, 21, 23, 24, 25, 37, 81, 100, 101, 102, 103, 105] S S') := by
  refine yT_pad 1 ?_
  show yT xPr G LY xC175 0 [some ((2, 0)), some (vi p0), some (vi p1), some (vi p2), some (vi p3), some ((2, 81)), none] [] S d _
  obtain ⟨d, rfl⟩ : ∃ q, d = q + 1 := ⟨d - 1, by omega⟩
  have hF : yFr [(17, 6), (17, 7), (17, 8), (17, 9), (17, 10), (17, 11), (17, 12), (22, 3), (31, 1), (33, 7), (33, 8), (33, 9), (33, 10), (33, 11), (33, 12), (33, 13), (33, 14), (33, 15), (34, 1), (36, 5)] [18, 19, 20, 21, 23, 24, 25, 37, 81, 100, 101, 102, 103, 105] S S := yFr.refl S
  have e_RM := p_0
  refine r_load (i := 0) (u := 5) (w := 2) rfl rfl rfl ?_
  refine r_const (i := 1) (u := 0) (z := 0) rfl rfl ?_
  refine r_load (i := 2) (u := 0) (w := 2) rfl rfl rfl ?_
  refine r_load (i := 3) (u := 1) (w := 0) rfl rfl rfl ?_
  refine r_load (i := 4) (u := 2) (w := 0) rfl rfl rfl ?_
  refine r_load (i := 5) (u := 3) (w := 0) rfl rfl rfl ?_
  refine r_load (i := 6) (u := 4) (w := 0) rfl rfl rfl ?_
  refine r_call (i := 7) (u := 786432) (v := 8) (w := 11) (b := 0) (na := 1797) (C2 := xC8) (as := [(2, 0), vi p0, vi p1, vi p2, vi p3]) (s := [vi 0, (2, 81)]) rfl rfl rfl rfl rfl rfl rfl (sp8 (t := p0) (fa := p1) (fb := p2) (fc := p3) hI ⟨by omega, by omega⟩ ⟨by omega, by omega⟩ ⟨by omega, by omega⟩ ⟨by omega, by omega⟩  e_N23 (by omega)) (fun r1 S2 hq3 => ?_)
  rcases hq3 with hq4 | ⟨a6, c9, rfl, hc5, rfl⟩
  · obtain ⟨z7, rfl, h8, h9, e10, hI11, hF12, hR13⟩ := hq4
    have hF14 := hF.trans hF12 rfl rfl
    have e15 := CRx.fr e_CR hF12 rfl rfl
    have e16 := wRM_rm e_RM hR13
    refine Or.inr (Or.inl ⟨rfl, ?_⟩)
    refine r_i2l (i := 8) rfl ⟨by omega, by omega⟩ ?_
    refine r_lastore (i := 9) rfl ly81 (by decide) (by omega) (by omega) ⟨by omega, by omega⟩ ?_
    have hI18 := hI11.seta0 (b := 81) (j := (0 : Int).toNat) (z := z7) rfl rfl
    have hF20 := hF14.seta (b := 81) (j := (0 : Int).toNat) (z := z7) rfl
    have e22 := CRx.seta e15 (b := 81) (j := (0 : Int).toNat) (z := z7) rfl
    have e23 := wRM_a e16 (b := 81) (j := (0 : Int).toNat) (z := z7)
    have e24 := N23x.seta e10 (b := 81) (j := (0 : Int).toNat) (z := z7) rfl
    refine yT_gen (fun S17 hS19 => ?_)
    rw [hS19] at hI18 hF20  e22 e23 e24
    refine r_goto (i := 10) (v := 14) rfl ?_
    refine r_const (i := 14) (u := 0) (z := 0) rfl rfl ?_
    exact r_retI (i := 15) rfl ⟨0, rfl, by omega, by omega, (by exact wRM_le e23 (by omega)), e24, e22, hI18, hF20⟩
  · obtain ⟨hI25, rm26⟩ := wRM_cost e_RM hI (by omega)
    have e27 : N23 (ycost S 1 6) := e_N23
    have e28 : CR (ycost S 1 6) := e_CR
    have hF29 : yFr [(17, 6), (17, 7), (17, 8), (17, 9), (17, 10), (17, 11), (17, 12), (22, 3), (31, 1), (33, 7), (33, 8), (33, 9), (33, 10), (33, 11), (33, 12), (33, 13), (33, 14), (33, 15), (34, 1), (36, 5)] [18, 19, 20, 21, 23, 24, 25, 37, 81, 100, 101, 102, 103, 105] S (ycost S 1 6) := hF
    obtain rfl := hc5
    · refine Or.inr (Or.inr (Or.inl ⟨rfl, rfl, by decide, ?_⟩))
      refine r_store (i := 11) (u := 6) (w := 2) (L1 := [some ((2, 0)), some (vi p0), some (vi p1), some (vi p2), some (vi p3), some ((2, 81)), some ((2, a6))]) rfl rfl rfl rfl ?_
      refine r_const (i := 12) (u := 1) (z := 1) rfl rfl ?_
      exact r_retI (i := 13) rfl ⟨1, rfl, by omega, by omega, (by exact wRM_le rm26 (by omega)), e27, e28, hI25, hF29⟩
/-- ProxyForgeLaw.answer -/
theorem sp173 {G : xk} {S : yS} {d : Nat} (hI : yI S) {kR : Int} {p0 : Int} (h_p0 : -2147483648 ≤ p0 ∧ p0 ≤ 2147483647) {p1 : Int} (h_p1 : Rl p1) (p_0 : wRM (kR + 1) S) (p_1 : 0 ≤ kR) (e_N23 : N23 S) (e_CR : CR S) (hd : 7 ≤ d) : yT xPr G LY xC173 0 [some ((2, 0)), some (vi p0), some (vl p1), none] [] S d (fun r S' => ∃ z : Int, r = (1, vi z) ∧ 0 ≤ z ∧ z ≤ 2 ∧ wRM kR S' ∧ N23 S' ∧ CR S' ∧ yI S' ∧ yFr [(26, 4), (26, 5)] [] S S') := by
  refine yT_pad 1 ?_
  show yT xPr G LY xC173 0 [some ((2, 0)), some (vi p0), some (vl p1), none, none] [] S d _
  obtain ⟨d, rfl⟩ : ∃ q, d = q + 1 := ⟨d - 1, by omega⟩
  have hF : yFr [(26, 4), (26, 5)] [] S S := yFr.refl S
  have e_RM := p_0
  refine r_load (i := 0) (u := 0) (w := 2) rfl rfl rfl ?_
  refine r_load (i := 1) (u := 1) (w := 0) rfl rfl rfl ?_
  refine r_load (i := 2) (u := 2) (w := 1) rfl rfl rfl ?_
  refine r_call (i := 3) (u := 786432) (v := 1) (w := 5) (b := 0) (na := 1027) (C2 := xC1) (as := [(2, 0), vi p0, vl p1]) (s := []) rfl rfl rfl rfl rfl rfl rfl (sp1 (k := p0) (v := p1) hI ⟨by omega, by omega⟩ ⟨by omega, by omega⟩   (by omega)) (fun r1 S2 hq3 => ?_)
  rcases hq3 with hq4 | ⟨a6, c9, rfl, hc5, rfl⟩
  · obtain ⟨rfl, hI7, hF8, hR9⟩ := hq4
    have hF10 := hF.trans hF8 rfl rfl
    have e11 := N23x.fr e_N23 hF8 hR9 rfl rfl rfl
    have e12 := CRx.fr e_CR hF8 rfl rfl
    have e13 := wRM_rm e_RM hR9
    refine Or.inl ⟨rfl, ?_⟩
    refine r_goto (i := 4) (v := 8) rfl ?_
    refine r_const (i := 8) (u := 0) (z := 0) rfl rfl ?_
    exact r_retI (i := 9) rfl ⟨0, rfl, by omega, by omega, (by exact wRM_le e13 (by omega)), e11, e12, hI7, hF10⟩
  · obtain ⟨hI14, rm15⟩ := wRM_cost e_RM hI (by omega)
    have e16 : N23 (ycost S 1 6) := e_N23
    have e17 : CR (ycost S 1 6) := e_CR
    have hF18 : yFr [(26, 4), (26, 5)] [] S (ycost S 1 6) := hF
    obtain rfl := hc5
    · refine Or.inr (Or.inr (Or.inl ⟨rfl, rfl, by decide, ?_⟩))
      refine r_store (i := 5) (u := 4) (w := 2) (L1 := [some ((2, 0)), some (vi p0), some (vl p1), none, some ((2, a6))]) rfl rfl rfl rfl ?_
      refine r_const (i := 6) (u := 1) (z := 1) rfl rfl ?_
      exact r_retI (i := 7) rfl ⟨1, rfl, by omega, by omega, (by exact wRM_le rm15 (by omega)), e16, e17, hI14, hF18⟩
/-- ProxyForgeLaw.call -/
theorem sp174 {G : xk} {S : yS} {d : Nat} (hI : yI S) {kR : Int} {p0 : Int} (h_p0 : -2147483648 ≤ p0 ∧ p0 ≤ 2147483647) {p1 : Int} (h_p1 : Rl p1) {p2 : Int} (h_p2 : Rl p2) {p3 : Int} (h_p3 : Rl p3) {p4 : Int} (h_p4 : Rl p4) (p_0 : wRM (kR + 1) S) (p_1 : 0 ≤ kR) (e_N23 : N23 S) (e_CR : CR S) (hd : 7 ≤ d) : yT xPr G LY xC174 0 [some ((2, 0)), some (vi p0), some (vl p1), none, some (vl p2), none, some (vl p3), none, some (vl p4), none, some ((2, 81))] [] S d (fun r S' => ∃ z : Int, r = (1, vi z) ∧ 0 ≤ z ∧ z ≤ 2 ∧ wRM kR S' ∧ N23 S' ∧ CR S' ∧ yI S' ∧ yFr [(26, 2), (26, 3), (29, 5)] [27, 28, 30, 81] S S') := by
  refine yT_pad 1 ?_
  show yT xPr G LY xC174 0 [some ((2, 0)), some (vi p0), some (vl p1), none, some (vl p2), none, some (vl p3), none, some (vl p4), none, some ((2, 81)), none] [] S d _
  obtain ⟨d, rfl⟩ : ∃ q, d = q + 1 := ⟨d - 1, by omega⟩
  have hF : yFr [(26, 2), (26, 3), (29, 5)] [27, 28, 30, 81] S S := yFr.refl S
  have e_RM := p_0
  refine r_load (i := 0) (u := 10) (w := 2) rfl rfl rfl ?_
  refine r_const (i := 1) (u := 0) (z := 0) rfl rfl ?_
  refine r_load (i := 2) (u := 0) (w := 2) rfl rfl rfl ?_
  refine r_load (i := 3) (u := 1) (w := 0) rfl rfl rfl ?_
  refine r_load (i := 4) (u := 2) (w := 1) rfl rfl rfl ?_
  refine r_load (i := 5) (u := 4) (w := 1) rfl rfl rfl ?_
  refine r_load (i := 6) (u := 6) (w := 1) rfl rfl rfl ?_
  refine r_load (i := 7) (u := 8) (w := 1) rfl rfl rfl ?_
  refine r_call (i := 8) (u := 786432) (v := 5) (w := 12) (b := 0) (na := 2566) (C2 := xC5) (as := [(2, 0), vi p0, vl p1, vl p2, vl p3, vl p4]) (s := [vi 0, (2, 81)]) rfl rfl rfl rfl rfl rfl rfl (sp5 (k := p0) (a := p1) (b := p2) (c := p3) (e := p4) hI ⟨by omega, by omega⟩ ⟨by omega, by omega⟩ ⟨by omega, by omega⟩ ⟨by omega, by omega⟩ ⟨by omega, by omega⟩   (by omega)) (fun r1 S2 hq3 => ?_)
  rcases hq3 with hq4 | ⟨a6, c9, rfl, hc5, rfl⟩
  · obtain ⟨z7, rfl, h8, h9, hI10, hF11, hR12⟩ := hq4
    have hF13 := hF.trans hF11 rfl rfl
    have e14 := N23x.fr e_N23 hF11 hR12 rfl rfl rfl
    have e15 := CRx.fr e_CR hF11 rfl rfl
    have e16 := wRM_rm e_RM hR12
    refine Or.inr (Or.inl ⟨rfl, ?_⟩)
    refine r_i2l (i := 9) rfl ⟨by omega, by omega⟩ ?_
    refine r_lastore (i := 10) rfl ly81 (by decide) (by omega) (by omega) ⟨by omega, by omega⟩ ?_
    have hI18 := hI10.seta0 (b := 81) (j := (0 : Int).toNat) (z := z7) rfl rfl
    have hF20 := hF13.seta (b := 81) (j := (0 : Int).toNat) (z := z7) rfl
    have e22 := N23x.seta e14 (b := 81) (j := (0 : Int).toNat) (z := z7) rfl
    have e23 := CRx.seta e15 (b := 81) (j := (0 : Int).toNat) (z := z7) rfl
    have e24 := wRM_a e16 (b := 81) (j := (0 : Int).toNat) (z := z7)
    refine yT_gen (fun S17 hS19 => ?_)
    rw [hS19] at hI18 hF20  e22 e23 e24
    refine r_goto (i := 11) (v := 15) rfl ?_
    refine r_const (i := 15) (u := 0) (z := 0) rfl rfl ?_
    exact r_retI (i := 16) rfl ⟨0, rfl, by omega, by omega, (by exact wRM_le e24 (by omega)), e22, e23, hI18, hF20⟩
  · obtain ⟨hI25, rm26⟩ := wRM_cost e_RM hI (by omega)
    have e27 : N23 (ycost S 1 6) := e_N23
    have e28 : CR (ycost S 1 6) := e_CR
    have hF29 : yFr [(26, 2), (26, 3), (29, 5)] [27, 28, 30, 81] S (ycost S 1 6) := hF
    obtain rfl := hc5
    · refine Or.inr (Or.inr (Or.inl ⟨rfl, rfl, by decide, ?_⟩))
      refine r_store (i := 12) (u := 11) (w := 2) (L1 := [some ((2, 0)), some (vi p0), some (vl p1), none, some (vl p2), none, some (vl p3), none, some (vl p4), none, some ((2, 81)), some ((2, a6))]) rfl rfl rfl rfl ?_
      refine r_const (i := 13) (u := 1) (z := 1) rfl rfl ?_
      exact r_retI (i := 14) rfl ⟨1, rfl, by omega, by omega, (by exact wRM_le rm26 (by omega)), e27, e28, hI25, hF29⟩
set_option maxHeartbeats 4000000 in
theorem lp281_13 {G : xk} {d : Nat} {S0 : yS} {nS : Nat} {sc : Nat → Int} (hG : ySc G nS sc) (hn5 : nS ≤ 5120) (hd : 27 ≤ d + 1) : ∀ (n : Nat), ∀ (S : yS) (hI : yI S) (e_N23 : N23 S) (e_CR : CR S) (e_RT : RT S) (e_RMe : RMe S) (e_RS : RS S) (e_RTh : RTh S) (i : Int) (h_i : 0 ≤ i ∧ i ≤ 5120) (q_0 : wRM (5200 - i) S) (hn : 5120 - i < (n : Nat)), yT xPr G LY xC281 13 [some ((6, 0)), some ((2, 0)), some ((2, 43)), some ((2, 81)), some (vi i), none, none] [] S (d + 1) (fun r S' => ∃ z : Int, r = (1, vi z) ∧ 1 ≤ z ∧ z ≤ 1) := by
  intro n
  induction n with
  | zero => intro S hI e_N23 e_CR e_RT e_RMe e_RS e_RTh i h_i q_0 hn; exact absurd hn (by omega)
  | succ n ih =>
    intro S hI e_N23 e_CR e_RT e_RMe e_RS e_RTh i h_i q_0 hn
    refine r_load (i := 13) (u := 4) (w := 0) rfl rfl rfl ?_
    refine r_load (i := 14) (u := 0) (w := 2) rfl rfl rfl ?_
    refine r_scN (i := 15) hG rfl ?_
    refine r_const (i := 16) (u := 10) (z := 10) rfl rfl ?_
    refine r_isub (i := 17) rfl ?_
    refine c_gt (i := 18) (v := 645) rfl ⟨by omega, by omega⟩ ⟨by omega, by omega⟩ (fun h1 => ?_) (fun h2 => ?_)
    · refine r_const (i := 645) (u := 1) (z := 1) rfl rfl ?_
      exact r_retZ (i := 646) rfl (by omega) (by omega) ⟨1, rfl, by omega, by omega⟩
    · refine r_load (i := 19) (u := 0) (w := 2) rfl rfl rfl ?_
      refine r_load (i := 20) (u := 4) (w := 0) rfl rfl rfl ?_
      refine r_scA (i := 21) hG rfl (by omega) (by omega) fun h3 => ?_
      have h3 : Rg (sc i.toNat) := h3
      refine r_const (i := 22) (u := 31) (z := 31) rfl rfl ?_
      refine r_iand (i := 23) rfl ?_
      have h4 := @yand_c (sc i.toNat) 31 (by decide) (by decide)
      rcases (show (yand (sc i.toNat) 31) = 0 ∨ (yand (sc i.toNat) 31) = 1 ∨ (yand (sc i.toNat) 31) = 2 ∨ (yand (sc i.toNat) 31) = 3 ∨ (yand (sc i.toNat) 31) = 4 ∨ (yand (sc i.toNat) 31) = 5 ∨ (yand (sc i.toNat) 31) = 6 ∨ (yand (sc i.toNat) 31) = 7 ∨ (yand (sc i.toNat) 31) = 8 ∨ (yand (sc i.toNat) 31) = 9 ∨ (yand (sc i.toNat) 31) = 10 ∨ (yand (sc i.toNat) 31) = 11 ∨ (yand (sc i.toNat) 31) = 12 ∨ (yand (sc i.toNat) 31) = 13 ∨ (yand (sc i.toNat) 31) = 14 ∨ (yand (sc i.toNat) 31) = 15 ∨ (yand (sc i.toNat) 31) = 16 ∨ (yand (sc i.toNat) 31) = 17 ∨ (yand (sc i.toNat) 31) = 18 ∨ (yand (sc i.toNat) 31) = 19 ∨ (yand (sc i.toNat) 31) = 20 ∨ (yand (sc i.toNat) 31) = 21 ∨ (yand (sc i.toNat) 31) = 22 ∨ (yand (sc i.toNat) 31) = 23 ∨ (yand (sc i.toNat) 31) = 24 ∨ (yand (sc i.toNat) 31) = 25 ∨ (yand (sc i.toNat) 31) = 26 ∨ (yand (sc i.toNat) 31) = 27 ∨ (yand (sc i.toNat) 31) = 28 ∨ (yand (sc i.toNat) 31) = 29 ∨ (yand (sc i.toNat) 31) = 30 ∨ (yand (sc i.toNat) 31) = 31 by omega) with h5 | h6 | h7 | h8 | h9 | h10 | h11 | h12 | h13 | h14 | h15 | h16 | h17 | h18 | h19 | h20 | h21 | h22 | h23 | h24 | h25 | h26 | h27 | h28 | h29 | h30 | h31 | h32 | h33 | h34 | h35 | h36
      · refine r_swK (i := 24) (u := 1) (v := 643) (k := 0) (t := 25) rfl rfl h5 (by decide) (by decide) rfl ?_
        refine r_load (i := 25) (u := 1) (w := 2) rfl rfl rfl ?_
        refine r_load (i := 26) (u := 0) (w := 2) rfl rfl rfl ?_
        refine r_load (i := 27) (u := 4) (w := 0) rfl rfl rfl ?_
        refine r_const (i := 28) (u := 1) (z := 1) rfl rfl ?_
        refine r_iadd (i := 29) rfl ?_
        refine r_scA (i := 30) hG rfl (by omega) (by omega) fun h37 => ?_
        have h37 : Rg (sc (i + 1).toNat) := h37
        refine z_eq (i := 31) (v := 34) rfl ⟨by omega, by omega⟩ (fun h38 => ?_) (fun h39 => ?_)
        · refine r_const (i := 34) (u := 0) (z := 0) rfl rfl ?_
          refine r_load (i := 35) (u := 0) (w := 2) rfl rfl rfl ?_
          refine r_load (i := 36) (u := 4) (w := 0) rfl rfl rfl ?_
          refine r_const (i := 37) (u := 2) (z := 2) rfl rfl ?_
          refine r_iadd (i := 38) rfl ?_
          refine r_scA (i := 39) hG rfl (by omega) (by omega) fun h40 => ?_
          have h40 : Rg (sc (i + 2).toNat) := h40
          refine r_load (i := 40) (u := 0) (w := 2) rfl rfl rfl ?_
          refine r_load (i := 41) (u := 4) (w := 0) rfl rfl rfl ?_
          refine r_const (i := 42) (u := 3) (z := 3) rfl rfl ?_
          refine r_iadd (i := 43) rfl ?_
          refine r_scA (i := 44) hG rfl (by omega) (by omega) fun h41 => ?_
          have h41 : Rg (sc (i + 3).toNat) := h41
          refine r_load (i := 45) (u := 0) (w := 2) rfl rfl rfl ?_
          refine r_load (i := 46) (u := 4) (w := 0) rfl rfl rfl ?_
          refine r_const (i := 47) (u := 4) (z := 4) rfl rfl ?_
          refine r_iadd (i := 48) rfl ?_
          refine r_scA (i := 49) hG rfl (by omega) (by omega) fun h42 => ?_
          have h42 : Rg (sc (i + 4).toNat) := h42
          refine r_load (i := 50) (u := 3) (w := 2) rfl rfl rfl ?_
          refine r_call (i := 51) (u := 65535) (v := 179) (w := 0) (b := 2) (na := 1798) (C2 := xC179) (as := [(2, 0), vi 0, vi (sc (i + 2).toNat), vi (sc (i + 3).toNat), vi (sc (i + 4).toNat), (2, 81)]) (s := []) rfl rfl rfl rfl rfl rfl rfl (sp179 (p0 := 0) (p1 := sc (i + 2).toNat) (p2 := sc (i + 3).toNat) (p3 := sc (i + 4).toNat) (kR := 5199 - i) hI ⟨by omega, by omega⟩ ⟨by omega, by omega⟩ ⟨by omega, by omega⟩ ⟨by omega, by omega⟩ (by exact wRM_le q_0 (by omega)) (by omega) e_N23 e_CR (by omega)) (fun r43 S44 hq45 => ?_)
          obtain ⟨z46, rfl, h47, h48, rm49, ht50, c6h51, e52, e53, hI54, hF55⟩ := hq45
          have e56 := RMex.fr e_RMe hF55 rfl rfl
          have e57 := RThx.fr e_RTh hF55 rfl rfl
          refine Or.inr (Or.inl ⟨rfl, ?_⟩)
          have rs9 := RS_type e_RS (hI.f tf1_7).1 (by omega) ht50 c6h51 hF55 rfl
          refine r_store (i := 52) (u := 5) (w := 0) (L1 := [some ((6, 0)), some ((2, 0)), some ((2, 43)), some ((2, 81)), some (vi i), some (vi z46), none]) rfl rfl rfl rfl ?_
          refine r_load (i := 53) (u := 2) (w := 2) rfl rfl rfl ?_
          refine r_load (i := 54) (u := 0) (w := 2) rfl rfl rfl ?_
          refine r_load (i := 55) (u := 4) (w := 0) rfl rfl rfl ?_
          refine r_const (i := 56) (u := 1) (z := 1) rfl rfl ?_
          refine r_iadd (i := 57) rfl ?_
          refine r_scA (i := 58) hG rfl (by omega) (by omega) fun h58 => ?_
          have h58 : Rg (sc (i + 1).toNat) := h58
          refine z_eq (i := 59) (v := 62) rfl ⟨by omega, by omega⟩ (fun h59 => ?_) (fun h60 => absurd h60 (by omega))
          refine r_const (i := 62) (u := 0) (z := 0) rfl rfl ?_
          refine r_load (i := 63) (u := 0) (w := 2) rfl rfl rfl ?_
          refine r_load (i := 64) (u := 4) (w := 0) rfl rfl rfl ?_
          refine r_const (i := 65) (u := 2) (z := 2) rfl rfl ?_
          refine r_iadd (i := 66) rfl ?_
          refine r_scA (i := 67) hG rfl (by omega) (by omega) fun h61 => ?_
          have h61 : Rg (sc (i + 2).toNat) := h61
          refine r_load (i := 68) (u := 0) (w := 2) rfl rfl rfl ?_
          refine r_load (i := 69) (u := 4) (w := 0) rfl rfl rfl ?_
          refine r_const (i := 70) (u := 3) (z := 3) rfl rfl ?_
          refine r_iadd (i := 71) rfl ?_
          refine r_scA (i := 72) hG rfl (by omega) (by omega) fun h62 => ?_
          have h62 : Rg (sc (i + 3).toNat) := h62
          refine r_load (i := 73) (u := 0) (w := 2) rfl rfl rfl ?_
          refine r_load (i := 74) (u := 4) (w := 0) rfl rfl rfl ?_
          refine r_const (i := 75) (u := 4) (z := 4) rfl rfl ?_
          refine r_iadd (i := 76) rfl ?_
          refine r_scA (i := 77) hG rfl (by omega) (by omega) fun h63 => ?_
          have h63 : Rg (sc (i + 4).toNat) := h63
          refine r_call (i := 78) (u := 11) (v := 259) (w := 0) (b := 0) (na := 1541) (C2 := xC259) (as := [(2, 43), vi 0, vi (sc (i + 2).toNat), vi (sc (i + 3).toNat), vi (sc (i + 4).toNat)]) (s := []) rfl rfl rfl rfl rfl rfl rfl (sp259 (b := 0) (bits := sc (i + 2).toNat) (p := sc (i + 3).toNat) (up := sc (i + 4).toNat) hI54 ⟨by omega, by omega⟩ ⟨by omega, by omega⟩ ⟨by omega, by omega⟩ ⟨by omega, by omega⟩   (by omega)) (fun r64 S65 hq66 => ?_)
          obtain ⟨z67, rfl, h68, h69, mq70, hI71, hF72, hR73⟩ := hq66
          have e74 := RMex.fr e56 hF72 rfl rfl
          have e75 := RThx.fr e57 hF72 rfl rfl
          have e76 := N23x.fr e52 hF72 hR73 rfl rfl rfl
          have e77 := CRx.fr e53 hF72 rfl rfl
          have e78 := wRM_rm rm49 hR73
          have e79 := RSx.fr rs9 hF72 rfl rfl
          refine Or.inr (Or.inl ⟨rfl, ?_⟩)
          have rt9 := (RT_type e_RT (by omega) (Int.le_trans (by decide) (hI.f tf1_7).1) ht50 hF55 rfl rfl mq70 hF72 rfl rfl).1
          have rk9 := (RT_type e_RT (by omega) (Int.le_trans (by decide) (hI.f tf1_7).1) ht50 hF55 rfl rfl mq70 hF72 rfl rfl).2.1
          have ro9 := (RT_type e_RT (by omega) (Int.le_trans (by decide) (hI.f tf1_7).1) ht50 hF55 rfl rfl mq70 hF72 rfl rfl).2.2
          refine r_store (i := 79) (u := 6) (w := 0) (L1 := [some ((6, 0)), some ((2, 0)), some ((2, 43)), some ((2, 81)), some (vi i), some (vi z46), some (vi z67)]) rfl rfl rfl rfl ?_
          refine r_goto (i := 80) (v := 643) rfl ?_
          refine r_iinc (i := 643) (u := 10) (v := 4) (s := 10) (L1 := [some ((6, 0)), some ((2, 0)), some ((2, 43)), some ((2, 81)), some (vi (i + 10)), some (vi z46), some (vi z67)]) rfl rfl rfl rfl rfl ?_
          refine r_goto (i := 644) (v := 13) rfl ?_
          refine yT_drop (L1 := [some ((6, 0)), some ((2, 0)), some ((2, 43)), some ((2, 81)), some (vi (i + 10)), none, none]) rfl ?_
          exact ih S65 hI71 e76 e77 rt9 e74 e79 e75 (i + 10) ⟨by omega, by omega⟩ (by exact wRM_le e78 (by omega)) (by omega)
        · refine r_const (i := 32) (u := 1) (z := 1) rfl rfl ?_
          refine r_goto (i := 33) (v := 35) rfl ?_
          refine r_load (i := 35) (u := 0) (w := 2) rfl rfl rfl ?_
          refine r_load (i := 36) (u := 4) (w := 0) rfl rfl rfl ?_
          refine r_const (i := 37) (u := 2) (z := 2) rfl rfl ?_
          refine r_iadd (i := 38) rfl ?_
          refine r_scA (i := 39) hG rfl (by omega) (by omega) fun h80 => ?_
          have h80 : Rg (sc (i + 2).toNat) := h80
          refine r_load (i := 40) (u := 0) (w := 2) rfl rfl rfl ?_
          refine r_load (i := 41) (u := 4) (w := 0) rfl rfl rfl ?_
          refine r_const (i := 42) (u := 3) (z := 3) rfl rfl ?_
          refine r_iadd (i := 43) rfl ?_
          refine r_scA (i := 44) hG rfl (by omega) (by omega) fun h81 => ?_
          have h81 : Rg (sc (i + 3).toNat) := h81
          refine r_load (i := 45) (u := 0) (w := 2) rfl rfl rfl ?_
          refine r_load (i := 46) (u := 4) (w := 0) rfl rfl rfl ?_
          refine r_const (i := 47) (u := 4) (z := 4) rfl rfl ?_
          refine r_iadd (i := 48) rfl ?_
          refine r_scA (i := 49) hG rfl (by omega) (by omega) fun h82 => ?_
          have h82 : Rg (sc (i + 4).toNat) := h82
          refine r_load (i := 50) (u := 3) (w := 2) rfl rfl rfl ?_
          refine r_call (i := 51) (u := 65535) (v := 179) (w := 0) (b := 2) (na := 1798) (C2 := xC179) (as := [(2, 0), vi 1, vi (sc (i + 2).toNat), vi (sc (i + 3).toNat), vi (sc (i + 4).toNat), (2, 81)]) (s := []) rfl rfl rfl rfl rfl rfl rfl (sp179 (p0 := 1) (p1 := sc (i + 2).toNat) (p2 := sc (i + 3).toNat) (p3 := sc (i + 4).toNat) (kR := 5199 - i) hI ⟨by omega, by omega⟩ ⟨by omega, by omega⟩ ⟨by omega, by omega⟩ ⟨by omega, by omega⟩ (by exact wRM_le q_0 (by omega)) (by omega) e_N23 e_CR (by omega)) (fun r83 S84 hq85 => ?_)
          obtain ⟨z86, rfl, h87, h88, rm89, ht90, c6h91, e92, e93, hI94, hF95⟩ := hq85
          have e96 := RMex.fr e_RMe hF95 rfl rfl
          have e97 := RThx.fr e_RTh hF95 rfl rfl
          refine Or.inr (Or.inl ⟨rfl, ?_⟩)
          have rs9 := RS_type e_RS (hI.f tf1_7).1 (by omega) ht90 c6h91 hF95 rfl
          refine r_store (i := 52) (u := 5) (w := 0) (L1 := [some ((6, 0)), some ((2, 0)), some ((2, 43)), some ((2, 81)), some (vi i), some (vi z86), none]) rfl rfl rfl rfl ?_
          refine r_load (i := 53) (u := 2) (w := 2) rfl rfl rfl ?_
          refine r_load (i := 54) (u := 0) (w := 2) rfl rfl rfl ?_
          refine r_load (i := 55) (u := 4) (w := 0) rfl rfl rfl ?_
          refine r_const (i := 56) (u := 1) (z := 1) rfl rfl ?_
          refine r_iadd (i := 57) rfl ?_
          refine r_scA (i := 58) hG rfl (by omega) (by omega) fun h98 => ?_
          have h98 : Rg (sc (i + 1).toNat) := h98
          refine z_eq (i := 59) (v := 62) rfl ⟨by omega, by omega⟩ (fun h99 => absurd h99 (by omega)) (fun h100 => ?_)
          refine r_const (i := 60) (u := 1) (z := 1) rfl rfl ?_
          refine r_goto (i := 61) (v := 63) rfl ?_
          refine r_load (i := 63) (u := 0) (w := 2) rfl rfl rfl ?_
          refine r_load (i := 64) (u := 4) (w := 0) rfl rfl rfl ?_
          refine r_const (i := 65) (u := 2) (z := 2) rfl rfl ?_
          refine r_iadd (i := 66) rfl ?_
          refine r_scA (i := 67) hG rfl (by omega) (by omega) fun h101 => ?_
          have h101 : Rg (sc (i + 2).toNat) := h101
          refine r_load (i := 68) (u := 0) (w := 2) rfl rfl rfl ?_
          refine r_load (i := 69) (u := 4) (w := 0) rfl rfl rfl ?_
          refine r_const (i := 70) (u := 3) (z := 3) rfl rfl ?_
          refine r_iadd (i := 71) rfl ?_
          refine r_scA (i := 72) hG rfl (by omega) (by omega) fun h102 => ?_
          have h102 : Rg (sc (i + 3).toNat) := h102
          refine r_load (i := 73) (u := 0) (w := 2) rfl rfl rfl ?_
          refine r_load (i := 74) (u := 4) (w := 0) rfl rfl rfl ?_
          refine r_const (i := 75) (u := 4) (z := 4) rfl rfl ?_
          refine r_iadd (i := 76) rfl ?_
          refine r_scA (i := 77) hG rfl (by omega) (by omega) fun h103 => ?_
          have h103 : Rg (sc (i + 4).toNat) := h103
          refine r_call (i := 78) (u := 11) (v := 259) (w := 0) (b := 0) (na := 1541) (C2 := xC259) (as := [(2, 43), vi 1, vi (sc (i + 2).toNat), vi (sc (i + 3).toNat), vi (sc (i + 4).toNat)]) (s := []) rfl rfl rfl rfl rfl rfl rfl (sp259 (b := 1) (bits := sc (i + 2).toNat) (p := sc (i + 3).toNat) (up := sc (i + 4).toNat) hI94 ⟨by omega, by omega⟩ ⟨by omega, by omega⟩ ⟨by omega, by omega⟩ ⟨by omega, by omega⟩   (by omega)) (fun r104 S105 hq106 => ?_)
          obtain ⟨z107, rfl, h108, h109, mq110, hI111, hF112, hR113⟩ := hq106
          have e114 := RMex.fr e96 hF112 rfl rfl
          have e115 := RThx.fr e97 hF112 rfl rfl
          have e116 := N23x.fr e92 hF112 hR113 rfl rfl rfl
          have e117 := CRx.fr e93 hF112 rfl rfl
          have e118 := wRM_rm rm89 hR113
          have e119 := RSx.fr rs9 hF112 rfl rfl
          refine Or.inr (Or.inl ⟨rfl, ?_⟩)
          have rt9 := (RT_type e_RT (by omega) (Int.le_trans (by decide) (hI.f tf1_7).1) ht90 hF95 rfl rfl mq110 hF112 rfl rfl).1
          have rk9 := (RT_type e_RT (by omega) (Int.le_trans (by decide) (hI.f tf1_7).1) ht90 hF95 rfl rfl mq110 hF112 rfl rfl).2.1
          have ro9 := (RT_type e_RT (by omega) (Int.le_trans (by decide) (hI.f tf1_7).1) ht90 hF95 rfl rfl mq110 hF112 rfl rfl).2.2
          refine r_store (i := 79) (u := 6) (w := 0) (L1 := [some ((6, 0)), some ((2, 0)), some ((2, 43)), some ((2, 81)), some (vi i), some (vi z86), some (vi z107)]) rfl rfl rfl rfl ?_
          refine r_goto (i := 80) (v := 643) rfl ?_
          refine r_iinc (i := 643) (u := 10) (v := 4) (s := 10) (L1 := [some ((6, 0)), some ((2, 0)), some ((2, 43)), some ((2, 81)), some (vi (i + 10)), some (vi z86), some (vi z107)]) rfl rfl rfl rfl rfl ?_
          refine r_goto (i := 644) (v := 13) rfl ?_
          refine yT_drop (L1 := [some ((6, 0)), some ((2, 0)), some ((2, 43)), some ((2, 81)), some (vi (i + 10)), none, none]) rfl ?_
          exact ih S105 hI111 e116 e117 rt9 e114 e119 e115 (i + 10) ⟨by omega, by omega⟩ (by exact wRM_le e118 (by omega)) (by omega)
      · refine r_swK (i := 24) (u := 1) (v := 643) (k := 1) (t := 81) rfl rfl h6 (by decide) (by decide) rfl ?_
        refine r_load (i := 81) (u := 1) (w := 2) rfl rfl rfl ?_
        refine r_load (i := 82) (u := 0) (w := 2) rfl rfl rfl ?_
        refine r_load (i := 83) (u := 4) (w := 0) rfl rfl rfl ?_
        refine r_const (i := 84) (u := 1) (z := 1) rfl rfl ?_
        refine r_iadd (i := 85) rfl ?_
        refine r_scA (i := 86) hG rfl (by omega) (by omega) fun h120 => ?_
        have h120 : Rg (sc (i + 1).toNat) := h120
        refine r_load (i := 87) (u := 0) (w := 2) rfl rfl rfl ?_
        refine r_load (i := 88) (u := 4) (w := 0) rfl rfl rfl ?_
        refine r_const (i := 89) (u := 2) (z := 2) rfl rfl ?_
        refine r_iadd (i := 90) rfl ?_
        refine r_scA (i := 91) hG rfl (by omega) (by omega) fun h121 => ?_
        have h121 : Rg (sc (i + 2).toNat) := h121
        refine r_call (i := 92) (u := 65535) (v := 176) (w := 0) (b := 2) (na := 1027) (C2 := xC176) (as := [(2, 0), vi (sc (i + 1).toNat), vi (sc (i + 2).toNat)]) (s := []) rfl rfl rfl rfl rfl rfl rfl (sp176 (p0 := sc (i + 1).toNat) (p1 := sc (i + 2).toNat) (kR := 5199 - i) hI ⟨by omega, by omega⟩ ⟨by omega, by omega⟩ (by exact wRM_le q_0 (by omega)) (by omega) e_N23 e_CR (by omega)) (fun r122 S123 hq124 => ?_)
        obtain ⟨z125, rfl, h126, h127, rm128, him129, e130, e131, hI132, hF133⟩ := hq124
        have e134 := RTx.fr e_RT hF133 rfl rfl
        have e135 := RMex.fr e_RMe hF133 rfl rfl
        have e136 := RThx.fr e_RTh hF133 rfl rfl
        refine Or.inr (Or.inl ⟨rfl, ?_⟩)
        refine r_store (i := 93) (u := 5) (w := 0) (L1 := [some ((6, 0)), some ((2, 0)), some ((2, 43)), some ((2, 81)), some (vi i), some (vi z125), none]) rfl rfl rfl rfl ?_
        refine r_load (i := 94) (u := 2) (w := 2) rfl rfl rfl ?_
        refine r_load (i := 95) (u := 0) (w := 2) rfl rfl rfl ?_
        refine r_load (i := 96) (u := 4) (w := 0) rfl rfl rfl ?_
        refine r_const (i := 97) (u := 1) (z := 1) rfl rfl ?_
        refine r_iadd (i := 98) rfl ?_
        refine r_scA (i := 99) hG rfl (by omega) (by omega) fun h137 => ?_
        have h137 : Rg (sc (i + 1).toNat) := h137
        refine r_load (i := 100) (u := 0) (w := 2) rfl rfl rfl ?_
        refine r_load (i := 101) (u := 4) (w := 0) rfl rfl rfl ?_
        refine r_const (i := 102) (u := 2) (z := 2) rfl rfl ?_
        refine r_iadd (i := 103) rfl ?_
        refine r_scA (i := 104) hG rfl (by omega) (by omega) fun h138 => ?_
        have h138 : Rg (sc (i + 2).toNat) := h138
        refine r_call (i := 105) (u := 11) (v := 206) (w := 0) (b := 0) (na := 1283) (C2 := xC206) (as := [(2, 43), vi (sc (i + 1).toNat), vi (sc (i + 2).toNat)]) (s := []) rfl rfl rfl rfl rfl rfl rfl (sp206 (t := sc (i + 1).toNat) (f := sc (i + 2).toNat) hI132 ⟨by omega, by omega⟩ ⟨by omega, by omega⟩   (by omega)) (fun r139 S140 hq141 => ?_)
        obtain ⟨rfl, mi142, hI143, hF144, hR145⟩ := hq141
        have e146 := RTx.fr e134 hF144 rfl rfl
        have e147 := RMex.fr e135 hF144 rfl rfl
        have e148 := RThx.fr e136 hF144 rfl rfl
        have e149 := N23x.fr e130 hF144 hR145 rfl rfl rfl
        have e150 := CRx.fr e131 hF144 rfl rfl
        have e151 := wRM_rm rm128 hR145
        refine Or.inl ⟨rfl, ?_⟩
        have rs9 := (RS_impl e_RT e_RS hI.m3 (fun j => hI.a ta7 j) (hI.f tf1_7).2 him129 hF133 rfl rfl mi142 hF144 rfl rfl).1
        have rk9 := (RS_impl e_RT e_RS hI.m3 (fun j => hI.a ta7 j) (hI.f tf1_7).2 him129 hF133 rfl rfl mi142 hF144 rfl rfl).2
        refine r_goto (i := 106) (v := 643) rfl ?_
        refine r_iinc (i := 643) (u := 10) (v := 4) (s := 10) (L1 := [some ((6, 0)), some ((2, 0)), some ((2, 43)), some ((2, 81)), some (vi (i + 10)), some (vi z125), none]) rfl rfl rfl rfl rfl ?_
        refine r_goto (i := 644) (v := 13) rfl ?_
        refine yT_drop (L1 := [some ((6, 0)), some ((2, 0)), some ((2, 43)), some ((2, 81)), some (vi (i + 10)), none, none]) rfl ?_
        exact ih S140 hI143 e149 e150 e146 e147 rs9 e148 (i + 10) ⟨by omega, by omega⟩ (by exact wRM_le e151 (by omega)) (by omega)
      · refine r_swK (i := 24) (u := 1) (v := 643) (k := 2) (t := 107) rfl rfl h7 (by decide) (by decide) rfl ?_
        refine r_load (i := 107) (u := 1) (w := 2) rfl rfl rfl ?_
        refine r_load (i := 108) (u := 0) (w := 2) rfl rfl rfl ?_
        refine r_load (i := 109) (u := 4) (w := 0) rfl rfl rfl ?_
        refine r_const (i := 110) (u := 1) (z := 1) rfl rfl ?_
        refine r_iadd (i := 111) rfl ?_
        refine r_scA (i := 112) hG rfl (by omega) (by omega) fun h152 => ?_
        have h152 : Rg (sc (i + 1).toNat) := h152
        refine r_load (i := 113) (u := 0) (w := 2) rfl rfl rfl ?_
        refine r_load (i := 114) (u := 4) (w := 0) rfl rfl rfl ?_
        refine r_const (i := 115) (u := 2) (z := 2) rfl rfl ?_
        refine r_iadd (i := 116) rfl ?_
        refine r_scA (i := 117) hG rfl (by omega) (by omega) fun h153 => ?_
        have h153 : Rg (sc (i + 2).toNat) := h153
        refine r_load (i := 118) (u := 0) (w := 2) rfl rfl rfl ?_
        refine r_load (i := 119) (u := 4) (w := 0) rfl rfl rfl ?_
        refine r_const (i := 120) (u := 3) (z := 3) rfl rfl ?_
        refine r_iadd (i := 121) rfl ?_
        refine r_scA (i := 122) hG rfl (by omega) (by omega) fun h154 => ?_
        have h154 : Rg (sc (i + 3).toNat) := h154
        refine r_load (i := 123) (u := 0) (w := 2) rfl rfl rfl ?_
        refine r_load (i := 124) (u := 4) (w := 0) rfl rfl rfl ?_
        refine r_const (i := 125) (u := 4) (z := 4) rfl rfl ?_
        refine r_iadd (i := 126) rfl ?_
        refine r_scA (i := 127) hG rfl (by omega) (by omega) fun h155 => ?_
        have h155 : Rg (sc (i + 4).toNat) := h155
        refine r_load (i := 128) (u := 0) (w := 2) rfl rfl rfl ?_
        refine r_load (i := 129) (u := 4) (w := 0) rfl rfl rfl ?_
        refine r_const (i := 130) (u := 5) (z := 5) rfl rfl ?_
        refine r_iadd (i := 131) rfl ?_
        refine r_scA (i := 132) hG rfl (by omega) (by omega) fun h156 => ?_
        have h156 : Rg (sc (i + 5).toNat) := h156
        refine r_load (i := 133) (u := 3) (w := 2) rfl rfl rfl ?_
        refine r_call (i := 134) (u := 65535) (v := 177) (w := 0) (b := 2) (na := 2055) (C2 := xC177) (as := [(2, 0), vi (sc (i + 1).toNat), vi (sc (i + 2).toNat), vi (sc (i + 3).toNat), vi (sc (i + 4).toNat), vi (sc (i + 5).toNat), (2, 81)]) (s := []) rfl rfl rfl rfl rfl rfl rfl (sp177 (p0 := sc (i + 1).toNat) (p1 := sc (i + 2).toNat) (p2 := sc (i + 3).toNat) (p3 := sc (i + 4).toNat) (p4 := sc (i + 5).toNat) (kR := 5199 - i) hI ⟨by omega, by omega⟩ ⟨by omega, by omega⟩ ⟨by omega, by omega⟩ ⟨by omega, by omega⟩ ⟨by omega, by omega⟩ (by exact wRM_le q_0 (by omega)) (by omega) e_N23 e_CR (by omega)) (fun r157 S158 hq159 => ?_)
        obtain ⟨z160, rfl, h161, h162, rm163, hme164, e165, e166, hI167, hF168⟩ := hq159
        have e169 := RTx.fr e_RT hF168 rfl rfl
        have e170 := RSx.fr e_RS hF168 rfl rfl
        have e171 := RThx.fr e_RTh hF168 rfl rfl
        refine Or.inr (Or.inl ⟨rfl, ?_⟩)
        refine r_store (i := 135) (u := 5) (w := 0) (L1 := [some ((6, 0)), some ((2, 0)), some ((2, 43)), some ((2, 81)), some (vi i), some (vi z160), none]) rfl rfl rfl rfl ?_
        refine r_load (i := 136) (u := 2) (w := 2) rfl rfl rfl ?_
        refine r_load (i := 137) (u := 0) (w := 2) rfl rfl rfl ?_
        refine r_load (i := 138) (u := 4) (w := 0) rfl rfl rfl ?_
        refine r_const (i := 139) (u := 1) (z := 1) rfl rfl ?_
        refine r_iadd (i := 140) rfl ?_
        refine r_scA (i := 141) hG rfl (by omega) (by omega) fun h172 => ?_
        have h172 : Rg (sc (i + 1).toNat) := h172
        refine r_load (i := 142) (u := 0) (w := 2) rfl rfl rfl ?_
        refine r_load (i := 143) (u := 4) (w := 0) rfl rfl rfl ?_
        refine r_const (i := 144) (u := 2) (z := 2) rfl rfl ?_
        refine r_iadd (i := 145) rfl ?_
        refine r_scA (i := 146) hG rfl (by omega) (by omega) fun h173 => ?_
        have h173 : Rg (sc (i + 2).toNat) := h173
        refine r_load (i := 147) (u := 0) (w := 2) rfl rfl rfl ?_
        refine r_load (i := 148) (u := 4) (w := 0) rfl rfl rfl ?_
        refine r_const (i := 149) (u := 3) (z := 3) rfl rfl ?_
        refine r_iadd (i := 150) rfl ?_
        refine r_scA (i := 151) hG rfl (by omega) (by omega) fun h174 => ?_
        have h174 : Rg (sc (i + 3).toNat) := h174
        refine r_load (i := 152) (u := 0) (w := 2) rfl rfl rfl ?_
        refine r_load (i := 153) (u := 4) (w := 0) rfl rfl rfl ?_
        refine r_const (i := 154) (u := 4) (z := 4) rfl rfl ?_
        refine r_iadd (i := 155) rfl ?_
        refine r_scA (i := 156) hG rfl (by omega) (by omega) fun h175 => ?_
        have h175 : Rg (sc (i + 4).toNat) := h175
        refine r_load (i := 157) (u := 0) (w := 2) rfl rfl rfl ?_
        refine r_load (i := 158) (u := 4) (w := 0) rfl rfl rfl ?_
        refine r_const (i := 159) (u := 5) (z := 5) rfl rfl ?_
        refine r_iadd (i := 160) rfl ?_
        refine r_scA (i := 161) hG rfl (by omega) (by omega) fun h176 => ?_
        have h176 : Rg (sc (i + 5).toNat) := h176
        refine r_call (i := 162) (u := 11) (v := 220) (w := 0) (b := 0) (na := 1542) (C2 := xC220) (as := [(2, 43), vi (sc (i + 1).toNat), vi (sc (i + 2).toNat), vi (sc (i + 3).toNat), vi (sc (i + 4).toNat), vi (sc (i + 5).toNat)]) (s := []) rfl rfl rfl rfl rfl rfl rfl (sp220 (t := sc (i + 1).toNat) (w0 := sc (i + 2).toNat) (bits := sc (i + 3).toNat) (al := sc (i + 4).toNat) (back := sc (i + 5).toNat) hI167 ⟨by omega, by omega⟩ ⟨by omega, by omega⟩ ⟨by omega, by omega⟩ ⟨by omega, by omega⟩ ⟨by omega, by omega⟩  e166 (by omega)) (fun r177 S178 hq179 => ?_)
        obtain ⟨z180, rfl, h181, h182, mq183, e184, hI185, hF186, hR187⟩ := hq179
        have e188 := RTx.fr e169 hF186 rfl rfl
        have e189 := RSx.fr e170 hF186 rfl rfl
        have e190 := RThx.fr e171 hF186 rfl rfl
        have e191 := N23x.fr e165 hF186 hR187 rfl rfl rfl
        have e192 := wRM_rm rm163 hR187
        refine Or.inr (Or.inl ⟨rfl, ?_⟩)
        have rm9 := (RMe_method e_RT e_RMe hme164 hF168 rfl rfl mq183 hF186 rfl rfl).1
        have rk9 := (RMe_method e_RT e_RMe hme164 hF168 rfl rfl mq183 hF186 rfl rfl).2.1
        have ro9 := (RMe_method e_RT e_RMe hme164 hF168 rfl rfl mq183 hF186 rfl rfl).2.2
        refine r_store (i := 163) (u := 6) (w := 0) (L1 := [some ((6, 0)), some ((2, 0)), some ((2, 43)), some ((2, 81)), some (vi i), some (vi z160), some (vi z180)]) rfl rfl rfl rfl ?_
        refine r_goto (i := 164) (v := 643) rfl ?_
        refine r_iinc (i := 643) (u := 10) (v := 4) (s := 10) (L1 := [some ((6, 0)), some ((2, 0)), some ((2, 43)), some ((2, 81)), some (vi (i + 10)), some (vi z160), some (vi z180)]) rfl rfl rfl rfl rfl ?_
        refine r_goto (i := 644) (v := 13) rfl ?_
        refine yT_drop (L1 := [some ((6, 0)), some ((2, 0)), some ((2, 43)), some ((2, 81)), some (vi (i + 10)), none, none]) rfl ?_
        exact ih S178 hI185 e191 e184 e188 rm9 e189 e190 (i + 10) ⟨by omega, by omega⟩ (by exact wRM_le e192 (by omega)) (by omega)
      · refine r_swK (i := 24) (u := 1) (v := 643) (k := 3) (t := 165) rfl rfl h8 (by decide) (by decide) rfl ?_
        refine r_load (i := 165) (u := 1) (w := 2) rfl rfl rfl ?_
        refine r_load (i := 166) (u := 0) (w := 2) rfl rfl rfl ?_
        refine r_load (i := 167) (u := 4) (w := 0) rfl rfl rfl ?_
        refine r_const (i := 168) (u := 1) (z := 1) rfl rfl ?_
        refine r_iadd (i := 169) rfl ?_
        refine r_scA (i := 170) hG rfl (by omega) (by omega) fun h193 => ?_
        have h193 : Rg (sc (i + 1).toNat) := h193
        refine r_load (i := 171) (u := 0) (w := 2) rfl rfl rfl ?_
        refine r_load (i := 172) (u := 4) (w := 0) rfl rfl rfl ?_
        refine r_const (i := 173) (u := 2) (z := 2) rfl rfl ?_
        refine r_iadd (i := 174) rfl ?_
        refine r_scA (i := 175) hG rfl (by omega) (by omega) fun h194 => ?_
        have h194 : Rg (sc (i + 2).toNat) := h194
        refine r_call (i := 176) (u := 65535) (v := 178) (w := 0) (b := 2) (na := 1027) (C2 := xC178) (as := [(2, 0), vi (sc (i + 1).toNat), vi (sc (i + 2).toNat)]) (s := []) rfl rfl rfl rfl rfl rfl rfl (sp178 (p0 := sc (i + 1).toNat) (p1 := sc (i + 2).toNat) (kR := 5199 - i) hI ⟨by omega, by omega⟩ ⟨by omega, by omega⟩ (by exact wRM_le q_0 (by omega)) (by omega) e_N23 e_CR (by omega)) (fun r195 S196 hq197 => ?_)
        obtain ⟨z198, rfl, h199, h200, rm201, hth202, e203, e204, hI205, hF206⟩ := hq197
        have e207 := RTx.fr e_RT hF206 rfl rfl
        have e208 := RMex.fr e_RMe hF206 rfl rfl
        have e209 := RSx.fr e_RS hF206 rfl rfl
        refine Or.inr (Or.inl ⟨rfl, ?_⟩)
        refine r_store (i := 177) (u := 5) (w := 0) (L1 := [some ((6, 0)), some ((2, 0)), some ((2, 43)), some ((2, 81)), some (vi i), some (vi z198), none]) rfl rfl rfl rfl ?_
        refine r_load (i := 178) (u := 2) (w := 2) rfl rfl rfl ?_
        refine r_load (i := 179) (u := 0) (w := 2) rfl rfl rfl ?_
        refine r_load (i := 180) (u := 4) (w := 0) rfl rfl rfl ?_
        refine r_const (i := 181) (u := 1) (z := 1) rfl rfl ?_
        refine r_iadd (i := 182) rfl ?_
        refine r_scA (i := 183) hG rfl (by omega) (by omega) fun h210 => ?_
        have h210 : Rg (sc (i + 1).toNat) := h210
        refine r_load (i := 184) (u := 0) (w := 2) rfl rfl rfl ?_
        refine r_load (i := 185) (u := 4) (w := 0) rfl rfl rfl ?_
        refine r_const (i := 186) (u := 2) (z := 2) rfl rfl ?_
        refine r_iadd (i := 187) rfl ?_
        refine r_scA (i := 188) hG rfl (by omega) (by omega) fun h211 => ?_
        have h211 : Rg (sc (i + 2).toNat) := h211
        refine r_call (i := 189) (u := 11) (v := 255) (w := 0) (b := 0) (na := 1283) (C2 := xC255) (as := [(2, 43), vi (sc (i + 1).toNat), vi (sc (i + 2).toNat)]) (s := []) rfl rfl rfl rfl rfl rfl rfl (sp255 (m := sc (i + 1).toNat) (t := sc (i + 2).toNat) hI205 ⟨by omega, by omega⟩ ⟨by omega, by omega⟩   (by omega)) (fun r212 S213 hq214 => ?_)
        obtain ⟨rfl, mt215, hI216, hF217, hR218⟩ := hq214
        have e219 := RTx.fr e207 hF217 rfl rfl
        have e220 := RMex.fr e208 hF217 rfl rfl
        have e221 := RSx.fr e209 hF217 rfl rfl
        have e222 := N23x.fr e203 hF217 hR218 rfl rfl rfl
        have e223 := CRx.fr e204 hF217 rfl rfl
        have e224 := wRM_rm rm201 hR218
        refine Or.inl ⟨rfl, ?_⟩
        have rt9 := (RTh_thr e_RT e_RS e_RMe e_RTh hI.m3 hth202 hF206 rfl rfl mt215 hF217 rfl).1
        have rk9 := (RTh_thr e_RT e_RS e_RMe e_RTh hI.m3 hth202 hF206 rfl rfl mt215 hF217 rfl).2
        refine r_load (i := 190) (u := 2) (w := 2) rfl rfl rfl ?_
        have h225 := hI216.f tf43_0
        refine r_call (i := 191) (u := 11) (v := 256) (w := 0) (b := 0) (na := 257) (C2 := xC256) (as := [(2, 43)]) (s := []) rfl rfl rfl rfl rfl rfl rfl (sp256  hI216    (by omega)) (fun r226 S227 hq228 => ?_)
        obtain ⟨z229, rfl, h230, h231, h232, rfl⟩ := hq228
        refine Or.inr (Or.inl ⟨rfl, ?_⟩)
        refine r_load (i := 192) (u := 5) (w := 0) rfl rfl rfl ?_
        refine c_eq (i := 193) (v := 196) rfl ⟨by omega, by omega⟩ ⟨by omega, by omega⟩ (fun h233 => ?_) (fun h234 => ?_)
        · refine r_goto (i := 196) (v := 643) rfl ?_
          refine r_iinc (i := 643) (u := 10) (v := 4) (s := 10) (L1 := [some ((6, 0)), some ((2, 0)), some ((2, 43)), some ((2, 81)), some (vi (i + 10)), some (vi z198), none]) rfl rfl rfl rfl rfl ?_
          refine r_goto (i := 644) (v := 13) rfl ?_
          refine yT_drop (L1 := [some ((6, 0)), some ((2, 0)), some ((2, 43)), some ((2, 81)), some (vi (i + 10)), none, none]) rfl ?_
          exact ih S213 hI216 e222 e223 e219 e220 e221 rt9 (i + 10) ⟨by omega, by omega⟩ (by exact wRM_le e224 (by omega)) (by omega)
        · refine r_const (i := 194) (u := 0) (z := 0) rfl rfl ?_
          exact r_retZ (i := 195) rfl (by omega) (by omega) ⟨0, rfl, by omega, by omega⟩
      · refine r_swK (i := 24) (u := 1) (v := 643) (k := 4) (t := 197) rfl rfl h9 (by decide) (by decide) rfl ?_
        refine r_load (i := 197) (u := 1) (w := 2) rfl rfl rfl ?_
        refine r_load (i := 198) (u := 0) (w := 2) rfl rfl rfl ?_
        refine r_load (i := 199) (u := 4) (w := 0) rfl rfl rfl ?_
        refine r_const (i := 200) (u := 1) (z := 1) rfl rfl ?_
        refine r_iadd (i := 201) rfl ?_
        refine r_scA (i := 202) hG rfl (by omega) (by omega) fun h235 => ?_
        have h235 : Rg (sc (i + 1).toNat) := h235
        refine r_load (i := 203) (u := 0) (w := 2) rfl rfl rfl ?_
        refine r_load (i := 204) (u := 4) (w := 0) rfl rfl rfl ?_
        refine r_const (i := 205) (u := 2) (z := 2) rfl rfl ?_
        refine r_iadd (i := 206) rfl ?_
        refine r_scA (i := 207) hG rfl (by omega) (by omega) fun h236 => ?_
        have h236 : Rg (sc (i + 2).toNat) := h236
        have h237 := hI.f tf1_7
        refine r_call (i := 208) (u := 0) (v := 12) (w := 0) (b := 0) (na := 771) (C2 := xC12) (as := [(2, 0), vi (sc (i + 1).toNat), vi (sc (i + 2).toNat)]) (s := []) rfl rfl rfl rfl rfl rfl rfl (sp12 (t := sc (i + 1).toNat) (o := sc (i + 2).toNat) hI ⟨by omega, by omega⟩ ⟨by omega, by omega⟩   (by omega)) (fun r238 S239 hq240 => ?_)
        obtain ⟨z241, rfl, h242, h243, cs244, rfl⟩ := hq240
        refine Or.inr (Or.inl ⟨rfl, ?_⟩)
        refine r_pop (i := 209) rfl rfl ?_
        refine r_load (i := 210) (u := 2) (w := 2) rfl rfl rfl ?_
        refine r_load (i := 211) (u := 0) (w := 2) rfl rfl rfl ?_
        refine r_load (i := 212) (u := 4) (w := 0) rfl rfl rfl ?_
        refine r_const (i := 213) (u := 1) (z := 1) rfl rfl ?_
        refine r_iadd (i := 214) rfl ?_
        refine r_scA (i := 215) hG rfl (by omega) (by omega) fun h245 => ?_
        have h245 : Rg (sc (i + 1).toNat) := h245
        refine r_load (i := 216) (u := 0) (w := 2) rfl rfl rfl ?_
        refine r_load (i := 217) (u := 4) (w := 0) rfl rfl rfl ?_
        refine r_const (i := 218) (u := 2) (z := 2) rfl rfl ?_
        refine r_iadd (i := 219) rfl ?_
        refine r_scA (i := 220) hG rfl (by omega) (by omega) fun h246 => ?_
        have h246 : Rg (sc (i + 2).toNat) := h246
        have h247 := hI.f tf43_1
        refine r_call (i := 221) (u := 11) (v := 211) (w := 0) (b := 0) (na := 771) (C2 := xC211) (as := [(2, 43), vi (sc (i + 1).toNat), vi (sc (i + 2).toNat)]) (s := []) rfl rfl rfl rfl rfl rfl rfl (sp211 (t := sc (i + 1).toNat) (o := sc (i + 2).toNat) hI ⟨by omega, by omega⟩ ⟨by omega, by omega⟩   (by omega)) (fun r248 S249 hq250 => ?_)
        obtain ⟨z251, rfl, h252, h253, ms254, hI255, hF256, hR257⟩ := hq250
        have e258 := N23x.fr e_N23 hF256 hR257 rfl rfl rfl
        have e259 := CRx.fr e_CR hF256 rfl rfl
        have e260 := RTx.fr e_RT hF256 rfl rfl
        have e261 := RMex.fr e_RMe hF256 rfl rfl
        have e262 := RSx.fr e_RS hF256 rfl rfl
        have e263 := RThx.fr e_RTh hF256 rfl rfl
        have e264 := wRM_rm q_0 hR257
        refine Or.inr (Or.inl ⟨rfl, ?_⟩)
        have eq9 := RS_sub e_RT e_RS hI.m3 (hI.f tf1_7).2 cs244 ms254 rfl (fun _ => rfl) (fun _ => rfl) (fun _ => rfl)
        refine r_pop (i := 222) rfl rfl ?_
        refine r_goto (i := 223) (v := 643) rfl ?_
        refine r_iinc (i := 643) (u := 10) (v := 4) (s := 10) (L1 := [some ((6, 0)), some ((2, 0)), some ((2, 43)), some ((2, 81)), some (vi (i + 10)), none, none]) rfl rfl rfl rfl rfl ?_
        refine r_goto (i := 644) (v := 13) rfl ?_
        exact ih S249 hI255 e258 e259 e260 e261 e262 e263 (i + 10) ⟨by omega, by omega⟩ (by exact wRM_le e264 (by omega)) (by omega)
      · refine r_swK (i := 24) (u := 1) (v := 643) (k := 5) (t := 224) rfl rfl h10 (by decide) (by decide) rfl ?_
        refine r_load (i := 224) (u := 1) (w := 2) rfl rfl rfl ?_
        refine r_load (i := 225) (u := 0) (w := 2) rfl rfl rfl ?_
        refine r_load (i := 226) (u := 4) (w := 0) rfl rfl rfl ?_
        refine r_const (i := 227) (u := 1) (z := 1) rfl rfl ?_
        refine r_iadd (i := 228) rfl ?_
        refine r_scA (i := 229) hG rfl (by omega) (by omega) fun h265 => ?_
        have h265 : Rg (sc (i + 1).toNat) := h265
        refine r_load (i := 230) (u := 0) (w := 2) rfl rfl rfl ?_
        refine r_load (i := 231) (u := 4) (w := 0) rfl rfl rfl ?_
        refine r_const (i := 232) (u := 2) (z := 2) rfl rfl ?_
        refine r_iadd (i := 233) rfl ?_
        refine r_scA (i := 234) hG rfl (by omega) (by omega) fun h266 => ?_
        have h266 : Rg (sc (i + 2).toNat) := h266
        refine r_call (i := 235) (u := 0) (v := 14) (w := 0) (b := 0) (na := 771) (C2 := xC14) (as := [(2, 0), vi (sc (i + 1).toNat), vi (sc (i + 2).toNat)]) (s := []) rfl rfl rfl rfl rfl rfl rfl (sp14 (w0 := sc (i + 1).toNat) (k := sc (i + 2).toNat) hI ⟨by omega, by omega⟩ ⟨by omega, by omega⟩   (by omega)) (fun r267 S268 hq269 => ?_)
        obtain ⟨z270, rfl, h271, h272, h273, hI274, hF275, hR276⟩ := hq269
        have e277 := N23x.fr e_N23 hF275 hR276 rfl rfl rfl
        have e278 := CRx.fr e_CR hF275 rfl rfl
        have e279 := RTx.fr e_RT hF275 rfl rfl
        have e280 := RMex.fr e_RMe hF275 rfl rfl
        have e281 := RSx.fr e_RS hF275 rfl rfl
        have e282 := RThx.fr e_RTh hF275 rfl rfl
        have e283 := wRM_rm q_0 hR276
        refine Or.inr (Or.inl ⟨rfl, ?_⟩)
        refine r_pop (i := 236) rfl rfl ?_
        refine r_load (i := 237) (u := 2) (w := 2) rfl rfl rfl ?_
        refine r_load (i := 238) (u := 0) (w := 2) rfl rfl rfl ?_
        refine r_load (i := 239) (u := 4) (w := 0) rfl rfl rfl ?_
        refine r_const (i := 240) (u := 1) (z := 1) rfl rfl ?_
        refine r_iadd (i := 241) rfl ?_
        refine r_scA (i := 242) hG rfl (by omega) (by omega) fun h284 => ?_
        have h284 : Rg (sc (i + 1).toNat) := h284
        refine r_load (i := 243) (u := 0) (w := 2) rfl rfl rfl ?_
        refine r_load (i := 244) (u := 4) (w := 0) rfl rfl rfl ?_
        refine r_const (i := 245) (u := 2) (z := 2) rfl rfl ?_
        refine r_iadd (i := 246) rfl ?_
        refine r_scA (i := 247) hG rfl (by omega) (by omega) fun h285 => ?_
        have h285 : Rg (sc (i + 2).toNat) := h285
        refine r_call (i := 248) (u := 11) (v := 232) (w := 0) (b := 0) (na := 771) (C2 := xC232) (as := [(2, 43), vi (sc (i + 1).toNat), vi (sc (i + 2).toNat)]) (s := []) rfl rfl rfl rfl rfl rfl rfl (sp232 (w0 := sc (i + 1).toNat) (k := sc (i + 2).toNat) hI274 ⟨by omega, by omega⟩ ⟨by omega, by omega⟩   (by omega)) (fun r286 S287 hq288 => ?_)
        obtain ⟨z289, rfl, h290, h291, h292, hI293, hF294, hR295⟩ := hq288
        have e296 := N23x.fr e277 hF294 hR295 rfl rfl rfl
        have e297 := CRx.fr e278 hF294 rfl rfl
        have e298 := RTx.fr e279 hF294 rfl rfl
        have e299 := RMex.fr e280 hF294 rfl rfl
        have e300 := RSx.fr e281 hF294 rfl rfl
        have e301 := RThx.fr e282 hF294 rfl rfl
        have e302 := wRM_rm e283 hR295
        refine Or.inr (Or.inl ⟨rfl, ?_⟩)
        refine r_pop (i := 249) rfl rfl ?_
        refine r_goto (i := 250) (v := 643) rfl ?_
        refine r_iinc (i := 643) (u := 10) (v := 4) (s := 10) (L1 := [some ((6, 0)), some ((2, 0)), some ((2, 43)), some ((2, 81)), some (vi (i + 10)), none, none]) rfl rfl rfl rfl rfl ?_
        refine r_goto (i := 644) (v := 13) rfl ?_
        exact ih S287 hI293 e296 e297 e298 e299 e300 e301 (i + 10) ⟨by omega, by omega⟩ (by exact wRM_le e302 (by omega)) (by omega)
      · refine r_swK (i := 24) (u := 1) (v := 643) (k := 6) (t := 251) rfl rfl h11 (by decide) (by decide) rfl ?_
        refine r_load (i := 251) (u := 1) (w := 2) rfl rfl rfl ?_
        refine r_load (i := 252) (u := 0) (w := 2) rfl rfl rfl ?_
        refine r_load (i := 253) (u := 4) (w := 0) rfl rfl rfl ?_
        refine r_const (i := 254) (u := 1) (z := 1) rfl rfl ?_
        refine r_iadd (i := 255) rfl ?_
        refine r_scA (i := 256) hG rfl (by omega) (by omega) fun h303 => ?_
        have h303 : Rg (sc (i + 1).toNat) := h303
        refine r_load (i := 257) (u := 0) (w := 2) rfl rfl rfl ?_
        refine r_load (i := 258) (u := 4) (w := 0) rfl rfl rfl ?_
        refine r_const (i := 259) (u := 2) (z := 2) rfl rfl ?_
        refine r_iadd (i := 260) rfl ?_
        refine r_scA (i := 261) hG rfl (by omega) (by omega) fun h304 => ?_
        have h304 : Rg (sc (i + 2).toNat) := h304
        refine r_load (i := 262) (u := 0) (w := 2) rfl rfl rfl ?_
        refine r_load (i := 263) (u := 4) (w := 0) rfl rfl rfl ?_
        refine r_const (i := 264) (u := 3) (z := 3) rfl rfl ?_
        refine r_iadd (i := 265) rfl ?_
        refine r_scA (i := 266) hG rfl (by omega) (by omega) fun h305 => ?_
        have h305 : Rg (sc (i + 3).toNat) := h305
        refine r_load (i := 267) (u := 0) (w := 2) rfl rfl rfl ?_
        refine r_load (i := 268) (u := 4) (w := 0) rfl rfl rfl ?_
        refine r_const (i := 269) (u := 4) (z := 4) rfl rfl ?_
        refine r_iadd (i := 270) rfl ?_
        refine r_scA (i := 271) hG rfl (by omega) (by omega) fun h306 => ?_
        have h306 : Rg (sc (i + 4).toNat) := h306
        refine r_load (i := 272) (u := 3) (w := 2) rfl rfl rfl ?_
        refine r_call (i := 273) (u := 65535) (v := 175) (w := 0) (b := 2) (na := 1798) (C2 := xC175) (as := [(2, 0), vi (sc (i + 1).toNat), vi (sc (i + 2).toNat), vi (sc (i + 3).toNat), vi (sc (i + 4).toNat), (2, 81)]) (s := []) rfl rfl rfl rfl rfl rfl rfl (sp175 (p0 := sc (i + 1).toNat) (p1 := sc (i + 2).toNat) (p2 := sc (i + 3).toNat) (p3 := sc (i + 4).toNat) (kR := 5199 - i) hI ⟨by omega, by omega⟩ ⟨by omega, by omega⟩ ⟨by omega, by omega⟩ ⟨by omega, by omega⟩ (by exact wRM_le q_0 (by omega)) (by omega) e_N23 e_CR (by omega)) (fun r307 S308 hq309 => ?_)
        obtain ⟨z310, rfl, h311, h312, rm313, e314, e315, hI316, hF317⟩ := hq309
        have e318 := RTx.fr e_RT hF317 rfl rfl
        have e319 := RMex.fr e_RMe hF317 rfl rfl
        have e320 := RSx.fr e_RS hF317 rfl rfl
        have e321 := RThx.fr e_RTh hF317 rfl rfl
        refine Or.inr (Or.inl ⟨rfl, ?_⟩)
        refine r_store (i := 274) (u := 5) (w := 0) (L1 := [some ((6, 0)), some ((2, 0)), some ((2, 43)), some ((2, 81)), some (vi i), some (vi z310), none]) rfl rfl rfl rfl ?_
        refine r_load (i := 275) (u := 2) (w := 2) rfl rfl rfl ?_
        refine r_load (i := 276) (u := 0) (w := 2) rfl rfl rfl ?_
        refine r_load (i := 277) (u := 4) (w := 0) rfl rfl rfl ?_
        refine r_const (i := 278) (u := 1) (z := 1) rfl rfl ?_
        refine r_iadd (i := 279) rfl ?_
        refine r_scA (i := 280) hG rfl (by omega) (by omega) fun h322 => ?_
        have h322 : Rg (sc (i + 1).toNat) := h322
        refine r_load (i := 281) (u := 0) (w := 2) rfl rfl rfl ?_
        refine r_load (i := 282) (u := 4) (w := 0) rfl rfl rfl ?_
        refine r_const (i := 283) (u := 2) (z := 2) rfl rfl ?_
        refine r_iadd (i := 284) rfl ?_
        refine r_scA (i := 285) hG rfl (by omega) (by omega) fun h323 => ?_
        have h323 : Rg (sc (i + 2).toNat) := h323
        refine r_load (i := 286) (u := 0) (w := 2) rfl rfl rfl ?_
        refine r_load (i := 287) (u := 4) (w := 0) rfl rfl rfl ?_
        refine r_const (i := 288) (u := 3) (z := 3) rfl rfl ?_
        refine r_iadd (i := 289) rfl ?_
        refine r_scA (i := 290) hG rfl (by omega) (by omega) fun h324 => ?_
        have h324 : Rg (sc (i + 3).toNat) := h324
        refine r_load (i := 291) (u := 0) (w := 2) rfl rfl rfl ?_
        refine r_load (i := 292) (u := 4) (w := 0) rfl rfl rfl ?_
        refine r_const (i := 293) (u := 4) (z := 4) rfl rfl ?_
        refine r_iadd (i := 294) rfl ?_
        refine r_scA (i := 295) hG rfl (by omega) (by omega) fun h325 => ?_
        have h325 : Rg (sc (i + 4).toNat) := h325
        refine r_call (i := 296) (u := 11) (v := 203) (w := 0) (b := 0) (na := 2565) (C2 := xC203) (as := [(2, 43), vi (sc (i + 1).toNat), vi (sc (i + 2).toNat), vi (sc (i + 3).toNat), vi (sc (i + 4).toNat)]) (s := []) rfl rfl rfl rfl rfl rfl rfl (sp203 (c := sc (i + 1).toNat) (a := sc (i + 2).toNat) (b := sc (i + 3).toNat) (e := sc (i + 4).toNat) hI316 ⟨by omega, by omega⟩ ⟨by omega, by omega⟩ ⟨by omega, by omega⟩ ⟨by omega, by omega⟩  e315 (by omega)) (fun r326 S327 hq328 => ?_)
        obtain ⟨z329, rfl, h330, h331, e332, hI333, hF334, hR335⟩ := hq328
        have e336 := RTx.fr e318 hF334 rfl rfl
        have e337 := RMex.fr e319 hF334 rfl rfl
        have e338 := RSx.fr e320 hF334 rfl rfl
        have e339 := RThx.fr e321 hF334 rfl rfl
        have e340 := N23x.fr e314 hF334 hR335 rfl rfl rfl
        have e341 := wRM_rm rm313 hR335
        refine Or.inr (Or.inl ⟨rfl, ?_⟩)
        refine r_store (i := 297) (u := 6) (w := 0) (L1 := [some ((6, 0)), some ((2, 0)), some ((2, 43)), some ((2, 81)), some (vi i), some (vi z310), some (vi z329)]) rfl rfl rfl rfl ?_
        refine r_goto (i := 298) (v := 643) rfl ?_
        refine r_iinc (i := 643) (u := 10) (v := 4) (s := 10) (L1 := [some ((6, 0)), some ((2, 0)), some ((2, 43)), some ((2, 81)), some (vi (i + 10)), some (vi z310), some (vi z329)]) rfl rfl rfl rfl rfl ?_
        refine r_goto (i := 644) (v := 13) rfl ?_
        refine yT_drop (L1 := [some ((6, 0)), some ((2, 0)), some ((2, 43)), some ((2, 81)), some (vi (i + 10)), none, none]) rfl ?_
        exact ih S327 hI333 e340 e332 e336 e337 e338 e339 (i + 10) ⟨by omega, by omega⟩ (by exact wRM_le e341 (by omega)) (by omega)
      · refine r_swK (i := 24) (u := 1) (v := 643) (k := 7) (t := 299) rfl rfl h12 (by decide) (by decide) rfl ?_
        refine r_load (i := 299) (u := 1) (w := 2) rfl rfl rfl ?_
        refine r_call (i := 300) (u := 0) (v := 19) (w := 0) (b := 0) (na := 257) (C2 := xC19) (as := [(2, 0)]) (s := []) rfl rfl rfl rfl rfl rfl rfl (sp19  hI    (by omega)) (fun r342 S343 hq344 => ?_)
        obtain ⟨z345, rfl, h346, h347, rfl⟩ := hq344
        refine Or.inr (Or.inl ⟨rfl, ?_⟩)
        refine r_pop (i := 301) rfl rfl ?_
        refine r_load (i := 302) (u := 2) (w := 2) rfl rfl rfl ?_
        refine r_call (i := 303) (u := 11) (v := 244) (w := 0) (b := 0) (na := 257) (C2 := xC244) (as := [(2, 43)]) (s := []) rfl rfl rfl rfl rfl rfl rfl (sp244  hI    (by omega)) (fun r348 S349 hq350 => ?_)
        obtain ⟨z351, rfl, h352, h353, hI354, hF355, hR356⟩ := hq350
        have e357 := N23x.fr e_N23 hF355 hR356 rfl rfl rfl
        have e358 := CRx.fr e_CR hF355 rfl rfl
        have e359 := RTx.fr e_RT hF355 rfl rfl
        have e360 := RMex.fr e_RMe hF355 rfl rfl
        have e361 := RSx.fr e_RS hF355 rfl rfl
        have e362 := RThx.fr e_RTh hF355 rfl rfl
        have e363 := wRM_rm q_0 hR356
        refine Or.inr (Or.inl ⟨rfl, ?_⟩)
        refine r_pop (i := 304) rfl rfl ?_
        refine r_goto (i := 305) (v := 643) rfl ?_
        refine r_iinc (i := 643) (u := 10) (v := 4) (s := 10) (L1 := [some ((6, 0)), some ((2, 0)), some ((2, 43)), some ((2, 81)), some (vi (i + 10)), none, none]) rfl rfl rfl rfl rfl ?_
        refine r_goto (i := 644) (v := 13) rfl ?_
        exact ih S349 hI354 e357 e358 e359 e360 e361 e362 (i + 10) ⟨by omega, by omega⟩ (by exact wRM_le e363 (by omega)) (by omega)
      · refine r_swK (i := 24) (u := 1) (v := 643) (k := 8) (t := 306) rfl rfl h13 (by decide) (by decide) rfl ?_
        refine r_load (i := 306) (u := 1) (w := 2) rfl rfl rfl ?_
        refine r_load (i := 307) (u := 0) (w := 2) rfl rfl rfl ?_
        refine r_load (i := 308) (u := 4) (w := 0) rfl rfl rfl ?_
        refine r_const (i := 309) (u := 1) (z := 1) rfl rfl ?_
        refine r_iadd (i := 310) rfl ?_
        refine r_scA (i := 311) hG rfl (by omega) (by omega) fun h364 => ?_
        have h364 : Rg (sc (i + 1).toNat) := h364
        refine r_call (i := 312) (u := 0) (v := 18) (w := 0) (b := 0) (na := 514) (C2 := xC18) (as := [(2, 0), vi (sc (i + 1).toNat)]) (s := []) rfl rfl rfl rfl rfl rfl rfl (sp18 (k := sc (i + 1).toNat) hI ⟨by omega, by omega⟩   (by omega)) (fun r365 S366 hq367 => ?_)
        obtain ⟨z368, rfl, h369, h370, rfl⟩ := hq367
        refine Or.inr (Or.inl ⟨rfl, ?_⟩)
        refine r_pop (i := 313) rfl rfl ?_
        refine r_load (i := 314) (u := 2) (w := 2) rfl rfl rfl ?_
        refine r_load (i := 315) (u := 0) (w := 2) rfl rfl rfl ?_
        refine r_load (i := 316) (u := 4) (w := 0) rfl rfl rfl ?_
        refine r_const (i := 317) (u := 1) (z := 1) rfl rfl ?_
        refine r_iadd (i := 318) rfl ?_
        refine r_scA (i := 319) hG rfl (by omega) (by omega) fun h371 => ?_
        have h371 : Rg (sc (i + 1).toNat) := h371
        refine r_call (i := 320) (u := 11) (v := 243) (w := 0) (b := 0) (na := 514) (C2 := xC243) (as := [(2, 43), vi (sc (i + 1).toNat)]) (s := []) rfl rfl rfl rfl rfl rfl rfl (sp243 (k := sc (i + 1).toNat) hI ⟨by omega, by omega⟩   (by omega)) (fun r372 S373 hq374 => ?_)
        obtain ⟨z375, rfl, h376, h377, hI378, hF379, hR380⟩ := hq374
        have e381 := N23x.fr e_N23 hF379 hR380 rfl rfl rfl
        have e382 := CRx.fr e_CR hF379 rfl rfl
        have e383 := RTx.fr e_RT hF379 rfl rfl
        have e384 := RMex.fr e_RMe hF379 rfl rfl
        have e385 := RSx.fr e_RS hF379 rfl rfl
        have e386 := RThx.fr e_RTh hF379 rfl rfl
        have e387 := wRM_rm q_0 hR380
        refine Or.inr (Or.inl ⟨rfl, ?_⟩)
        refine r_pop (i := 321) rfl rfl ?_
        refine r_goto (i := 322) (v := 643) rfl ?_
        refine r_iinc (i := 643) (u := 10) (v := 4) (s := 10) (L1 := [some ((6, 0)), some ((2, 0)), some ((2, 43)), some ((2, 81)), some (vi (i + 10)), none, none]) rfl rfl rfl rfl rfl ?_
        refine r_goto (i := 644) (v := 13) rfl ?_
        exact ih S373 hI378 e381 e382 e383 e384 e385 e386 (i + 10) ⟨by omega, by omega⟩ (by exact wRM_le e387 (by omega)) (by omega)
      · refine r_swK (i := 24) (u := 1) (v := 643) (k := 9) (t := 323) rfl rfl h14 (by decide) (by decide) rfl ?_
        refine r_load (i := 323) (u := 1) (w := 2) rfl rfl rfl ?_
        refine r_load (i := 324) (u := 0) (w := 2) rfl rfl rfl ?_
        refine r_load (i := 325) (u := 4) (w := 0) rfl rfl rfl ?_
        refine r_const (i := 326) (u := 1) (z := 1) rfl rfl ?_
        refine r_iadd (i := 327) rfl ?_
        refine r_scA (i := 328) hG rfl (by omega) (by omega) fun h388 => ?_
        have h388 : Rg (sc (i + 1).toNat) := h388
        refine r_load (i := 329) (u := 0) (w := 2) rfl rfl rfl ?_
        refine r_load (i := 330) (u := 4) (w := 0) rfl rfl rfl ?_
        refine r_const (i := 331) (u := 2) (z := 2) rfl rfl ?_
        refine r_iadd (i := 332) rfl ?_
        refine r_scA (i := 333) hG rfl (by omega) (by omega) fun h389 => ?_
        have h389 : Rg (sc (i + 2).toNat) := h389
        refine r_i2l (i := 334) rfl ⟨by omega, by omega⟩ ?_
        refine r_const (i := 335) (u := 32) (z := 32) rfl rfl ?_
        refine r_lshl (i := 336) rfl ?_
        refine r_load (i := 337) (u := 0) (w := 2) rfl rfl rfl ?_
        refine r_load (i := 338) (u := 4) (w := 0) rfl rfl rfl ?_
        refine r_const (i := 339) (u := 3) (z := 3) rfl rfl ?_
        refine r_iadd (i := 340) rfl ?_
        refine r_scA (i := 341) hG rfl (by omega) (by omega) fun h390 => ?_
        have h390 : Rg (sc (i + 3).toNat) := h390
        refine r_i2l (i := 342) rfl ⟨by omega, by omega⟩ ?_
        refine r_lconst (i := 343) (u := 4294967295) (z := 4294967295) rfl rfl ?_
        refine r_land (i := 344) rfl ?_
        have h391 := @yland_c (sc (i + 3).toNat) 4294967295 (by decide) (by decide)
        refine r_lor (i := 345) rfl ?_
        have h392 := ylor_rl ((sc (i + 2).toNat) * 4294967296) (yland (sc (i + 3).toNat) 4294967295)
        refine r_call (i := 346) (u := 65535) (v := 173) (w := 0) (b := 2) (na := 1283) (C2 := xC173) (as := [(2, 0), vi (sc (i + 1).toNat), vl (ylor ((sc (i + 2).toNat) * 4294967296) (yland (sc (i + 3).toNat) 4294967295))]) (s := []) rfl rfl rfl rfl rfl rfl rfl (sp173 (p0 := sc (i + 1).toNat) (p1 := ylor ((sc (i + 2).toNat) * 4294967296) (yland (sc (i + 3).toNat) 4294967295)) (kR := 5199 - i) hI ⟨by omega, by omega⟩ ⟨by omega, by omega⟩ (by exact wRM_le q_0 (by omega)) (by omega) e_N23 e_CR (by omega)) (fun r393 S394 hq395 => ?_)
        obtain ⟨z396, rfl, h397, h398, rm399, e400, e401, hI402, hF403⟩ := hq395
        have e404 := RTx.fr e_RT hF403 rfl rfl
        have e405 := RMex.fr e_RMe hF403 rfl rfl
        have e406 := RSx.fr e_RS hF403 rfl rfl
        have e407 := RThx.fr e_RTh hF403 rfl rfl
        refine Or.inr (Or.inl ⟨rfl, ?_⟩)
        refine r_store (i := 347) (u := 5) (w := 0) (L1 := [some ((6, 0)), some ((2, 0)), some ((2, 43)), some ((2, 81)), some (vi i), some (vi z396), none]) rfl rfl rfl rfl ?_
        refine r_load (i := 348) (u := 2) (w := 2) rfl rfl rfl ?_
        refine r_load (i := 349) (u := 0) (w := 2) rfl rfl rfl ?_
        refine r_load (i := 350) (u := 4) (w := 0) rfl rfl rfl ?_
        refine r_const (i := 351) (u := 1) (z := 1) rfl rfl ?_
        refine r_iadd (i := 352) rfl ?_
        refine r_scA (i := 353) hG rfl (by omega) (by omega) fun h408 => ?_
        have h408 : Rg (sc (i + 1).toNat) := h408
        refine r_load (i := 354) (u := 0) (w := 2) rfl rfl rfl ?_
        refine r_load (i := 355) (u := 4) (w := 0) rfl rfl rfl ?_
        refine r_const (i := 356) (u := 2) (z := 2) rfl rfl ?_
        refine r_iadd (i := 357) rfl ?_
        refine r_scA (i := 358) hG rfl (by omega) (by omega) fun h409 => ?_
        have h409 : Rg (sc (i + 2).toNat) := h409
        refine r_i2l (i := 359) rfl ⟨by omega, by omega⟩ ?_
        refine r_const (i := 360) (u := 32) (z := 32) rfl rfl ?_
        refine r_lshl (i := 361) rfl ?_
        refine r_load (i := 362) (u := 0) (w := 2) rfl rfl rfl ?_
        refine r_load (i := 363) (u := 4) (w := 0) rfl rfl rfl ?_
        refine r_const (i := 364) (u := 3) (z := 3) rfl rfl ?_
        refine r_iadd (i := 365) rfl ?_
        refine r_scA (i := 366) hG rfl (by omega) (by omega) fun h410 => ?_
        have h410 : Rg (sc (i + 3).toNat) := h410
        refine r_i2l (i := 367) rfl ⟨by omega, by omega⟩ ?_
        refine r_lconst (i := 368) (u := 4294967295) (z := 4294967295) rfl rfl ?_
        refine r_land (i := 369) rfl ?_
        have h411 := @yland_c (sc (i + 3).toNat) 4294967295 (by decide) (by decide)
        refine r_lor (i := 370) rfl ?_
        have h412 := ylor_rl ((sc (i + 2).toNat) * 4294967296) (yland (sc (i + 3).toNat) 4294967295)
        refine r_call (i := 371) (u := 11) (v := 181) (w := 0) (b := 0) (na := 1539) (C2 := xC181) (as := [(2, 43), vi (sc (i + 1).toNat), vl (ylor ((sc (i + 2).toNat) * 4294967296) (yland (sc (i + 3).toNat) 4294967295))]) (s := []) rfl rfl rfl rfl rfl rfl rfl (sp181 (w0 := sc (i + 1).toNat) (v := ylor ((sc (i + 2).toNat) * 4294967296) (yland (sc (i + 3).toNat) 4294967295)) hI402 ⟨by omega, by omega⟩ ⟨by omega, by omega⟩   (by omega)) (fun r413 S414 hq415 => ?_)
        obtain ⟨rfl, hI416, hF417, hR418⟩ := hq415
        have e419 := RTx.fr e404 hF417 rfl rfl
        have e420 := RMex.fr e405 hF417 rfl rfl
        have e421 := RSx.fr e406 hF417 rfl rfl
        have e422 := RThx.fr e407 hF417 rfl rfl
        have e423 := N23x.fr e400 hF417 hR418 rfl rfl rfl
        have e424 := CRx.fr e401 hF417 rfl rfl
        have e425 := wRM_rm rm399 hR418
        refine Or.inl ⟨rfl, ?_⟩
        refine r_goto (i := 372) (v := 643) rfl ?_
        refine r_iinc (i := 643) (u := 10) (v := 4) (s := 10) (L1 := [some ((6, 0)), some ((2, 0)), some ((2, 43)), some ((2, 81)), some (vi (i + 10)), some (vi z396), none]) rfl rfl rfl rfl rfl ?_
        refine r_goto (i := 644) (v := 13) rfl ?_
        refine yT_drop (L1 := [some ((6, 0)), some ((2, 0)), some ((2, 43)), some ((2, 81)), some (vi (i + 10)), none, none]) rfl ?_
        exact ih S414 hI416 e423 e424 e419 e420 e421 e422 (i + 10) ⟨by omega, by omega⟩ (by exact wRM_le e425 (by omega)) (by omega)
      · refine r_swK (i := 24) (u := 1) (v := 643) (k := 10) (t := 373) rfl rfl h15 (by decide) (by decide) rfl ?_
        refine r_load (i := 373) (u := 1) (w := 2) rfl rfl rfl ?_
        refine r_load (i := 374) (u := 0) (w := 2) rfl rfl rfl ?_
        refine r_load (i := 375) (u := 4) (w := 0) rfl rfl rfl ?_
        refine r_const (i := 376) (u := 1) (z := 1) rfl rfl ?_
        refine r_iadd (i := 377) rfl ?_
        refine r_scA (i := 378) hG rfl (by omega) (by omega) fun h426 => ?_
        have h426 : Rg (sc (i + 1).toNat) := h426
        refine r_load (i := 379) (u := 0) (w := 2) rfl rfl rfl ?_
        refine r_load (i := 380) (u := 4) (w := 0) rfl rfl rfl ?_
        refine r_const (i := 381) (u := 2) (z := 2) rfl rfl ?_
        refine r_iadd (i := 382) rfl ?_
        refine r_scA (i := 383) hG rfl (by omega) (by omega) fun h427 => ?_
        have h427 : Rg (sc (i + 2).toNat) := h427
        refine r_i2l (i := 384) rfl ⟨by omega, by omega⟩ ?_
        refine r_const (i := 385) (u := 32) (z := 32) rfl rfl ?_
        refine r_lshl (i := 386) rfl ?_
        refine r_load (i := 387) (u := 0) (w := 2) rfl rfl rfl ?_
        refine r_load (i := 388) (u := 4) (w := 0) rfl rfl rfl ?_
        refine r_const (i := 389) (u := 3) (z := 3) rfl rfl ?_
        refine r_iadd (i := 390) rfl ?_
        refine r_scA (i := 391) hG rfl (by omega) (by omega) fun h428 => ?_
        have h428 : Rg (sc (i + 3).toNat) := h428
        refine r_i2l (i := 392) rfl ⟨by omega, by omega⟩ ?_
        refine r_lconst (i := 393) (u := 4294967295) (z := 4294967295) rfl rfl ?_
        refine r_land (i := 394) rfl ?_
        have h429 := @yland_c (sc (i + 3).toNat) 4294967295 (by decide) (by decide)
        refine r_lor (i := 395) rfl ?_
        have h430 := ylor_rl ((sc (i + 2).toNat) * 4294967296) (yland (sc (i + 3).toNat) 4294967295)
        refine r_load (i := 396) (u := 0) (w := 2) rfl rfl rfl ?_
        refine r_load (i := 397) (u := 4) (w := 0) rfl rfl rfl ?_
        refine r_const (i := 398) (u := 4) (z := 4) rfl rfl ?_
        refine r_iadd (i := 399) rfl ?_
        refine r_scA (i := 400) hG rfl (by omega) (by omega) fun h431 => ?_
        have h431 : Rg (sc (i + 4).toNat) := h431
        refine r_i2l (i := 401) rfl ⟨by omega, by omega⟩ ?_
        refine r_const (i := 402) (u := 32) (z := 32) rfl rfl ?_
        refine r_lshl (i := 403) rfl ?_
        refine r_load (i := 404) (u := 0) (w := 2) rfl rfl rfl ?_
        refine r_load (i := 405) (u := 4) (w := 0) rfl rfl rfl ?_
        refine r_const (i := 406) (u := 5) (z := 5) rfl rfl ?_
        refine r_iadd (i := 407) rfl ?_
        refine r_scA (i := 408) hG rfl (by omega) (by omega) fun h432 => ?_
        have h432 : Rg (sc (i + 5).toNat) := h432
        refine r_i2l (i := 409) rfl ⟨by omega, by omega⟩ ?_
        refine r_lconst (i := 410) (u := 4294967295) (z := 4294967295) rfl rfl ?_
        refine r_land (i := 411) rfl ?_
        have h433 := @yland_c (sc (i + 5).toNat) 4294967295 (by decide) (by decide)
        refine r_lor (i := 412) rfl ?_
        have h434 := ylor_rl ((sc (i + 4).toNat) * 4294967296) (yland (sc (i + 5).toNat) 4294967295)
        refine r_load (i := 413) (u := 0) (w := 2) rfl rfl rfl ?_
        refine r_load (i := 414) (u := 4) (w := 0) rfl rfl rfl ?_
        refine r_const (i := 415) (u := 6) (z := 6) rfl rfl ?_
        refine r_iadd (i := 416) rfl ?_
        refine r_scA (i := 417) hG rfl (by omega) (by omega) fun h435 => ?_
        have h435 : Rg (sc (i + 6).toNat) := h435
        refine r_i2l (i := 418) rfl ⟨by omega, by omega⟩ ?_
        refine r_const (i := 419) (u := 32) (z := 32) rfl rfl ?_
        refine r_lshl (i := 420) rfl ?_
        refine r_load (i := 421) (u := 0) (w := 2) rfl rfl rfl ?_
        refine r_load (i := 422) (u := 4) (w := 0) rfl rfl rfl ?_
        refine r_const (i := 423) (u := 7) (z := 7) rfl rfl ?_
        refine r_iadd (i := 424) rfl ?_
        refine r_scA (i := 425) hG rfl (by omega) (by omega) fun h436 => ?_
        have h436 : Rg (sc (i + 7).toNat) := h436
        refine r_i2l (i := 426) rfl ⟨by omega, by omega⟩ ?_
        refine r_lconst (i := 427) (u := 4294967295) (z := 4294967295) rfl rfl ?_
        refine r_land (i := 428) rfl ?_
        have h437 := @yland_c (sc (i + 7).toNat) 4294967295 (by decide) (by decide)
        refine r_lor (i := 429) rfl ?_
        have h438 := ylor_rl ((sc (i + 6).toNat) * 4294967296) (yland (sc (i + 7).toNat) 4294967295)
        refine r_load (i := 430) (u := 0) (w := 2) rfl rfl rfl ?_
        refine r_load (i := 431) (u := 4) (w := 0) rfl rfl rfl ?_
        refine r_const (i := 432) (u := 8) (z := 8) rfl rfl ?_
        refine r_iadd (i := 433) rfl ?_
        refine r_scA (i := 434) hG rfl (by omega) (by omega) fun h439 => ?_
        have h439 : Rg (sc (i + 8).toNat) := h439
        refine r_i2l (i := 435) rfl ⟨by omega, by omega⟩ ?_
        refine r_const (i := 436) (u := 32) (z := 32) rfl rfl ?_
        refine r_lshl (i := 437) rfl ?_
        refine r_load (i := 438) (u := 0) (w := 2) rfl rfl rfl ?_
        refine r_load (i := 439) (u := 4) (w := 0) rfl rfl rfl ?_
        refine r_const (i := 440) (u := 9) (z := 9) rfl rfl ?_
        refine r_iadd (i := 441) rfl ?_
        refine r_scA (i := 442) hG rfl (by omega) (by omega) fun h440 => ?_
        have h440 : Rg (sc (i + 9).toNat) := h440
        refine r_i2l (i := 443) rfl ⟨by omega, by omega⟩ ?_
        refine r_lconst (i := 444) (u := 4294967295) (z := 4294967295) rfl rfl ?_
        refine r_land (i := 445) rfl ?_
        have h441 := @yland_c (sc (i + 9).toNat) 4294967295 (by decide) (by decide)
        refine r_lor (i := 446) rfl ?_
        have h442 := ylor_rl ((sc (i + 8).toNat) * 4294967296) (yland (sc (i + 9).toNat) 4294967295)
        refine r_load (i := 447) (u := 3) (w := 2) rfl rfl rfl ?_
        refine r_call (i := 448) (u := 65535) (v := 174) (w := 0) (b := 2) (na := 3079) (C2 := xC174) (as := [(2, 0), vi (sc (i + 1).toNat), vl (ylor ((sc (i + 2).toNat) * 4294967296) (yland (sc (i + 3).toNat) 4294967295)), vl (ylor ((sc (i + 4).toNat) * 4294967296) (yland (sc (i + 5).toNat) 4294967295)), vl (ylor ((sc (i + 6).toNat) * 4294967296) (yland (sc (i + 7).toNat) 4294967295)), vl (ylor ((sc (i + 8).toNat) * 4294967296) (yland (sc (i + 9).toNat) 4294967295)), (2, 81)]) (s := []) rfl rfl rfl rfl rfl rfl rfl (sp174 (p0 := sc (i + 1).toNat) (p1 := ylor ((sc (i + 2).toNat) * 4294967296) (yland (sc (i + 3).toNat) 4294967295)) (p2 := ylor ((sc (i + 4).toNat) * 4294967296) (yland (sc (i + 5).toNat) 4294967295)) (p3 := ylor ((sc (i + 6).toNat) * 4294967296) (yland (sc (i + 7).toNat) 4294967295)) (p4 := ylor ((sc (i + 8).toNat) * 4294967296) (yland (sc (i + 9).toNat) 4294967295)) (kR := 5199 - i) hI ⟨by omega, by omega⟩ ⟨by omega, by omega⟩ ⟨by omega, by omega⟩ ⟨by omega, by omega⟩ ⟨by omega, by omega⟩ (by exact wRM_le q_0 (by omega)) (by omega) e_N23 e_CR (by omega)) (fun r443 S444 hq445 => ?_)
        obtain ⟨z446, rfl, h447, h448, rm449, e450, e451, hI452, hF453⟩ := hq445
        have e454 := RTx.fr e_RT hF453 rfl rfl
        have e455 := RMex.fr e_RMe hF453 rfl rfl
        have e456 := RSx.fr e_RS hF453 rfl rfl
        have e457 := RThx.fr e_RTh hF453 rfl rfl
        refine Or.inr (Or.inl ⟨rfl, ?_⟩)
        refine r_store (i := 449) (u := 5) (w := 0) (L1 := [some ((6, 0)), some ((2, 0)), some ((2, 43)), some ((2, 81)), some (vi i), some (vi z446), none]) rfl rfl rfl rfl ?_
        refine r_load (i := 450) (u := 2) (w := 2) rfl rfl rfl ?_
        refine r_load (i := 451) (u := 0) (w := 2) rfl rfl rfl ?_
        refine r_load (i := 452) (u := 4) (w := 0) rfl rfl rfl ?_
        refine r_const (i := 453) (u := 1) (z := 1) rfl rfl ?_
        refine r_iadd (i := 454) rfl ?_
        refine r_scA (i := 455) hG rfl (by omega) (by omega) fun h458 => ?_
        have h458 : Rg (sc (i + 1).toNat) := h458
        refine r_load (i := 456) (u := 0) (w := 2) rfl rfl rfl ?_
        refine r_load (i := 457) (u := 4) (w := 0) rfl rfl rfl ?_
        refine r_const (i := 458) (u := 2) (z := 2) rfl rfl ?_
        refine r_iadd (i := 459) rfl ?_
        refine r_scA (i := 460) hG rfl (by omega) (by omega) fun h459 => ?_
        have h459 : Rg (sc (i + 2).toNat) := h459
        refine r_i2l (i := 461) rfl ⟨by omega, by omega⟩ ?_
        refine r_const (i := 462) (u := 32) (z := 32) rfl rfl ?_
        refine r_lshl (i := 463) rfl ?_
        refine r_load (i := 464) (u := 0) (w := 2) rfl rfl rfl ?_
        refine r_load (i := 465) (u := 4) (w := 0) rfl rfl rfl ?_
        refine r_const (i := 466) (u := 3) (z := 3) rfl rfl ?_
        refine r_iadd (i := 467) rfl ?_
        refine r_scA (i := 468) hG rfl (by omega) (by omega) fun h460 => ?_
        have h460 : Rg (sc (i + 3).toNat) := h460
        refine r_i2l (i := 469) rfl ⟨by omega, by omega⟩ ?_
        refine r_lconst (i := 470) (u := 4294967295) (z := 4294967295) rfl rfl ?_
        refine r_land (i := 471) rfl ?_
        have h461 := @yland_c (sc (i + 3).toNat) 4294967295 (by decide) (by decide)
        refine r_lor (i := 472) rfl ?_
        have h462 := ylor_rl ((sc (i + 2).toNat) * 4294967296) (yland (sc (i + 3).toNat) 4294967295)
        refine r_load (i := 473) (u := 0) (w := 2) rfl rfl rfl ?_
        refine r_load (i := 474) (u := 4) (w := 0) rfl rfl rfl ?_
        refine r_const (i := 475) (u := 4) (z := 4) rfl rfl ?_
        refine r_iadd (i := 476) rfl ?_
        refine r_scA (i := 477) hG rfl (by omega) (by omega) fun h463 => ?_
        have h463 : Rg (sc (i + 4).toNat) := h463
        refine r_i2l (i := 478) rfl ⟨by omega, by omega⟩ ?_
        refine r_const (i := 479) (u := 32) (z := 32) rfl rfl ?_
        refine r_lshl (i := 480) rfl ?_
        refine r_load (i := 481) (u := 0) (w := 2) rfl rfl rfl ?_
        refine r_load (i := 482) (u := 4) (w := 0) rfl rfl rfl ?_
        refine r_const (i := 483) (u := 5) (z := 5) rfl rfl ?_
        refine r_iadd (i := 484) rfl ?_
        refine r_scA (i := 485) hG rfl (by omega) (by omega) fun h464 => ?_
        have h464 : Rg (sc (i + 5).toNat) := h464
        refine r_i2l (i := 486) rfl ⟨by omega, by omega⟩ ?_
        refine r_lconst (i := 487) (u := 4294967295) (z := 4294967295) rfl rfl ?_
        refine r_land (i := 488) rfl ?_
        have h465 := @yland_c (sc (i + 5).toNat) 4294967295 (by decide) (by decide)
        refine r_lor (i := 489) rfl ?_
        have h466 := ylor_rl ((sc (i + 4).toNat) * 4294967296) (yland (sc (i + 5).toNat) 4294967295)
        refine r_load (i := 490) (u := 0) (w := 2) rfl rfl rfl ?_
        refine r_load (i := 491) (u := 4) (w := 0) rfl rfl rfl ?_
        refine r_const (i := 492) (u := 6) (z := 6) rfl rfl ?_
        refine r_iadd (i := 493) rfl ?_
        refine r_scA (i := 494) hG rfl (by omega) (by omega) fun h467 => ?_
        have h467 : Rg (sc (i + 6).toNat) := h467
        refine r_i2l (i := 495) rfl ⟨by omega, by omega⟩ ?_
        refine r_const (i := 496) (u := 32) (z := 32) rfl rfl ?_
        refine r_lshl (i := 497) rfl ?_
        refine r_load (i := 498) (u := 0) (w := 2) rfl rfl rfl ?_
        refine r_load (i := 499) (u := 4) (w := 0) rfl rfl rfl ?_
        refine r_const (i := 500) (u := 7) (z := 7) rfl rfl ?_
        refine r_iadd (i := 501) rfl ?_
        refine r_scA (i := 502) hG rfl (by omega) (by omega) fun h468 => ?_
        have h468 : Rg (sc (i + 7).toNat) := h468
        refine r_i2l (i := 503) rfl ⟨by omega, by omega⟩ ?_
        refine r_lconst (i := 504) (u := 4294967295) (z := 4294967295) rfl rfl ?_
        refine r_land (i := 505) rfl ?_
        have h469 := @yland_c (sc (i + 7).toNat) 4294967295 (by decide) (by decide)
        refine r_lor (i := 506) rfl ?_
        have h470 := ylor_rl ((sc (i + 6).toNat) * 4294967296) (yland (sc (i + 7).toNat) 4294967295)
        refine r_load (i := 507) (u := 0) (w := 2) rfl rfl rfl ?_
        refine r_load (i := 508) (u := 4) (w := 0) rfl rfl rfl ?_
        refine r_const (i := 509) (u := 8) (z := 8) rfl rfl ?_
        refine r_iadd (i := 510) rfl ?_
        refine r_scA (i := 511) hG rfl (by omega) (by omega) fun h471 => ?_
        have h471 : Rg (sc (i + 8).toNat) := h471
        refine r_i2l (i := 512) rfl ⟨by omega, by omega⟩ ?_
        refine r_const (i := 513) (u := 32) (z := 32) rfl rfl ?_
        refine r_lshl (i := 514) rfl ?_
        refine r_load (i := 515) (u := 0) (w := 2) rfl rfl rfl ?_
        refine r_load (i := 516) (u := 4) (w := 0) rfl rfl rfl ?_
        refine r_const (i := 517) (u := 9) (z := 9) rfl rfl ?_
        refine r_iadd (i := 518) rfl ?_
        refine r_scA (i := 519) hG rfl (by omega) (by omega) fun h472 => ?_
        have h472 : Rg (sc (i + 9).toNat) := h472
        refine r_i2l (i := 520) rfl ⟨by omega, by omega⟩ ?_
        refine r_lconst (i := 521) (u := 4294967295) (z := 4294967295) rfl rfl ?_
        refine r_land (i := 522) rfl ?_
        have h473 := @yland_c (sc (i + 9).toNat) 4294967295 (by decide) (by decide)
        refine r_lor (i := 523) rfl ?_
        have h474 := ylor_rl ((sc (i + 8).toNat) * 4294967296) (yland (sc (i + 9).toNat) 4294967295)
        refine r_call (i := 524) (u := 11) (v := 188) (w := 0) (b := 0) (na := 4102) (C2 := xC188) (as := [(2, 43), vi (sc (i + 1).toNat), vl (ylor ((sc (i + 2).toNat) * 4294967296) (yland (sc (i + 3).toNat) 4294967295)), vl (ylor ((sc (i + 4).toNat) * 4294967296) (yland (sc (i + 5).toNat) 4294967295)), vl (ylor ((sc (i + 6).toNat) * 4294967296) (yland (sc (i + 7).toNat) 4294967295)), vl (ylor ((sc (i + 8).toNat) * 4294967296) (yland (sc (i + 9).toNat) 4294967295))]) (s := []) rfl rfl rfl rfl rfl rfl rfl (sp188 (k := sc (i + 1).toNat) (a := ylor ((sc (i + 2).toNat) * 4294967296) (yland (sc (i + 3).toNat) 4294967295)) (b := ylor ((sc (i + 4).toNat) * 4294967296) (yland (sc (i + 5).toNat) 4294967295)) (c := ylor ((sc (i + 6).toNat) * 4294967296) (yland (sc (i + 7).toNat) 4294967295)) (e := ylor ((sc (i + 8).toNat) * 4294967296) (yland (sc (i + 9).toNat) 4294967295)) hI452 ⟨by omega, by omega⟩ ⟨by omega, by omega⟩ ⟨by omega, by omega⟩ ⟨by omega, by omega⟩ ⟨by omega, by omega⟩   (by omega)) (fun r475 S476 hq477 => ?_)
        obtain ⟨z478, rfl, h479, h480, hI481, hF482, hR483⟩ := hq477
        have e484 := RTx.fr e454 hF482 rfl rfl
        have e485 := RMex.fr e455 hF482 rfl rfl
        have e486 := RSx.fr e456 hF482 rfl rfl
        have e487 := RThx.fr e457 hF482 rfl rfl
        have e488 := N23x.fr e450 hF482 hR483 rfl rfl rfl
        have e489 := CRx.fr e451 hF482 rfl rfl
        have e490 := wRM_rm rm449 hR483
        refine Or.inr (Or.inl ⟨rfl, ?_⟩)
        refine r_store (i := 525) (u := 6) (w := 0) (L1 := [some ((6, 0)), some ((2, 0)), some ((2, 43)), some ((2, 81)), some (vi i), some (vi z446), some (vi z478)]) rfl rfl rfl rfl ?_
        refine r_goto (i := 526) (v := 643) rfl ?_
        refine r_iinc (i := 643) (u := 10) (v := 4) (s := 10) (L1 := [some ((6, 0)), some ((2, 0)), some ((2, 43)), some ((2, 81)), some (vi (i + 10)), some (vi z446), some (vi z478)]) rfl rfl rfl rfl rfl ?_
        refine r_goto (i := 644) (v := 13) rfl ?_
        refine yT_drop (L1 := [some ((6, 0)), some ((2, 0)), some ((2, 43)), some ((2, 81)), some (vi (i + 10)), none, none]) rfl ?_
        exact ih S476 hI481 e488 e489 e484 e485 e486 e487 (i + 10) ⟨by omega, by omega⟩ (by exact wRM_le e490 (by omega)) (by omega)
      · refine r_swK (i := 24) (u := 1) (v := 643) (k := 11) (t := 527) rfl rfl h16 (by decide) (by decide) rfl ?_
        refine r_load (i := 527) (u := 1) (w := 2) rfl rfl rfl ?_
        refine r_call (i := 528) (u := 0) (v := 16) (w := 0) (b := 0) (na := 257) (C2 := xC16) (as := [(2, 0)]) (s := []) rfl rfl rfl rfl rfl rfl rfl (sp16  hI    (by omega)) (fun r491 S492 hq493 => ?_)
        obtain ⟨z494, rfl, h495, rfl⟩ := hq493
        refine Or.inr (Or.inl ⟨rfl, ?_⟩)
        refine r_pop2 (i := 529) rfl rfl ?_
        refine r_load (i := 530) (u := 2) (w := 2) rfl rfl rfl ?_
        refine r_call (i := 531) (u := 11) (v := 239) (w := 0) (b := 0) (na := 257) (C2 := xC239) (as := [(2, 43)]) (s := []) rfl rfl rfl rfl rfl rfl rfl (sp239  hI    (by omega)) (fun r496 S497 hq498 => ?_)
        obtain ⟨z499, rfl, h500, hI501, hF502, hR503⟩ := hq498
        have e504 := N23x.fr e_N23 hF502 hR503 rfl rfl rfl
        have e505 := CRx.fr e_CR hF502 rfl rfl
        have e506 := RTx.fr e_RT hF502 rfl rfl
        have e507 := RMex.fr e_RMe hF502 rfl rfl
        have e508 := RSx.fr e_RS hF502 rfl rfl
        have e509 := RThx.fr e_RTh hF502 rfl rfl
        have e510 := wRM_rm q_0 hR503
        refine Or.inr (Or.inl ⟨rfl, ?_⟩)
        refine r_pop2 (i := 532) rfl rfl ?_
        refine r_goto (i := 533) (v := 643) rfl ?_
        refine r_iinc (i := 643) (u := 10) (v := 4) (s := 10) (L1 := [some ((6, 0)), some ((2, 0)), some ((2, 43)), some ((2, 81)), some (vi (i + 10)), none, none]) rfl rfl rfl rfl rfl ?_
        refine r_goto (i := 644) (v := 13) rfl ?_
        exact ih S497 hI501 e504 e505 e506 e507 e508 e509 (i + 10) ⟨by omega, by omega⟩ (by exact wRM_le e510 (by omega)) (by omega)
      · refine r_swK (i := 24) (u := 1) (v := 643) (k := 12) (t := 534) rfl rfl h17 (by decide) (by decide) rfl ?_
        refine r_load (i := 534) (u := 1) (w := 2) rfl rfl rfl ?_
        refine r_call (i := 535) (u := 0) (v := 3) (w := 0) (b := 0) (na := 257) (C2 := xC3) (as := [(2, 0)]) (s := []) rfl rfl rfl rfl rfl rfl rfl (sp3  hI    (by omega)) (fun r511 S512 hq513 => ?_)
        obtain ⟨z514, rfl, h515, h516, rfl⟩ := hq513
        refine Or.inr (Or.inl ⟨rfl, ?_⟩)
        refine r_pop (i := 536) rfl rfl ?_
        refine r_load (i := 537) (u := 2) (w := 2) rfl rfl rfl ?_
        refine r_call (i := 538) (u := 11) (v := 184) (w := 0) (b := 0) (na := 257) (C2 := xC184) (as := [(2, 43)]) (s := []) rfl rfl rfl rfl rfl rfl rfl (sp184  hI    (by omega)) (fun r517 S518 hq519 => ?_)
        obtain ⟨z520, rfl, h521, h522, hI523, hF524, hR525⟩ := hq519
        have e526 := N23x.fr e_N23 hF524 hR525 rfl rfl rfl
        have e527 := CRx.fr e_CR hF524 rfl rfl
        have e528 := RTx.fr e_RT hF524 rfl rfl
        have e529 := RMex.fr e_RMe hF524 rfl rfl
        have e530 := RSx.fr e_RS hF524 rfl rfl
        have e531 := RThx.fr e_RTh hF524 rfl rfl
        have e532 := wRM_rm q_0 hR525
        refine Or.inr (Or.inl ⟨rfl, ?_⟩)
        refine r_pop (i := 539) rfl rfl ?_
        refine r_goto (i := 540) (v := 643) rfl ?_
        refine r_iinc (i := 643) (u := 10) (v := 4) (s := 10) (L1 := [some ((6, 0)), some ((2, 0)), some ((2, 43)), some ((2, 81)), some (vi (i + 10)), none, none]) rfl rfl rfl rfl rfl ?_
        refine r_goto (i := 644) (v := 13) rfl ?_
        exact ih S518 hI523 e526 e527 e528 e529 e530 e531 (i + 10) ⟨by omega, by omega⟩ (by exact wRM_le e532 (by omega)) (by omega)
      · refine r_swK (i := 24) (u := 1) (v := 643) (k := 13) (t := 541) rfl rfl h18 (by decide) (by decide) rfl ?_
        refine r_load (i := 541) (u := 1) (w := 2) rfl rfl rfl ?_
        refine r_load (i := 542) (u := 0) (w := 2) rfl rfl rfl ?_
        refine r_load (i := 543) (u := 4) (w := 0) rfl rfl rfl ?_
        refine r_const (i := 544) (u := 1) (z := 1) rfl rfl ?_
        refine r_iadd (i := 545) rfl ?_
        refine r_scA (i := 546) hG rfl (by omega) (by omega) fun h533 => ?_
        have h533 : Rg (sc (i + 1).toNat) := h533
        refine r_load (i := 547) (u := 0) (w := 2) rfl rfl rfl ?_
        refine r_load (i := 548) (u := 4) (w := 0) rfl rfl rfl ?_
        refine r_const (i := 549) (u := 2) (z := 2) rfl rfl ?_
        refine r_iadd (i := 550) rfl ?_
        refine r_scA (i := 551) hG rfl (by omega) (by omega) fun h534 => ?_
        have h534 : Rg (sc (i + 2).toNat) := h534
        refine r_call (i := 552) (u := 0) (v := 9) (w := 0) (b := 0) (na := 771) (C2 := xC9) (as := [(2, 0), vi (sc (i + 1).toNat), vi (sc (i + 2).toNat)]) (s := []) rfl rfl rfl rfl rfl rfl rfl (sp9 (i0 := sc (i + 1).toNat) (w0 := sc (i + 2).toNat) hI ⟨by omega, by omega⟩ ⟨by omega, by omega⟩   (by omega)) (fun r535 S536 hq537 => ?_)
        obtain ⟨z538, rfl, h539, rfl⟩ := hq537
        refine Or.inr (Or.inl ⟨rfl, ?_⟩)
        refine r_pop2 (i := 553) rfl rfl ?_
        refine r_load (i := 554) (u := 2) (w := 2) rfl rfl rfl ?_
        refine r_load (i := 555) (u := 0) (w := 2) rfl rfl rfl ?_
        refine r_load (i := 556) (u := 4) (w := 0) rfl rfl rfl ?_
        refine r_const (i := 557) (u := 1) (z := 1) rfl rfl ?_
        refine r_iadd (i := 558) rfl ?_
        refine r_scA (i := 559) hG rfl (by omega) (by omega) fun h540 => ?_
        have h540 : Rg (sc (i + 1).toNat) := h540
        refine r_load (i := 560) (u := 0) (w := 2) rfl rfl rfl ?_
        refine r_load (i := 561) (u := 4) (w := 0) rfl rfl rfl ?_
        refine r_const (i := 562) (u := 2) (z := 2) rfl rfl ?_
        refine r_iadd (i := 563) rfl ?_
        refine r_scA (i := 564) hG rfl (by omega) (by omega) fun h541 => ?_
        have h541 : Rg (sc (i + 2).toNat) := h541
        refine r_call (i := 565) (u := 11) (v := 205) (w := 0) (b := 0) (na := 771) (C2 := xC205) (as := [(2, 43), vi (sc (i + 1).toNat), vi (sc (i + 2).toNat)]) (s := []) rfl rfl rfl rfl rfl rfl rfl (sp205 (i0 := sc (i + 1).toNat) (w0 := sc (i + 2).toNat) hI ⟨by omega, by omega⟩ ⟨by omega, by omega⟩   (by omega)) (fun r542 S543 hq544 => ?_)
        obtain ⟨z545, rfl, h546, hI547, hF548, hR549⟩ := hq544
        have e550 := N23x.fr e_N23 hF548 hR549 rfl rfl rfl
        have e551 := CRx.fr e_CR hF548 rfl rfl
        have e552 := RTx.fr e_RT hF548 rfl rfl
        have e553 := RMex.fr e_RMe hF548 rfl rfl
        have e554 := RSx.fr e_RS hF548 rfl rfl
        have e555 := RThx.fr e_RTh hF548 rfl rfl
        have e556 := wRM_rm q_0 hR549
        refine Or.inr (Or.inl ⟨rfl, ?_⟩)
        refine r_pop2 (i := 566) rfl rfl ?_
        refine r_goto (i := 567) (v := 643) rfl ?_
        refine r_iinc (i := 643) (u := 10) (v := 4) (s := 10) (L1 := [some ((6, 0)), some ((2, 0)), some ((2, 43)), some ((2, 81)), some (vi (i + 10)), none, none]) rfl rfl rfl rfl rfl ?_
        refine r_goto (i := 644) (v := 13) rfl ?_
        exact ih S543 hI547 e550 e551 e552 e553 e554 e555 (i + 10) ⟨by omega, by omega⟩ (by exact wRM_le e556 (by omega)) (by omega)
      · refine r_swK (i := 24) (u := 1) (v := 643) (k := 14) (t := 568) rfl rfl h19 (by decide) (by decide) rfl ?_
        refine r_load (i := 568) (u := 1) (w := 2) rfl rfl rfl ?_
        refine r_call (i := 569) (u := 0) (v := 17) (w := 0) (b := 0) (na := 257) (C2 := xC17) (as := [(2, 0)]) (s := []) rfl rfl rfl rfl rfl rfl rfl (sp17  hI    (by omega)) (fun r557 S558 hq559 => ?_)
        obtain ⟨z560, rfl, h561, h562, rfl⟩ := hq559
        refine Or.inr (Or.inl ⟨rfl, ?_⟩)
        refine r_pop (i := 570) rfl rfl ?_
        refine r_load (i := 571) (u := 2) (w := 2) rfl rfl rfl ?_
        refine r_call (i := 572) (u := 11) (v := 242) (w := 0) (b := 0) (na := 257) (C2 := xC242) (as := [(2, 43)]) (s := []) rfl rfl rfl rfl rfl rfl rfl (sp242  hI    (by omega)) (fun r563 S564 hq565 => ?_)
        obtain ⟨z566, rfl, h567, h568, hI569, hF570, hR571⟩ := hq565
        have e572 := N23x.fr e_N23 hF570 hR571 rfl rfl rfl
        have e573 := CRx.fr e_CR hF570 rfl rfl
        have e574 := RTx.fr e_RT hF570 rfl rfl
        have e575 := RMex.fr e_RMe hF570 rfl rfl
        have e576 := RSx.fr e_RS hF570 rfl rfl
        have e577 := RThx.fr e_RTh hF570 rfl rfl
        have e578 := wRM_rm q_0 hR571
        refine Or.inr (Or.inl ⟨rfl, ?_⟩)
        refine r_pop (i := 573) rfl rfl ?_
        refine r_goto (i := 574) (v := 643) rfl ?_
        refine r_iinc (i := 643) (u := 10) (v := 4) (s := 10) (L1 := [some ((6, 0)), some ((2, 0)), some ((2, 43)), some ((2, 81)), some (vi (i + 10)), none, none]) rfl rfl rfl rfl rfl ?_
        refine r_goto (i := 644) (v := 13) rfl ?_
        exact ih S564 hI569 e572 e573 e574 e575 e576 e577 (i + 10) ⟨by omega, by omega⟩ (by exact wRM_le e578 (by omega)) (by omega)
      · refine r_swK (i := 24) (u := 1) (v := 643) (k := 15) (t := 575) rfl rfl h20 (by decide) (by decide) rfl ?_
        refine r_load (i := 575) (u := 1) (w := 2) rfl rfl rfl ?_
        refine r_load (i := 576) (u := 0) (w := 2) rfl rfl rfl ?_
        refine r_load (i := 577) (u := 4) (w := 0) rfl rfl rfl ?_
        refine r_const (i := 578) (u := 1) (z := 1) rfl rfl ?_
        refine r_iadd (i := 579) rfl ?_
        refine r_scA (i := 580) hG rfl (by omega) (by omega) fun h579 => ?_
        have h579 : Rg (sc (i + 1).toNat) := h579
        refine r_call (i := 581) (u := 0) (v := 4) (w := 0) (b := 0) (na := 514) (C2 := xC4) (as := [(2, 0), vi (sc (i + 1).toNat)]) (s := []) rfl rfl rfl rfl rfl rfl rfl (sp4 (k := sc (i + 1).toNat) hI ⟨by omega, by omega⟩   (by omega)) (fun r580 S581 hq582 => ?_)
        obtain ⟨z583, rfl, h584, h585, rfl⟩ := hq582
        refine Or.inr (Or.inl ⟨rfl, ?_⟩)
        refine r_pop (i := 582) rfl rfl ?_
        refine r_load (i := 583) (u := 2) (w := 2) rfl rfl rfl ?_
        refine r_load (i := 584) (u := 0) (w := 2) rfl rfl rfl ?_
        refine r_load (i := 585) (u := 4) (w := 0) rfl rfl rfl ?_
        refine r_const (i := 586) (u := 1) (z := 1) rfl rfl ?_
        refine r_iadd (i := 587) rfl ?_
        refine r_scA (i := 588) hG rfl (by omega) (by omega) fun h586 => ?_
        have h586 : Rg (sc (i + 1).toNat) := h586
        refine r_call (i := 589) (u := 11) (v := 187) (w := 0) (b := 0) (na := 514) (C2 := xC187) (as := [(2, 43), vi (sc (i + 1).toNat)]) (s := []) rfl rfl rfl rfl rfl rfl rfl (sp187 (k := sc (i + 1).toNat) hI ⟨by omega, by omega⟩   (by omega)) (fun r587 S588 hq589 => ?_)
        obtain ⟨z590, rfl, h591, h592, hI593, hF594, hR595⟩ := hq589
        have e596 := N23x.fr e_N23 hF594 hR595 rfl rfl rfl
        have e597 := CRx.fr e_CR hF594 rfl rfl
        have e598 := RTx.fr e_RT hF594 rfl rfl
        have e599 := RMex.fr e_RMe hF594 rfl rfl
        have e600 := RSx.fr e_RS hF594 rfl rfl
        have e601 := RThx.fr e_RTh hF594 rfl rfl
        have e602 := wRM_rm q_0 hR595
        refine Or.inr (Or.inl ⟨rfl, ?_⟩)
        refine r_pop (i := 590) rfl rfl ?_
        refine r_goto (i := 591) (v := 643) rfl ?_
        refine r_iinc (i := 643) (u := 10) (v := 4) (s := 10) (L1 := [some ((6, 0)), some ((2, 0)), some ((2, 43)), some ((2, 81)), some (vi (i + 10)), none, none]) rfl rfl rfl rfl rfl ?_
        refine r_goto (i := 644) (v := 13) rfl ?_
        exact ih S588 hI593 e596 e597 e598 e599 e600 e601 (i + 10) ⟨by omega, by omega⟩ (by exact wRM_le e602 (by omega)) (by omega)
      · refine r_swK (i := 24) (u := 1) (v := 643) (k := 16) (t := 592) rfl rfl h21 (by decide) (by decide) rfl ?_
        refine r_load (i := 592) (u := 1) (w := 2) rfl rfl rfl ?_
        refine r_load (i := 593) (u := 0) (w := 2) rfl rfl rfl ?_
        refine r_load (i := 594) (u := 4) (w := 0) rfl rfl rfl ?_
        refine r_const (i := 595) (u := 1) (z := 1) rfl rfl ?_
        refine r_iadd (i := 596) rfl ?_
        refine r_scA (i := 597) hG rfl (by omega) (by omega) fun h603 => ?_
        have h603 : Rg (sc (i + 1).toNat) := h603
        refine r_load (i := 598) (u := 0) (w := 2) rfl rfl rfl ?_
        refine r_load (i := 599) (u := 4) (w := 0) rfl rfl rfl ?_
        refine r_const (i := 600) (u := 2) (z := 2) rfl rfl ?_
        refine r_iadd (i := 601) rfl ?_
        refine r_scA (i := 602) hG rfl (by omega) (by omega) fun h604 => ?_
        have h604 : Rg (sc (i + 2).toNat) := h604
        refine r_call (i := 603) (u := 0) (v := 6) (w := 0) (b := 0) (na := 771) (C2 := xC6) (as := [(2, 0), vi (sc (i + 1).toNat), vi (sc (i + 2).toNat)]) (s := []) rfl rfl rfl rfl rfl rfl rfl (sp6 (k := sc (i + 1).toNat) (b := sc (i + 2).toNat) hI ⟨by omega, by omega⟩ ⟨by omega, by omega⟩   (by omega)) (fun r605 S606 hq607 => ?_)
        obtain ⟨z608, rfl, h609, h610, hI611, hF612, hR613⟩ := hq607
        have e614 := N23x.fr e_N23 hF612 hR613 rfl rfl rfl
        have e615 := CRx.fr e_CR hF612 rfl rfl
        have e616 := RTx.fr e_RT hF612 rfl rfl
        have e617 := RMex.fr e_RMe hF612 rfl rfl
        have e618 := RSx.fr e_RS hF612 rfl rfl
        have e619 := RThx.fr e_RTh hF612 rfl rfl
        have e620 := wRM_rm q_0 hR613
        refine Or.inr (Or.inl ⟨rfl, ?_⟩)
        refine r_pop (i := 604) rfl rfl ?_
        refine r_load (i := 605) (u := 2) (w := 2) rfl rfl rfl ?_
        refine r_load (i := 606) (u := 0) (w := 2) rfl rfl rfl ?_
        refine r_load (i := 607) (u := 4) (w := 0) rfl rfl rfl ?_
        refine r_const (i := 608) (u := 1) (z := 1) rfl rfl ?_
        refine r_iadd (i := 609) rfl ?_
        refine r_scA (i := 610) hG rfl (by omega) (by omega) fun h621 => ?_
        have h621 : Rg (sc (i + 1).toNat) := h621
        refine r_load (i := 611) (u := 0) (w := 2) rfl rfl rfl ?_
        refine r_load (i := 612) (u := 4) (w := 0) rfl rfl rfl ?_
        refine r_const (i := 613) (u := 2) (z := 2) rfl rfl ?_
        refine r_iadd (i := 614) rfl ?_
        refine r_scA (i := 615) hG rfl (by omega) (by omega) fun h622 => ?_
        have h622 : Rg (sc (i + 2).toNat) := h622
        refine r_call (i := 616) (u := 11) (v := 191) (w := 0) (b := 0) (na := 771) (C2 := xC191) (as := [(2, 43), vi (sc (i + 1).toNat), vi (sc (i + 2).toNat)]) (s := []) rfl rfl rfl rfl rfl rfl rfl (sp191 (k := sc (i + 1).toNat) (b := sc (i + 2).toNat) hI611 ⟨by omega, by omega⟩ ⟨by omega, by omega⟩   (by omega)) (fun r623 S624 hq625 => ?_)
        obtain ⟨z626, rfl, h627, h628, hI629, hF630, hR631⟩ := hq625
        have e632 := N23x.fr e614 hF630 hR631 rfl rfl rfl
        have e633 := CRx.fr e615 hF630 rfl rfl
        have e634 := RTx.fr e616 hF630 rfl rfl
        have e635 := RMex.fr e617 hF630 rfl rfl
        have e636 := RSx.fr e618 hF630 rfl rfl
        have e637 := RThx.fr e619 hF630 rfl rfl
        have e638 := wRM_rm e620 hR631
        refine Or.inr (Or.inl ⟨rfl, ?_⟩)
        refine r_pop (i := 617) rfl rfl ?_
        refine r_goto (i := 618) (v := 643) rfl ?_
        refine r_iinc (i := 643) (u := 10) (v := 4) (s := 10) (L1 := [some ((6, 0)), some ((2, 0)), some ((2, 43)), some ((2, 81)), some (vi (i + 10)), none, none]) rfl rfl rfl rfl rfl ?_
        refine r_goto (i := 644) (v := 13) rfl ?_
        exact ih S624 hI629 e632 e633 e634 e635 e636 e637 (i + 10) ⟨by omega, by omega⟩ (by exact wRM_le e638 (by omega)) (by omega)
      · refine r_swK (i := 24) (u := 1) (v := 643) (k := 17) (t := 619) rfl rfl h22 (by decide) (by decide) rfl ?_
        refine r_load (i := 619) (u := 1) (w := 2) rfl rfl rfl ?_
        refine r_load (i := 620) (u := 0) (w := 2) rfl rfl rfl ?_
        refine r_load (i := 621) (u := 4) (w := 0) rfl rfl rfl ?_
        refine r_const (i := 622) (u := 1) (z := 1) rfl rfl ?_
        refine r_iadd (i := 623) rfl ?_
        refine r_scA (i := 624) hG rfl (by omega) (by omega) fun h639 => ?_
        have h639 : Rg (sc (i + 1).toNat) := h639
        refine r_call (i := 625) (u := 0) (v := 7) (w := 0) (b := 0) (na := 514) (C2 := xC7) (as := [(2, 0), vi (sc (i + 1).toNat)]) (s := []) rfl rfl rfl rfl rfl rfl rfl (sp7 (k := sc (i + 1).toNat) hI ⟨by omega, by omega⟩   (by omega)) (fun r640 S641 hq642 => ?_)
        obtain ⟨z643, rfl, h644, h645, hI646, hF647, hR648⟩ := hq642
        have e649 := N23x.fr e_N23 hF647 hR648 rfl rfl rfl
        have e650 := CRx.fr e_CR hF647 rfl rfl
        have e651 := RTx.fr e_RT hF647 rfl rfl
        have e652 := RMex.fr e_RMe hF647 rfl rfl
        have e653 := RSx.fr e_RS hF647 rfl rfl
        have e654 := RThx.fr e_RTh hF647 rfl rfl
        have e655 := wRM_rm q_0 hR648
        refine Or.inr (Or.inl ⟨rfl, ?_⟩)
        refine r_pop (i := 626) rfl rfl ?_
        refine r_load (i := 627) (u := 2) (w := 2) rfl rfl rfl ?_
        refine r_load (i := 628) (u := 0) (w := 2) rfl rfl rfl ?_
        refine r_load (i := 629) (u := 4) (w := 0) rfl rfl rfl ?_
        refine r_const (i := 630) (u := 1) (z := 1) rfl rfl ?_
        refine r_iadd (i := 631) rfl ?_
        refine r_scA (i := 632) hG rfl (by omega) (by omega) fun h656 => ?_
        have h656 : Rg (sc (i + 1).toNat) := h656
        refine r_call (i := 633) (u := 11) (v := 197) (w := 0) (b := 0) (na := 514) (C2 := xC197) (as := [(2, 43), vi (sc (i + 1).toNat)]) (s := []) rfl rfl rfl rfl rfl rfl rfl (sp197 (k := sc (i + 1).toNat) hI646 ⟨by omega, by omega⟩   (by omega)) (fun r657 S658 hq659 => ?_)
        obtain ⟨z660, rfl, h661, h662, hI663, hF664, hR665⟩ := hq659
        have e666 := N23x.fr e649 hF664 hR665 rfl rfl rfl
        have e667 := CRx.fr e650 hF664 rfl rfl
        have e668 := RTx.fr e651 hF664 rfl rfl
        have e669 := RMex.fr e652 hF664 rfl rfl
        have e670 := RSx.fr e653 hF664 rfl rfl
        have e671 := RThx.fr e654 hF664 rfl rfl
        have e672 := wRM_rm e655 hR665
        refine Or.inr (Or.inl ⟨rfl, ?_⟩)
        refine r_pop (i := 634) rfl rfl ?_
        refine r_goto (i := 635) (v := 643) rfl ?_
        refine r_iinc (i := 643) (u := 10) (v := 4) (s := 10) (L1 := [some ((6, 0)), some ((2, 0)), some ((2, 43)), some ((2, 81)), some (vi (i + 10)), none, none]) rfl rfl rfl rfl rfl ?_
        refine r_goto (i := 644) (v := 13) rfl ?_
        exact ih S658 hI663 e666 e667 e668 e669 e670 e671 (i + 10) ⟨by omega, by omega⟩ (by exact wRM_le e672 (by omega)) (by omega)
      · refine r_swK (i := 24) (u := 1) (v := 643) (k := 18) (t := 636) rfl rfl h23 (by decide) (by decide) rfl ?_
        refine r_load (i := 636) (u := 1) (w := 2) rfl rfl rfl ?_
        refine r_call (i := 637) (u := 0) (v := 15) (w := 0) (b := 0) (na := 257) (C2 := xC15) (as := [(2, 0)]) (s := []) rfl rfl rfl rfl rfl rfl rfl (sp15  hI    (by omega)) (fun r673 S674 hq675 => ?_)
        obtain ⟨z676, rfl, h677, h678, hI679, hF680, hR681⟩ := hq675
        have e682 := N23x.fr e_N23 hF680 hR681 rfl rfl rfl
        have e683 := CRx.fr e_CR hF680 rfl rfl
        have e684 := RTx.fr e_RT hF680 rfl rfl
        have e685 := RMex.fr e_RMe hF680 rfl rfl
        have e686 := RSx.fr e_RS hF680 rfl rfl
        have e687 := RThx.fr e_RTh hF680 rfl rfl
        have e688 := wRM_rm q_0 hR681
        refine Or.inr (Or.inl ⟨rfl, ?_⟩)
        refine r_pop (i := 638) rfl rfl ?_
        refine r_load (i := 639) (u := 2) (w := 2) rfl rfl rfl ?_
        refine r_call (i := 640) (u := 11) (v := 235) (w := 0) (b := 0) (na := 1025) (C2 := xC235) (as := [(2, 43)]) (s := []) rfl rfl rfl rfl rfl rfl rfl (sp235  hI679    (by omega)) (fun r689 S690 hq691 => ?_)
        obtain ⟨z692, rfl, h693, h694, hI695, hF696, hR697⟩ := hq691
        have e698 := N23x.fr e682 hF696 hR697 rfl rfl rfl
        have e699 := CRx.fr e683 hF696 rfl rfl
        have e700 := RTx.fr e684 hF696 rfl rfl
        have e701 := RMex.fr e685 hF696 rfl rfl
        have e702 := RSx.fr e686 hF696 rfl rfl
        have e703 := RThx.fr e687 hF696 rfl rfl
        have e704 := wRM_rm e688 hR697
        refine Or.inr (Or.inl ⟨rfl, ?_⟩)
        refine r_pop (i := 641) rfl rfl ?_
        refine r_goto (i := 642) (v := 643) rfl ?_
        refine r_iinc (i := 643) (u := 10) (v := 4) (s := 10) (L1 := [some ((6, 0)), some ((2, 0)), some ((2, 43)), some ((2, 81)), some (vi (i + 10)), none, none]) rfl rfl rfl rfl rfl ?_
        refine r_goto (i := 644) (v := 13) rfl ?_
        exact ih S690 hI695 e698 e699 e700 e701 e702 e703 (i + 10) ⟨by omega, by omega⟩ (by exact wRM_le e704 (by omega)) (by omega)
      · refine r_swK (i := 24) (u := 1) (v := 643) (k := 19) (t := 643) rfl rfl h24 (by decide) (by decide) rfl ?_
        refine r_iinc (i := 643) (u := 10) (v := 4) (s := 10) (L1 := [some ((6, 0)), some ((2, 0)), some ((2, 43)), some ((2, 81)), some (vi (i + 10)), none, none]) rfl rfl rfl rfl rfl ?_
        refine r_goto (i := 644) (v := 13) rfl ?_
        exact ih S hI e_N23 e_CR e_RT e_RMe e_RS e_RTh (i + 10) ⟨by omega, by omega⟩ (by exact wRM_le q_0 (by omega)) (by omega)
      · refine r_swK (i := 24) (u := 1) (v := 643) (k := 20) (t := 643) rfl rfl h25 (by decide) (by decide) rfl ?_
        refine r_iinc (i := 643) (u := 10) (v := 4) (s := 10) (L1 := [some ((6, 0)), some ((2, 0)), some ((2, 43)), some ((2, 81)), some (vi (i + 10)), none, none]) rfl rfl rfl rfl rfl ?_
        refine r_goto (i := 644) (v := 13) rfl ?_
        exact ih S hI e_N23 e_CR e_RT e_RMe e_RS e_RTh (i + 10) ⟨by omega, by omega⟩ (by exact wRM_le q_0 (by omega)) (by omega)
      · refine r_swK (i := 24) (u := 1) (v := 643) (k := 21) (t := 643) rfl rfl h26 (by decide) (by decide) rfl ?_
        refine r_iinc (i := 643) (u := 10) (v := 4) (s := 10) (L1 := [some ((6, 0)), some ((2, 0)), some ((2, 43)), some ((2, 81)), some (vi (i + 10)), none, none]) rfl rfl rfl rfl rfl ?_
        refine r_goto (i := 644) (v := 13) rfl ?_
        exact ih S hI e_N23 e_CR e_RT e_RMe e_RS e_RTh (i + 10) ⟨by omega, by omega⟩ (by exact wRM_le q_0 (by omega)) (by omega)
      · refine r_swK (i := 24) (u := 1) (v := 643) (k := 22) (t := 643) rfl rfl h27 (by decide) (by decide) rfl ?_
        refine r_iinc (i := 643) (u := 10) (v := 4) (s := 10) (L1 := [some ((6, 0)), some ((2, 0)), some ((2, 43)), some ((2, 81)), some (vi (i + 10)), none, none]) rfl rfl rfl rfl rfl ?_
        refine r_goto (i := 644) (v := 13) rfl ?_
        exact ih S hI e_N23 e_CR e_RT e_RMe e_RS e_RTh (i + 10) ⟨by omega, by omega⟩ (by exact wRM_le q_0 (by omega)) (by omega)
      · refine r_swK (i := 24) (u := 1) (v := 643) (k := 23) (t := 643) rfl rfl h28 (by decide) (by decide) rfl ?_
        refine r_iinc (i := 643) (u := 10) (v := 4) (s := 10) (L1 := [some ((6, 0)), some ((2, 0)), some ((2, 43)), some ((2, 81)), some (vi (i + 10)), none, none]) rfl rfl rfl rfl rfl ?_
        refine r_goto (i := 644) (v := 13) rfl ?_
        exact ih S hI e_N23 e_CR e_RT e_RMe e_RS e_RTh (i + 10) ⟨by omega, by omega⟩ (by exact wRM_le q_0 (by omega)) (by omega)
      · refine r_swK (i := 24) (u := 1) (v := 643) (k := 24) (t := 643) rfl rfl h29 (by decide) (by decide) rfl ?_
        refine r_iinc (i := 643) (u := 10) (v := 4) (s := 10) (L1 := [some ((6, 0)), some ((2, 0)), some ((2, 43)), some ((2, 81)), some (vi (i + 10)), none, none]) rfl rfl rfl rfl rfl ?_
        refine r_goto (i := 644) (v := 13) rfl ?_
        exact ih S hI e_N23 e_CR e_RT e_RMe e_RS e_RTh (i + 10) ⟨by omega, by omega⟩ (by exact wRM_le q_0 (by omega)) (by omega)
      · refine r_swK (i := 24) (u := 1) (v := 643) (k := 25) (t := 643) rfl rfl h30 (by decide) (by decide) rfl ?_
        refine r_iinc (i := 643) (u := 10) (v := 4) (s := 10) (L1 := [some ((6, 0)), some ((2, 0)), some ((2, 43)), some ((2, 81)), some (vi (i + 10)), none, none]) rfl rfl rfl rfl rfl ?_
        refine r_goto (i := 644) (v := 13) rfl ?_
        exact ih S hI e_N23 e_CR e_RT e_RMe e_RS e_RTh (i + 10) ⟨by omega, by omega⟩ (by exact wRM_le q_0 (by omega)) (by omega)
      · refine r_swK (i := 24) (u := 1) (v := 643) (k := 26) (t := 643) rfl rfl h31 (by decide) (by decide) rfl ?_
        refine r_iinc (i := 643) (u := 10) (v := 4) (s := 10) (L1 := [some ((6, 0)), some ((2, 0)), some ((2, 43)), some ((2, 81)), some (vi (i + 10)), none, none]) rfl rfl rfl rfl rfl ?_
        refine r_goto (i := 644) (v := 13) rfl ?_
        exact ih S hI e_N23 e_CR e_RT e_RMe e_RS e_RTh (i + 10) ⟨by omega, by omega⟩ (by exact wRM_le q_0 (by omega)) (by omega)
      · refine r_swK (i := 24) (u := 1) (v := 643) (k := 27) (t := 643) rfl rfl h32 (by decide) (by decide) rfl ?_
        refine r_iinc (i := 643) (u := 10) (v := 4) (s := 10) (L1 := [some ((6, 0)), some ((2, 0)), some ((2, 43)), some ((2, 81)), some (vi (i + 10)), none, none]) rfl rfl rfl rfl rfl ?_
        refine r_goto (i := 644) (v := 13) rfl ?_
        exact ih S hI e_N23 e_CR e_RT e_RMe e_RS e_RTh (i + 10) ⟨by omega, by omega⟩ (by exact wRM_le q_0 (by omega)) (by omega)
      · refine r_swK (i := 24) (u := 1) (v := 643) (k := 28) (t := 643) rfl rfl h33 (by decide) (by decide) rfl ?_
        refine r_iinc (i := 643) (u := 10) (v := 4) (s := 10) (L1 := [some ((6, 0)), some ((2, 0)), some ((2, 43)), some ((2, 81)), some (vi (i + 10)), none, none]) rfl rfl rfl rfl rfl ?_
        refine r_goto (i := 644) (v := 13) rfl ?_
        exact ih S hI e_N23 e_CR e_RT e_RMe e_RS e_RTh (i + 10) ⟨by omega, by omega⟩ (by exact wRM_le q_0 (by omega)) (by omega)
      · refine r_swK (i := 24) (u := 1) (v := 643) (k := 29) (t := 643) rfl rfl h34 (by decide) (by decide) rfl ?_
        refine r_iinc (i := 643) (u := 10) (v := 4) (s := 10) (L1 := [some ((6, 0)), some ((2, 0)), some ((2, 43)), some ((2, 81)), some (vi (i + 10)), none, none]) rfl rfl rfl rfl rfl ?_
        refine r_goto (i := 644) (v := 13) rfl ?_
        exact ih S hI e_N23 e_CR e_RT e_RMe e_RS e_RTh (i + 10) ⟨by omega, by omega⟩ (by exact wRM_le q_0 (by omega)) (by omega)
      · refine r_swK (i := 24) (u := 1) (v := 643) (k := 30) (t := 643) rfl rfl h35 (by decide) (by decide) rfl ?_
        refine r_iinc (i := 643) (u := 10) (v := 4) (s := 10) (L1 := [some ((6, 0)), some ((2, 0)), some ((2, 43)), some ((2, 81)), some (vi (i + 10)), none, none]) rfl rfl rfl rfl rfl ?_
        refine r_goto (i := 644) (v := 13) rfl ?_
        exact ih S hI e_N23 e_CR e_RT e_RMe e_RS e_RTh (i + 10) ⟨by omega, by omega⟩ (by exact wRM_le q_0 (by omega)) (by omega)
      · refine r_swK (i := 24) (u := 1) (v := 643) (k := 31) (t := 643) rfl rfl h36 (by decide) (by decide) rfl ?_
        refine r_iinc (i := 643) (u := 10) (v := 4) (s := 10) (L1 := [some ((6, 0)), some ((2, 0)), some ((2, 43)), some ((2, 81)), some (vi (i + 10)), none, none]) rfl rfl rfl rfl rfl ?_
        refine r_goto (i := 644) (v := 13) rfl ?_
        exact ih S hI e_N23 e_CR e_RT e_RMe e_RS e_RTh (i + 10) ⟨by omega, by omega⟩ (by exact wRM_le q_0 (by omega)) (by omega)
end XNC
