set_option linter.unusedVariables false
set_option maxRecDepth 4000
noncomputable section XNC
/-- ProxyForgeLaw.type -/
theorem sp179 {G : xk} {S : yS} {d : Nat} (hI : yI S) {kR : Int} {p0 : Int} (h_p0 : 0 ≤ p0 ∧ p0 ≤ 1) {p1 : Int} (h_p1 : -2147483648 ≤ p1 ∧ p1 ≤ 2147483647) {p2 : Int} (h_p2 : -2147483648 ≤ p2 ∧ p2 ≤ 2147483647) {p3 : Int} (h_p3 : -2147483648 ≤ p3 ∧ p3 ≤ 2147483647) (p_0 : wRM (kR + 1) S) (p_1 : 0 ≤ kR) (e_N23 : N23 S) (e_CR : CR S) (hd : 7 ≤ d) : yT xPr G LY xC179 0 [some ((2, 0)), some (vi p0), some (vi p1), some (vi p2), some (vi p3), some ((2, 81))] [] S d (fun r S' => ∃ z : Int, r = (1, vi z) ∧ 0 ≤ z ∧ z ≤ 2 ∧ wRM kR S' ∧ hTy S S' p0 p1 p2 p3 z ∧ (z = 0 → c6T S S' p3) ∧ N23 S' ∧ CR S' ∧ yI S' ∧ yFr [(1, 7)] [2, 3, 4, 5, 6, 81] S S') := by
  refine yT_pad 1 ?_
  show yT xPr G LY xC179 0 [some ((2, 0)), some (vi p0), some (vi p1), some (vi p2), some (vi p3), some ((2, 81)), none] [] S d _
  obtain ⟨d, rfl⟩ : ∃ q, d = q + 1 := ⟨d - 1, by omega⟩
  have hF : yFr [(1, 7)] [2, 3, 4, 5, 6, 81] S S := yFr.refl S
  have e_RM := p_0
  refine r_load (i := 0) (u := 5) (w := 2) rfl rfl rfl ?_
  refine r_const (i := 1) (u := 0) (z := 0) rfl rfl ?_
  refine r_load (i := 2) (u := 0) (w := 2) rfl rfl rfl ?_
  refine r_load (i := 3) (u := 1) (w := 0) rfl rfl rfl ?_
  refine r_load (i := 4) (u := 2) (w := 0) rfl rfl rfl ?_
  refine r_load (i := 5) (u := 3) (w := 0) rfl rfl rfl ?_
  refine r_load (i := 6) (u := 4) (w := 0) rfl rfl rfl ?_
  have h1 := hI.f tf1_7
  refine r_call (i := 7) (u := 3940705509310464) (v := 21) (w := 11) (b := 0) (na := 1285) (C2 := xC21) (as := [(2, 0), vi p0, vi p1, vi p2, vi p3]) (s := [vi 0, (2, 81)]) rfl rfl rfl rfl rfl rfl rfl (sp21 (b := p0) (fl := p1) (p := p2) (up := p3) hI ⟨by omega, by omega⟩ ⟨by omega, by omega⟩ ⟨by omega, by omega⟩ ⟨by omega, by omega⟩   (by omega)) (fun r2 S3 hq4 => ?_)
  rcases hq4 with hq5 | ⟨a7, c9, rfl, hc6, rfl⟩
  · obtain ⟨z8, rfl, h9, h10, tc11, tl12, tz13, ct14, c6t15, hI16, hF17, hR18⟩ := hq5
    have hF19 := hF.trans hF17 rfl rfl
    have e20 := N23x.fr e_N23 hF17 hR18 rfl rfl rfl
    have e21 := CRx.fr e_CR hF17 rfl rfl
    have e22 := wRM_rm e_RM hR18
    refine Or.inr (Or.inl ⟨rfl, ?_⟩)
    refine r_i2l (i := 8) rfl ⟨by omega, by omega⟩ ?_
    refine r_lastore (i := 9) rfl ly81 (by decide) (by omega) (by omega) ⟨by omega, by omega⟩ ?_
    have hI24 := hI16.seta0 (b := 81) (j := (0 : Int).toNat) (z := z8) rfl rfl
    have hF26 := hF19.seta (b := 81) (j := (0 : Int).toNat) (z := z8) rfl
    have e28 := N23x.seta e20 (b := 81) (j := (0 : Int).toNat) (z := z8) rfl
    have e29 := CRx.seta e21 (b := 81) (j := (0 : Int).toNat) (z := z8) rfl
    have e30 := wRM_a e22 (b := 81) (j := (0 : Int).toNat) (z := z8)
    refine yT_gen (fun S23 hS25 => ?_)
    rw [hS25] at hI24 hF26  e28 e29 e30
    refine r_goto (i := 10) (v := 17) rfl ?_
    refine r_const (i := 17) (u := 0) (z := 0) rfl rfl ?_
    exact r_retI (i := 18) rfl ⟨0, rfl, by omega, by omega, (by exact wRM_le e30 (by omega)), (by exact Or.inl ⟨rfl, tc11, tl12, by first | (subst hS25; exact ysa_eq.trans tz13) | (subst_vars; rfl), by subst hS25; exact cTy81 ct14⟩), (by intro _; subst hS25; exact c6t15), e28, e29, hI24, hF26⟩
  · obtain ⟨hI31, rm32⟩ := wRM_cost e_RM hI (by omega)
    have e33 : N23 (ycost S 1 6) := e_N23
    have e34 : CR (ycost S 1 6) := e_CR
    have hF35 : yFr [(1, 7)] [2, 3, 4, 5, 6, 81] S (ycost S 1 6) := hF
    rcases hc6 with ⟨rfl, xphc6⟩ | ⟨rfl, xphc6⟩
    · refine Or.inr (Or.inr (Or.inl ⟨rfl, rfl, by decide, ?_⟩))
      refine r_store (i := 11) (u := 6) (w := 2) (L1 := [some ((2, 0)), some (vi p0), some (vi p1), some (vi p2), some (vi p3), some ((2, 81)), some ((2, a7))]) rfl rfl rfl rfl ?_
      refine r_const (i := 12) (u := 1) (z := 1) rfl rfl ?_
      exact r_retI (i := 13) rfl ⟨1, rfl, by omega, by omega, (by exact wRM_le rm32 (by omega)), (by first | exact Or.inr (Or.inl ⟨rfl, xphc6, rfl, rfl⟩) | exact Or.inr (Or.inr ⟨rfl, xphc6.1, xphc6.2, rfl, rfl⟩)), (by intro hz; exact absurd hz (by omega)), e33, e34, hI31, hF35⟩
    · refine Or.inr (Or.inr (Or.inr ⟨rfl, (show (13 : Nat) ≠ 3940705509310464 / 65536 % 65536 by decide), rfl, by decide, ?_⟩))
      refine r_store (i := 14) (u := 6) (w := 2) (L1 := [some ((2, 0)), some (vi p0), some (vi p1), some (vi p2), some (vi p3), some ((2, 81)), some ((2, a7))]) rfl rfl rfl rfl ?_
      refine r_const (i := 15) (u := 2) (z := 2) rfl rfl ?_
      exact r_retI (i := 16) rfl ⟨2, rfl, by omega, by omega, (by exact wRM_le rm32 (by omega)), (by first | exact Or.inr (Or.inl ⟨rfl, xphc6, rfl, rfl⟩) | exact Or.inr (Or.inr ⟨rfl, xphc6.1, xphc6.2, rfl, rfl⟩)), (by intro hz; exact absurd hz (by omega)), e33, e34, hI31, hF35⟩
/-- ProxyForgeLaw.implement -/
theorem sp176 {G : xk} {S : yS} {d : Nat} (hI : yI S) {kR : Int} {p0 : Int} (h_p0 : -2147483648 ≤ p0 ∧ p0 ≤ 2147483647) {p1 : Int} (h_p1 : -2147483648 ≤ p1 ∧ p1 ≤ 2147483647) (p_0 : wRM (kR + 1) S) (p_1 : 0 ≤ kR) (e_N23 : N23 S) (e_CR : CR S) (hd : 7 ≤ d) : yT xPr G LY xC176 0 [some ((2, 0)), some (vi p0), some (vi p1)] [] S d (fun r S' => ∃ z : Int, r = (1, vi z) ∧ 0 ≤ z ∧ z ≤ 2 ∧ wRM kR S' ∧ hIm S S' p0 p1 z ∧ N23 S' ∧ CR S' ∧ yI S' ∧ yFr [] [6, 7, 8] S S') := by
  refine yT_pad 1 ?_
  show yT xPr G LY xC176 0 [some ((2, 0)), some (vi p0), some (vi p1), none] [] S d _
  obtain ⟨d, rfl⟩ : ∃ q, d = q + 1 := ⟨d - 1, by omega⟩
  have hF : yFr [] [6, 7, 8] S S := yFr.refl S
  have e_RM := p_0
  refine r_load (i := 0) (u := 0) (w := 2) rfl rfl rfl ?_
  refine r_load (i := 1) (u := 1) (w := 0) rfl rfl rfl ?_
  refine r_load (i := 2) (u := 2) (w := 0) rfl rfl rfl ?_
  refine r_call (i := 3) (u := 786432) (v := 10) (w := 5) (b := 0) (na := 771) (C2 := xC10) (as := [(2, 0), vi p0, vi p1]) (s := []) rfl rfl rfl rfl rfl rfl rfl (sp10 (t := p0) (f := p1) hI ⟨by omega, by omega⟩ ⟨by omega, by omega⟩   (by omega)) (fun r1 S2 hq3 => ?_)
  rcases hq3 with hq4 | ⟨a6, c9, rfl, hc5, rfl⟩
  · obtain ⟨rfl, ic7, ci28, hI9, hF10, hR11⟩ := hq4
    have hF12 := hF.trans hF10 rfl rfl
    have e13 := N23x.fr e_N23 hF10 hR11 rfl rfl rfl
    have e14 := CRx.fr e_CR hF10 rfl rfl
    have e15 := wRM_rm e_RM hR11
    refine Or.inl ⟨rfl, ?_⟩
    refine r_goto (i := 4) (v := 8) rfl ?_
    refine r_const (i := 8) (u := 0) (z := 0) rfl rfl ?_
    exact r_retI (i := 9) rfl ⟨0, rfl, by omega, by omega, (by exact wRM_le e15 (by omega)), (by exact Or.inl ⟨rfl, ic7, ci28⟩), e13, e14, hI9, hF12⟩
  · obtain ⟨hI16, rm17⟩ := wRM_cost e_RM hI (by omega)
    have e18 : N23 (ycost S 1 6) := e_N23
    have e19 : CR (ycost S 1 6) := e_CR
    have hF20 : yFr [] [6, 7, 8] S (ycost S 1 6) := hF
    obtain ⟨rfl, xphc5⟩ := hc5
    · refine Or.inr (Or.inr (Or.inl ⟨rfl, rfl, by decide, ?_⟩))
      refine r_store (i := 5) (u := 3) (w := 2) (L1 := [some ((2, 0)), some (vi p0), some (vi p1), some ((2, a6))]) rfl rfl rfl rfl ?_
      refine r_const (i := 6) (u := 1) (z := 1) rfl rfl ?_
      exact r_retI (i := 7) rfl ⟨1, rfl, by omega, by omega, (by exact wRM_le rm17 (by omega)), (by exact Or.inr ⟨rfl, xphc5, rfl, rfl⟩), e18, e19, hI16, hF20⟩
/-- ProxyForgeLaw.method -/
theorem sp177 {G : xk} {S : yS} {d : Nat} (hI : yI S) {kR : Int} {p0 : Int} (h_p0 : -2147483648 ≤ p0 ∧ p0 ≤ 2147483647) {p1 : Int} (h_p1 : -2147483648 ≤ p1 ∧ p1 ≤ 2147483647) {p2 : Int} (h_p2 : -2147483648 ≤ p2 ∧ p2 ≤ 2147483647) {p3 : Int} (h_p3 : -2147483648 ≤ p3 ∧ p3 ≤ 2147483647) {p4 : Int} (h_p4 : -2147483648 ≤ p4 ∧ p4 ≤ 2147483647) (p_0 : wRM (kR + 1) S) (p_1 : 0 ≤ kR) (e_N23 : N23 S) (e_CR : CR S) (hd : 7 ≤ d) : yT xPr G LY xC177 0 [some ((2, 0)), some (vi p0), some (vi p1), some (vi p2), some (vi p3), some (vi p4), some ((2, 81))] [] S d (fun r S' => ∃ z : Int, r = (1, vi z) ∧ 0 ≤ z ∧ z ≤ 2 ∧ wRM kR S' ∧ hMe S S' p0 p1 p2 p3 p4 z ∧ N23 S' ∧ CR S' ∧ yI S' ∧ yFr [(9, 8)] [10, 11, 12, 13, 14, 81] S S') := by
  refine yT_pad 1 ?_
  show yT xPr G LY xC177 0 [some ((2, 0)), some (vi p0), some (vi p1), some (vi p2), some (vi p3), some (vi p4), some ((2, 81)), none] [] S d _
  obtain ⟨d, rfl⟩ : ∃ q, d = q + 1 := ⟨d - 1, by omega⟩
  have hF : yFr [(9, 8)] [10, 11, 12, 13, 14, 81] S S := yFr.refl S
  have e_RM := p_0
  refine r_load (i := 0) (u := 6) (w := 2) rfl rfl rfl ?_
  refine r_const (i := 1) (u := 0) (z := 0) rfl rfl ?_
  refine r_load (i := 2) (u := 0) (w := 2) rfl rfl rfl ?_
  refine r_load (i := 3) (u := 1) (w := 0) rfl rfl rfl ?_
  refine r_load (i := 4) (u := 2) (w := 0) rfl rfl rfl ?_
  refine r_load (i := 5) (u := 3) (w := 0) rfl rfl rfl ?_
  refine r_load (i := 6) (u := 4) (w := 0) rfl rfl rfl ?_
  refine r_load (i := 7) (u := 5) (w := 0) rfl rfl rfl ?_
  have h1 := hI.f tf9_8
  refine r_call (i := 8) (u := 4222180486021120) (v := 13) (w := 12) (b := 0) (na := 1542) (C2 := xC13) (as := [(2, 0), vi p0, vi p1, vi p2, vi p3, vi p4]) (s := [vi 0, (2, 81)]) rfl rfl rfl rfl rfl rfl rfl (sp13 (t := p0) (w0 := p1) (fl := p2) (p := p3) (b := p4) hI ⟨by omega, by omega⟩ ⟨by omega, by omega⟩ ⟨by omega, by omega⟩ ⟨by omega, by omega⟩ ⟨by omega, by omega⟩   (by omega)) (fun r2 S3 hq4 => ?_)
  rcases hq4 with hq5 | ⟨a7, c9, rfl, hc6, rfl⟩
  · obtain ⟨z8, rfl, h9, h10, tc11, tl12, tz13, ct14, hI15, hF16, hR17⟩ := hq5
    have hF18 := hF.trans hF16 rfl rfl
    have e19 := N23x.fr e_N23 hF16 hR17 rfl rfl rfl
    have e20 := CRx.fr e_CR hF16 rfl rfl
    have e21 := wRM_rm e_RM hR17
    refine Or.inr (Or.inl ⟨rfl, ?_⟩)
    refine r_i2l (i := 9) rfl ⟨by omega, by omega⟩ ?_
    refine r_lastore (i := 10) rfl ly81 (by decide) (by omega) (by omega) ⟨by omega, by omega⟩ ?_
    have hI23 := hI15.seta0 (b := 81) (j := (0 : Int).toNat) (z := z8) rfl rfl
    have hF25 := hF18.seta (b := 81) (j := (0 : Int).toNat) (z := z8) rfl
    have e27 := N23x.seta e19 (b := 81) (j := (0 : Int).toNat) (z := z8) rfl
    have e28 := CRx.seta e20 (b := 81) (j := (0 : Int).toNat) (z := z8) rfl
    have e29 := wRM_a e21 (b := 81) (j := (0 : Int).toNat) (z := z8)
    refine yT_gen (fun S22 hS24 => ?_)
    rw [hS24] at hI23 hF25  e27 e28 e29
    refine r_goto (i := 11) (v := 18) rfl ?_
    refine r_const (i := 18) (u := 0) (z := 0) rfl rfl ?_
    exact r_retI (i := 19) rfl ⟨0, rfl, by omega, by omega, (by exact wRM_le e29 (by omega)), (by exact Or.inl ⟨rfl, tc11, tl12, by first | (subst hS24; exact ysa_eq.trans tz13) | (subst_vars; rfl), by subst hS24; exact cMe81 ct14⟩), e27, e28, hI23, hF25⟩
  · obtain ⟨hI30, rm31⟩ := wRM_cost e_RM hI (by omega)
    have e32 : N23 (ycost S 1 6) := e_N23
    have e33 : CR (ycost S 1 6) := e_CR
    have hF34 : yFr [(9, 8)] [10, 11, 12, 13, 14, 81] S (ycost S 1 6) := hF
    rcases hc6 with ⟨rfl, xphc6⟩ | ⟨rfl, xphc6⟩
    · refine Or.inr (Or.inr (Or.inl ⟨rfl, rfl, by decide, ?_⟩))
      refine r_store (i := 12) (u := 7) (w := 2) (L1 := [some ((2, 0)), some (vi p0), some (vi p1), some (vi p2), some (vi p3), some (vi p4), some ((2, 81)), some ((2, a7))]) rfl rfl rfl rfl ?_
      refine r_const (i := 13) (u := 1) (z := 1) rfl rfl ?_
      exact r_retI (i := 14) rfl ⟨1, rfl, by omega, by omega, (by exact wRM_le rm31 (by omega)), (by first | exact Or.inr (Or.inl ⟨rfl, xphc6, rfl, rfl⟩) | exact Or.inr (Or.inr ⟨rfl, xphc6.1, xphc6.2, rfl, rfl⟩)), e32, e33, hI30, hF34⟩
    · refine Or.inr (Or.inr (Or.inr ⟨rfl, (show (13 : Nat) ≠ 4222180486021120 / 65536 % 65536 by decide), rfl, by decide, ?_⟩))
      refine r_store (i := 15) (u := 7) (w := 2) (L1 := [some ((2, 0)), some (vi p0), some (vi p1), some (vi p2), some (vi p3), some (vi p4), some ((2, 81)), some ((2, a7))]) rfl rfl rfl rfl ?_
      refine r_const (i := 16) (u := 2) (z := 2) rfl rfl ?_
      exact r_retI (i := 17) rfl ⟨2, rfl, by omega, by omega, (by exact wRM_le rm31 (by omega)), (by first | exact Or.inr (Or.inl ⟨rfl, xphc6, rfl, rfl⟩) | exact Or.inr (Or.inr ⟨rfl, xphc6.1, xphc6.2, rfl, rfl⟩)), e32, e33, hI30, hF34⟩
/-- ProxyForgeLaw.throwing -/
theorem sp178 {G : xk} {S : yS} {d : Nat} (hI : yI S) {kR : Int} {p0 : Int} (h_p0 : -2147483648 ≤ p0 ∧ p0 ≤ 2147483647) {p1 : Int} (h_p1 : -2147483648 ≤ p1 ∧ p1 ≤ 2147483647) (p_0 : wRM (kR + 1) S) (p_1 : 0 ≤ kR) (e_N23 : N23 S) (e_CR : CR S) (hd : 7 ≤ d) : yT xPr G LY xC178 0 [some ((2, 0)), some (vi p0), some (vi p1)] [] S d (fun r S' => ∃ z : Int, r = (1, vi z) ∧ 0 ≤ z ∧ z ≤ 2 ∧ wRM kR S' ∧ N23 S' ∧ CR S' ∧ yI S' ∧ yFr [] [15, 16] S S') := by
  refine yT_pad 1 ?_
  show yT xPr G LY xC178 0 [some ((2, 0)), some (vi p0), some (vi p1), none] [] S d _
  obtain ⟨d, rfl⟩ : ∃ q, d = q + 1 := ⟨d - 1, by omega⟩
  have hF : yFr [] [15, 16] S S := yFr.refl S
  have e_RM := p_0
  refine r_load (i := 0) (u := 0) (w := 2) rfl rfl rfl ?_
  refine r_load (i := 1) (u := 1) (w := 0) rfl rfl rfl ?_
  refine r_load (i := 2) (u := 2) (w := 0) rfl rfl rfl ?_
  refine r_call (i := 3) (u := 786432) (v := 20) (w := 5) (b := 0) (na := 771) (C2 := xC20) (as := [(2, 0), vi p0, vi p1]) (s := []) rfl rfl rfl rfl rfl rfl rfl (sp20 (m := p0) (t := p1) hI ⟨by omega, by omega⟩ ⟨by omega, by omega⟩   (by omega)) (fun r1 S2 hq3 => ?_)
  rcases hq3 with hq4 | ⟨a6, c9, rfl, hc5, rfl⟩
  · obtain ⟨rfl, hI7, hF8, hR9⟩ := hq4
    have hF10 := hF.trans hF8 rfl rfl
    have e11 := N23x.fr e_N23 hF8 hR9 rfl rfl rfl
    have e12 := CRx.fr e_CR hF8 rfl rfl
    have e13 := wRM_rm e_RM hR9
    refine Or.inl ⟨rfl, ?_⟩
    refine r_goto (i := 4) (v := 8) rfl ?_
    refine r_const (i := 8) (u := 0) (z := 0) rfl rfl ?_
    exact r_retI (i := 9) rfl ⟨0, rfl, by omega, by omega, (by exact wRM_le e13 (by omega)), e11, e12, hI7, hF10⟩
  · obtain ⟨hI14, rm15⟩ := wRM_cost e_RM hI (by omega)
    have e16 : N23 (ycost S 1 6) := e_N23
    have e17 : CR (ycost S 1 6) := e_CR
    have hF18 : yFr [] [15, 16] S (ycost S 1 6) := hF
    obtain rfl := hc5
    · refine Or.inr (Or.inr (Or.inl ⟨rfl, rfl, by decide, ?_⟩))
      refine r_store (i := 5) (u := 3) (w := 2) (L1 := [some ((2, 0)), some (vi p0), some (vi p1), some ((2, a6))]) rfl rfl rfl rfl ?_
      refine r_const (i := 6) (u := 1) (z := 1) rfl rfl ?_
      exact r_retI (i := 7) rfl ⟨1, rfl, by omega, by omega, (by exact wRM_le rm15 (by omega)), e16, e17, hI14, hF18⟩
/-- ProxyForgeLaw.forge -/
theorem sp175 {G : xk} {S : yS} {d : Nat} (hI : yI S) {kR : Int} {p0 : Int} (h_p0 : -2147483648 ≤ p0 ∧ p0 ≤ 2147483647) {p1 : Int} (h_p1 : -2147483648 ≤ p1 ∧ p1 ≤ 2147483647) {p2 : Int} (h_p2 : -2147483648 ≤ p2 ∧ p2 ≤ 2147483647) {p3 : Int} (h_p3 : -2147483648 ≤ p3 ∧ p3 ≤ 2147483647) (p_0 : wRM (kR + 1) S) (p_1 : 0 ≤ kR) (e_N23 : N23 S) (e_CR : CR S) (hd : 26 ≤ d) : yT xPr G LY xC175 0 [some ((2, 0)), some (vi p0), some (vi p1), some (vi p2), some (vi p3), some ((2, 81))] [] S d (fun r S' => ∃ z : Int, r = (1, vi z) ∧ 0 ≤ z ∧ z ≤ 2 ∧ wRM kR S' ∧ hFx S S' p0 p1 p2 p3 z ∧ N23 S' ∧ CR S' ∧ yI S' ∧ yFr [(17, 6), (17, 7), (17, 8), (17, 9), (17, 10), (17, 11), (17, 12), (22, 3), (31, 1), (33, 7), (33, 8), (33, 9), (33, 10), (33, 11), (33, 12), (33, 13), (33, 14), (33, 15), (34, 1), (36, 5)] [18, 19, 20, 21, 23, 24, 25, 37, 81, 100, 101, 102, 103, 105] S S') := by
  refine yT_pad 1 ?_
  show yT xPr G LY xC175 0 [some ((2, 0)), some (vi p0), some (vi p1), some (vi p2), some (vi p3), some ((2, 81)), none] [] S d _
  obtain ⟨d, rfl⟩ : ∃ q, d = q + 1 := ⟨d - 1, by omega⟩
  have hF : yFr [(17, 6), (17, 7), (17, 8), (17, 9), (17, 10), (17, 11), (17, 12), (22, 3), (31, 1), (33, 7), (33, 8), (33, 9), (33, 10), (33, 11), (33, 12), (33, 13), (33, 14), (33, 15), (34, 1), (36, 5)] [18, 19, 20, 21, 23, 24, 25, 37, 81, 100, 101, 102, 103, 105] S S := yFr.refl S
  have e_RM := p_0
  refine r_load (i := 0) (u := 5) (w := 2) rfl rfl rfl ?_
  refine r_const (i := 1) (u := 0) (z := 0) rfl rfl ?_
  refine r_load (i := 2) (u := 0) (w := 2) rfl rfl rfl ?_
  refine r_load (i := 3) (u := 1) (w := 0) rfl rfl rfl ?_
  refine r_load (i := 4) (u := 2) (w := 0) rfl rfl rfl ?_
  refine r_load (i := 5) (u := 3) (w := 0) rfl rfl rfl ?_
  refine r_load (i := 6) (u := 4) (w := 0) rfl rfl rfl ?_
  refine r_call (i := 7) (u := 786432) (v := 8) (w := 11) (b := 0) (na := 1797) (C2 := xC8) (as := [(2, 0), vi p0, vi p1, vi p2, vi p3]) (s := [vi 0, (2, 81)]) rfl rfl rfl rfl rfl rfl rfl (sp8 (t := p0) (fa := p1) (fb := p2) (fc := p3) hI ⟨by omega, by omega⟩ ⟨by omega, by omega⟩ ⟨by omega, by omega⟩ ⟨by omega, by omega⟩  e_N23 (by omega)) (fun r1 S2 hq3 => ?_)
  rcases hq3 with hq4 | ⟨a6, c9, rfl, hc5, rfl⟩
  · obtain ⟨z7, rfl, h8, h9, fo10, e11, hI12, hF13, hR14⟩ := hq4
    have hF15 := hF.trans hF13 rfl rfl
    have e16 := CRx.fr e_CR hF13 rfl rfl
    have e17 := wRM_rm e_RM hR14
    refine Or.inr (Or.inl ⟨rfl, ?_⟩)
    refine r_i2l (i := 8) rfl ⟨by omega, by omega⟩ ?_
    refine r_lastore (i := 9) rfl ly81 (by decide) (by omega) (by omega) ⟨by omega, by omega⟩ ?_
    have hI19 := hI12.seta0 (b := 81) (j := (0 : Int).toNat) (z := z7) rfl rfl
    have hF21 := hF15.seta (b := 81) (j := (0 : Int).toNat) (z := z7) rfl
    have e23 := CRx.seta e16 (b := 81) (j := (0 : Int).toNat) (z := z7) rfl
    have e24 := wRM_a e17 (b := 81) (j := (0 : Int).toNat) (z := z7)
    have e25 := N23x.seta e11 (b := 81) (j := (0 : Int).toNat) (z := z7) rfl
    refine yT_gen (fun S18 hS20 => ?_)
    rw [hS20] at hI19 hF21  e23 e24 e25
    refine r_goto (i := 10) (v := 14) rfl ?_
    refine r_const (i := 14) (u := 0) (z := 0) rfl rfl ?_
    exact r_retI (i := 15) rfl ⟨0, rfl, by omega, by omega, (by exact wRM_le e24 (by omega)), (by exact Or.inl ⟨rfl, by subst hS20; rw [ysa_eq]; exact foX_81 fo10⟩), e25, e23, hI19, hF21⟩
  · obtain ⟨hI26, rm27⟩ := wRM_cost e_RM hI (by omega)
    have e28 : N23 (ycost S 1 6) := e_N23
    have e29 : CR (ycost S 1 6) := e_CR
    have hF30 : yFr [(17, 6), (17, 7), (17, 8), (17, 9), (17, 10), (17, 11), (17, 12), (22, 3), (31, 1), (33, 7), (33, 8), (33, 9), (33, 10), (33, 11), (33, 12), (33, 13), (33, 14), (33, 15), (34, 1), (36, 5)] [18, 19, 20, 21, 23, 24, 25, 37, 81, 100, 101, 102, 103, 105] S (ycost S 1 6) := hF
    obtain ⟨rfl, xphc5⟩ := hc5
    · refine Or.inr (Or.inr (Or.inl ⟨rfl, rfl, by decide, ?_⟩))
      refine r_store (i := 11) (u := 6) (w := 2) (L1 := [some ((2, 0)), some (vi p0), some (vi p1), some (vi p2), some (vi p3), some ((2, 81)), some ((2, a6))]) rfl rfl rfl rfl ?_
      refine r_const (i := 12) (u := 1) (z := 1) rfl rfl ?_
      exact r_retI (i := 13) rfl ⟨1, rfl, by omega, by omega, (by exact wRM_le rm27 (by omega)), (by exact Or.inr ⟨rfl, xphc5, rfl, fun _ => rfl, fun _ => rfl, fun _ => rfl⟩), e28, e29, hI26, hF30⟩
/-- ProxyForgeLaw.answer -/
theorem sp173 {G : xk} {S : yS} {d : Nat} (hI : yI S) {kR : Int} {p0 : Int} (h_p0 : -2147483648 ≤ p0 ∧ p0 ≤ 2147483647) {p1 : Int} (h_p1 : Rl p1) (p_0 : wRM (kR + 1) S) (p_1 : 0 ≤ kR) (e_N23 : N23 S) (e_CR : CR S) (hd : 7 ≤ d) : yT xPr G LY xC173 0 [some ((2, 0)), some (vi p0), some (vl p1), none] [] S d (fun r S' => ∃ z : Int, r = (1, vi z) ∧ 0 ≤ z ∧ z ≤ 2 ∧ wRM kR S' ∧ N23 S' ∧ CR S' ∧ yI S' ∧ yFr [(26, 4), (26, 5)] [] S S') := by
  refine yT_pad 1 ?_
  show yT xPr G LY xC173 0 [some ((2, 0)), some (vi p0), some (vl p1), none, none] [] S d _
  obtain ⟨d, rfl⟩ : ∃ q, d = q + 1 := ⟨d - 1, by omega⟩
  have hF : yFr [(26, 4), (26, 5)] [] S S := yFr.refl S
  have e_RM := p_0
  refine r_load (i := 0) (u := 0) (w := 2) rfl rfl rfl ?_
  refine r_load (i := 1) (u := 1) (w := 0) rfl rfl rfl ?_
  refine r_load (i := 2) (u := 2) (w := 1) rfl rfl rfl ?_
  refine r_call (i := 3) (u := 786432) (v := 1) (w := 5) (b := 0) (na := 1027) (C2 := xC1) (as := [(2, 0), vi p0, vl p1]) (s := []) rfl rfl rfl rfl rfl rfl rfl (sp1 (k := p0) (v := p1) hI ⟨by omega, by omega⟩ ⟨by omega, by omega⟩   (by omega)) (fun r1 S2 hq3 => ?_)
  rcases hq3 with hq4 | ⟨a6, c9, rfl, hc5, rfl⟩
  · obtain ⟨rfl, hI7, hF8, hR9⟩ := hq4
    have hF10 := hF.trans hF8 rfl rfl
    have e11 := N23x.fr e_N23 hF8 hR9 rfl rfl rfl
    have e12 := CRx.fr e_CR hF8 rfl rfl
    have e13 := wRM_rm e_RM hR9
    refine Or.inl ⟨rfl, ?_⟩
    refine r_goto (i := 4) (v := 8) rfl ?_
    refine r_const (i := 8) (u := 0) (z := 0) rfl rfl ?_
    exact r_retI (i := 9) rfl ⟨0, rfl, by omega, by omega, (by exact wRM_le e13 (by omega)), e11, e12, hI7, hF10⟩
  · obtain ⟨hI14, rm15⟩ := wRM_cost e_RM hI (by omega)
    have e16 : N23 (ycost S 1 6) := e_N23
    have e17 : CR (ycost S 1 6) := e_CR
    have hF18 : yFr [(26, 4), (26, 5)] [] S (ycost S 1 6) := hF
    obtain rfl := hc5
    · refine Or.inr (Or.inr (Or.inl ⟨rfl, rfl, by decide, ?_⟩))
      refine r_store (i := 5) (u := 4) (w := 2) (L1 := [some ((2, 0)), some (vi p0), some (vl p1), none, some ((2, a6))]) rfl rfl rfl rfl ?_
      refine r_const (i := 6) (u := 1) (z := 1) rfl rfl ?_
      exact r_retI (i := 7) rfl ⟨1, rfl, by omega, by omega, (by exact wRM_le rm15 (by omega)), e16, e17, hI14, hF18⟩
/-- ProxyForgeLaw.call -/
theorem sp174 {G : xk} {S : yS} {d : Nat} (hI : yI S) {kR : Int} {p0 : Int} (h_p0 : -2147483648 ≤ p0 ∧ p0 ≤ 2147483647) {p1 : Int} (h_p1 : Rl p1) {p2 : Int} (h_p2 : Rl p2) {p3 : Int} (h_p3 : Rl p3) {p4 : Int} (h_p4 : Rl p4) (p_0 : wRM (kR + 1) S) (p_1 : 0 ≤ kR) (e_N23 : N23 S) (e_CR : CR S) (hd : 7 ≤ d) : yT xPr G LY xC174 0 [some ((2, 0)), some (vi p0), some (vl p1), none, some (vl p2), none, some (vl p3), none, some (vl p4), none, some ((2, 81))] [] S d (fun r S' => ∃ z : Int, r = (1, vi z) ∧ 0 ≤ z ∧ z ≤ 2 ∧ wRM kR S' ∧ N23 S' ∧ CR S' ∧ yI S' ∧ yFr [(26, 2), (26, 3), (29, 5)] [27, 28, 30, 81] S S') := by
  refine yT_pad 1 ?_
  show yT xPr G LY xC174 0 [some ((2, 0)), some (vi p0), some (vl p1), none, some (vl p2), none, some (vl p3), none, some (vl p4), none, some ((2, 81)), none] [] S d _
  obtain ⟨d, rfl⟩ : ∃ q, d = q + 1 := ⟨d - 1, by omega⟩
  have hF : yFr [(26, 2), (26, 3), (29, 5)] [27, 28, 30, 81] S S := yFr.refl S
  have e_RM := p_0
  refine r_load (i := 0) (u := 10) (w := 2) rfl rfl rfl ?_
  refine r_const (i := 1) (u := 0) (z := 0) rfl rfl ?_
  refine r_load (i := 2) (u := 0) (w := 2) rfl rfl rfl ?_
  refine r_load (i := 3) (u := 1) (w := 0) rfl rfl rfl ?_
  refine r_load (i := 4) (u := 2) (w := 1) rfl rfl rfl ?_
  refine r_load (i := 5) (u := 4) (w := 1) rfl rfl rfl ?_
  refine r_load (i := 6) (u := 6) (w := 1) rfl rfl rfl ?_
  refine r_load (i := 7) (u := 8) (w := 1) rfl rfl rfl ?_
  refine r_call (i := 8) (u := 786432) (v := 5) (w := 12) (b := 0) (na := 2566) (C2 := xC5) (as := [(2, 0), vi p0, vl p1, vl p2, vl p3, vl p4]) (s := [vi 0, (2, 81)]) rfl rfl rfl rfl rfl rfl rfl (sp5 (k := p0) (a := p1) (b := p2) (c := p3) (e := p4) hI ⟨by omega, by omega⟩ ⟨by omega, by omega⟩ ⟨by omega, by omega⟩ ⟨by omega, by omega⟩ ⟨by omega, by omega⟩   (by omega)) (fun r1 S2 hq3 => ?_)
  rcases hq3 with hq4 | ⟨a6, c9, rfl, hc5, rfl⟩
  · obtain ⟨z7, rfl, h8, h9, hI10, hF11, hR12⟩ := hq4
    have hF13 := hF.trans hF11 rfl rfl
    have e14 := N23x.fr e_N23 hF11 hR12 rfl rfl rfl
    have e15 := CRx.fr e_CR hF11 rfl rfl
    have e16 := wRM_rm e_RM hR12
    refine Or.inr (Or.inl ⟨rfl, ?_⟩)
    refine r_i2l (i := 9) rfl ⟨by omega, by omega⟩ ?_
    refine r_lastore (i := 10) rfl ly81 (by decide) (by omega) (by omega) ⟨by omega, by omega⟩ ?_
    have hI18 := hI10.seta0 (b := 81) (j := (0 : Int).toNat) (z := z7) rfl rfl
    have hF20 := hF13.seta (b := 81) (j := (0 : Int).toNat) (z := z7) rfl
    have e22 := N23x.seta e14 (b := 81) (j := (0 : Int).toNat) (z := z7) rfl
    have e23 := CRx.seta e15 (b := 81) (j := (0 : Int).toNat) (z := z7) rfl
    have e24 := wRM_a e16 (b := 81) (j := (0 : Int).toNat) (z := z7)
    refine yT_gen (fun S17 hS19 => ?_)
    rw [hS19] at hI18 hF20  e22 e23 e24
    refine r_goto (i := 11) (v := 15) rfl ?_
    refine r_const (i := 15) (u := 0) (z := 0) rfl rfl ?_
    exact r_retI (i := 16) rfl ⟨0, rfl, by omega, by omega, (by exact wRM_le e24 (by omega)), e22, e23, hI18, hF20⟩
  · obtain ⟨hI25, rm26⟩ := wRM_cost e_RM hI (by omega)
    have e27 : N23 (ycost S 1 6) := e_N23
    have e28 : CR (ycost S 1 6) := e_CR
    have hF29 : yFr [(26, 2), (26, 3), (29, 5)] [27, 28, 30, 81] S (ycost S 1 6) := hF
    obtain rfl := hc5
    · refine Or.inr (Or.inr (Or.inl ⟨rfl, rfl, by decide, ?_⟩))
      refine r_store (i := 12) (u := 11) (w := 2) (L1 := [some ((2, 0)), some (vi p0), some (vl p1), none, some (vl p2), none, some (vl p3), none, some (vl p4), none, some ((2, 81)), some ((2, a6))]) rfl rfl rfl rfl ?_
      refine r_const (i := 13) (u := 1) (z := 1) rfl rfl ?_
      exact r_retI (i := 14) rfl ⟨1, rfl, by omega, by omega, (by exact wRM_le rm26 (by omega)), e27, e28, hI25, hF29⟩
set_option maxHeartbeats 4000000 in
theorem lp280_13 {G : xk} {d : Nat} {S0 : yS} {nS : Nat} {sc : Nat → Int} (hG : ySc G nS sc) (hn5 : nS ≤ 5120) (hd : 27 ≤ d + 1) : ∀ (n : Nat), ∀ (S : yS) (hI : yI S) (e_N23 : N23 S) (e_CR : CR S) (e_RT : RT S) (e_RMe : RMe S) (e_RS : RS S) (e_RI : RI S) (e_RK : RK S) (e_RSl : RSl S) (i : Int) (h_i : 0 ≤ i ∧ i ≤ 5120) (q_0 : wRM (5200 - i) S) (hn : 5120 - i < (n : Nat)), yT xPr G LY xC280 13 [some ((6, 0)), some ((2, 0)), some ((2, 43)), some ((2, 81)), some (vi i), none, none] [] S (d + 1) (fun r S' => ∃ z : Int, r = (1, vi z) ∧ 1 ≤ z ∧ z ≤ 1) := by
  intro n
  induction n with
  | zero => intro S hI e_N23 e_CR e_RT e_RMe e_RS e_RI e_RK e_RSl i h_i q_0 hn; exact absurd hn (by omega)
  | succ n ih =>
    intro S hI e_N23 e_CR e_RT e_RMe e_RS e_RI e_RK e_RSl i h_i q_0 hn
    refine r_load (i := 13) (u := 4) (w := 0) rfl rfl rfl ?_
    refine r_load (i := 14) (u := 0) (w := 2) rfl rfl rfl ?_
    refine r_scN (i := 15) hG rfl ?_
    refine r_const (i := 16) (u := 10) (z := 10) rfl rfl ?_
    refine r_isub (i := 17) rfl ?_
    refine c_gt (i := 18) (v := 639) rfl ⟨by omega, by omega⟩ ⟨by omega, by omega⟩ (fun h1 => ?_) (fun h2 => ?_)
    · refine r_const (i := 639) (u := 1) (z := 1) rfl rfl ?_
      exact r_retZ (i := 640) rfl (by omega) (by omega) ⟨1, rfl, by omega, by omega⟩
    · refine r_load (i := 19) (u := 0) (w := 2) rfl rfl rfl ?_
      refine r_load (i := 20) (u := 4) (w := 0) rfl rfl rfl ?_
      refine r_scA (i := 21) hG rfl (by omega) (by omega) fun h3 => ?_
      have h3 : Rg (sc i.toNat) := h3
      refine r_const (i := 22) (u := 31) (z := 31) rfl rfl ?_
      refine r_iand (i := 23) rfl ?_
      have h4 := @yand_c (sc i.toNat) 31 (by decide) (by decide)
      rcases (show (yand (sc i.toNat) 31) = 0 ∨ (yand (sc i.toNat) 31) = 1 ∨ (yand (sc i.toNat) 31) = 2 ∨ (yand (sc i.toNat) 31) = 3 ∨ (yand (sc i.toNat) 31) = 4 ∨ (yand (sc i.toNat) 31) = 5 ∨ (yand (sc i.toNat) 31) = 6 ∨ (yand (sc i.toNat) 31) = 7 ∨ (yand (sc i.toNat) 31) = 8 ∨ (yand (sc i.toNat) 31) = 9 ∨ (yand (sc i.toNat) 31) = 10 ∨ (yand (sc i.toNat) 31) = 11 ∨ (yand (sc i.toNat) 31) = 12 ∨ (yand (sc i.toNat) 31) = 13 ∨ (yand (sc i.toNat) 31) = 14 ∨ (yand (sc i.toNat) 31) = 15 ∨ (yand (sc i.toNat) 31) = 16 ∨ (yand (sc i.toNat) 31) = 17 ∨ (yand (sc i.toNat) 31) = 18 ∨ (yand (sc i.toNat) 31) = 19 ∨ (yand (sc i.toNat) 31) = 20 ∨ (yand (sc i.toNat) 31) = 21 ∨ (yand (sc i.toNat) 31) = 22 ∨ (yand (sc i.toNat) 31) = 23 ∨ (yand (sc i.toNat) 31) = 24 ∨ (yand (sc i.toNat) 31) = 25 ∨ (yand (sc i.toNat) 31) = 26 ∨ (yand (sc i.toNat) 31) = 27 ∨ (yand (sc i.toNat) 31) = 28 ∨ (yand (sc i.toNat) 31) = 29 ∨ (yand (sc i.toNat) 31) = 30 ∨ (yand (sc i.toNat) 31) = 31 by omega) with h5 | h6 | h7 | h8 | h9 | h10 | h11 | h12 | h13 | h14 | h15 | h16 | h17 | h18 | h19 | h20 | h21 | h22 | h23 | h24 | h25 | h26 | h27 | h28 | h29 | h30 | h31 | h32 | h33 | h34 | h35 | h36
      · refine r_swK (i := 24) (u := 1) (v := 637) (k := 0) (t := 25) rfl rfl h5 (by decide) (by decide) rfl ?_
        refine r_load (i := 25) (u := 1) (w := 2) rfl rfl rfl ?_
        refine r_load (i := 26) (u := 0) (w := 2) rfl rfl rfl ?_
        refine r_load (i := 27) (u := 4) (w := 0) rfl rfl rfl ?_
        refine r_const (i := 28) (u := 1) (z := 1) rfl rfl ?_
        refine r_iadd (i := 29) rfl ?_
        refine r_scA (i := 30) hG rfl (by omega) (by omega) fun h37 => ?_
        have h37 : Rg (sc (i + 1).toNat) := h37
        refine z_eq (i := 31) (v := 34) rfl ⟨by omega, by omega⟩ (fun h38 => ?_) (fun h39 => ?_)
        · refine r_const (i := 34) (u := 0) (z := 0) rfl rfl ?_
          refine r_load (i := 35) (u := 0) (w := 2) rfl rfl rfl ?_
          refine r_load (i := 36) (u := 4) (w := 0) rfl rfl rfl ?_
          refine r_const (i := 37) (u := 2) (z := 2) rfl rfl ?_
          refine r_iadd (i := 38) rfl ?_
          refine r_scA (i := 39) hG rfl (by omega) (by omega) fun h40 => ?_
          have h40 : Rg (sc (i + 2).toNat) := h40
          refine r_load (i := 40) (u := 0) (w := 2) rfl rfl rfl ?_
          refine r_load (i := 41) (u := 4) (w := 0) rfl rfl rfl ?_
          refine r_const (i := 42) (u := 3) (z := 3) rfl rfl ?_
          refine r_iadd (i := 43) rfl ?_
          refine r_scA (i := 44) hG rfl (by omega) (by omega) fun h41 => ?_
          have h41 : Rg (sc (i + 3).toNat) := h41
          refine r_load (i := 45) (u := 0) (w := 2) rfl rfl rfl ?_
          refine r_load (i := 46) (u := 4) (w := 0) rfl rfl rfl ?_
          refine r_const (i := 47) (u := 4) (z := 4) rfl rfl ?_
          refine r_iadd (i := 48) rfl ?_
          refine r_scA (i := 49) hG rfl (by omega) (by omega) fun h42 => ?_
          have h42 : Rg (sc (i + 4).toNat) := h42
          refine r_load (i := 50) (u := 3) (w := 2) rfl rfl rfl ?_
          refine r_call (i := 51) (u := 65535) (v := 179) (w := 0) (b := 2) (na := 1798) (C2 := xC179) (as := [(2, 0), vi 0, vi (sc (i + 2).toNat), vi (sc (i + 3).toNat), vi (sc (i + 4).toNat), (2, 81)]) (s := []) rfl rfl rfl rfl rfl rfl rfl (sp179 (p0 := 0) (p1 := sc (i + 2).toNat) (p2 := sc (i + 3).toNat) (p3 := sc (i + 4).toNat) (kR := 5199 - i) hI ⟨by omega, by omega⟩ ⟨by omega, by omega⟩ ⟨by omega, by omega⟩ ⟨by omega, by omega⟩ (by exact wRM_le q_0 (by omega)) (by omega) e_N23 e_CR (by omega)) (fun r43 S44 hq45 => ?_)
          obtain ⟨z46, rfl, h47, h48, rm49, ht50, c6h51, e52, e53, hI54, hF55⟩ := hq45
          have e56 := RMex.fr e_RMe hF55 rfl rfl
          have e57 := RKx.fr e_RK hF55 rfl rfl
          have e58 := RSlx.fr e_RSl hF55 rfl rfl
          refine Or.inr (Or.inl ⟨rfl, ?_⟩)
          have rs9 := RS_type e_RS (hI.f tf1_7).1 (by omega) ht50 c6h51 hF55 rfl
          have ri9 := RI_type e_RI e_RS.1 (hI.f tf1_7).1 ht50 hF55 rfl
          refine r_store (i := 52) (u := 5) (w := 0) (L1 := [some ((6, 0)), some ((2, 0)), some ((2, 43)), some ((2, 81)), some (vi i), some (vi z46), none]) rfl rfl rfl rfl ?_
          refine r_load (i := 53) (u := 2) (w := 2) rfl rfl rfl ?_
          refine r_load (i := 54) (u := 0) (w := 2) rfl rfl rfl ?_
          refine r_load (i := 55) (u := 4) (w := 0) rfl rfl rfl ?_
          refine r_const (i := 56) (u := 1) (z := 1) rfl rfl ?_
          refine r_iadd (i := 57) rfl ?_
          refine r_scA (i := 58) hG rfl (by omega) (by omega) fun h59 => ?_
          have h59 : Rg (sc (i + 1).toNat) := h59
          refine z_eq (i := 59) (v := 62) rfl ⟨by omega, by omega⟩ (fun h60 => ?_) (fun h61 => absurd h61 (by omega))
          refine r_const (i := 62) (u := 0) (z := 0) rfl rfl ?_
          refine r_load (i := 63) (u := 0) (w := 2) rfl rfl rfl ?_
          refine r_load (i := 64) (u := 4) (w := 0) rfl rfl rfl ?_
          refine r_const (i := 65) (u := 2) (z := 2) rfl rfl ?_
          refine r_iadd (i := 66) rfl ?_
          refine r_scA (i := 67) hG rfl (by omega) (by omega) fun h62 => ?_
          have h62 : Rg (sc (i + 2).toNat) := h62
          refine r_load (i := 68) (u := 0) (w := 2) rfl rfl rfl ?_
          refine r_load (i := 69) (u := 4) (w := 0) rfl rfl rfl ?_
          refine r_const (i := 70) (u := 3) (z := 3) rfl rfl ?_
          refine r_iadd (i := 71) rfl ?_
          refine r_scA (i := 72) hG rfl (by omega) (by omega) fun h63 => ?_
          have h63 : Rg (sc (i + 3).toNat) := h63
          refine r_load (i := 73) (u := 0) (w := 2) rfl rfl rfl ?_
          refine r_load (i := 74) (u := 4) (w := 0) rfl rfl rfl ?_
          refine r_const (i := 75) (u := 4) (z := 4) rfl rfl ?_
          refine r_iadd (i := 76) rfl ?_
          refine r_scA (i := 77) hG rfl (by omega) (by omega) fun h64 => ?_
          have h64 : Rg (sc (i + 4).toNat) := h64
          refine r_call (i := 78) (u := 11) (v := 258) (w := 0) (b := 0) (na := 1541) (C2 := xC258) (as := [(2, 43), vi 0, vi (sc (i + 2).toNat), vi (sc (i + 3).toNat), vi (sc (i + 4).toNat)]) (s := []) rfl rfl rfl rfl rfl rfl rfl (sp258 (b := 0) (bits := sc (i + 2).toNat) (p := sc (i + 3).toNat) (up := sc (i + 4).toNat) hI54 ⟨by omega, by omega⟩ ⟨by omega, by omega⟩ ⟨by omega, by omega⟩ ⟨by omega, by omega⟩   (by omega)) (fun r65 S66 hq67 => ?_)
          obtain ⟨z68, rfl, h69, h70, mq71, hI72, hF73, hR74⟩ := hq67
          have e75 := RMex.fr e56 hF73 rfl rfl
          have e76 := RSlx.fr e58 hF73 rfl rfl
          have e77 := N23x.fr e52 hF73 hR74 rfl rfl rfl
          have e78 := CRx.fr e53 hF73 rfl rfl
          have e79 := wRM_rm rm49 hR74
          have e80 := RSx.fr rs9 hF73 rfl rfl
          have e81 := RIx.fr ri9 hF73 rfl rfl
          refine Or.inr (Or.inl ⟨rfl, ?_⟩)
          have rt9 := (RT_type e_RT (by omega) (Int.le_trans (by decide) (hI.f tf1_7).1) ht50 hF55 rfl rfl mq71 hF73 rfl rfl).1
          have rk9 := (RT_type e_RT (by omega) (Int.le_trans (by decide) (hI.f tf1_7).1) ht50 hF55 rfl rfl mq71 hF73 rfl rfl).2.1
          have ro9 := (RT_type e_RT (by omega) (Int.le_trans (by decide) (hI.f tf1_7).1) ht50 hF55 rfl rfl mq71 hF73 rfl rfl).2.2
          have rk8 := RK_type (RKx.fr e_RK hF55 rfl rfl) mq71 hF73 rfl
          refine r_store (i := 79) (u := 6) (w := 0) (L1 := [some ((6, 0)), some ((2, 0)), some ((2, 43)), some ((2, 81)), some (vi i), some (vi z46), some (vi z68)]) rfl rfl rfl rfl ?_
          refine r_goto (i := 80) (v := 637) rfl ?_
          refine r_iinc (i := 637) (u := 10) (v := 4) (s := 10) (L1 := [some ((6, 0)), some ((2, 0)), some ((2, 43)), some ((2, 81)), some (vi (i + 10)), some (vi z46), some (vi z68)]) rfl rfl rfl rfl rfl ?_
          refine r_goto (i := 638) (v := 13) rfl ?_
          refine yT_drop (L1 := [some ((6, 0)), some ((2, 0)), some ((2, 43)), some ((2, 81)), some (vi (i + 10)), none, none]) rfl ?_
          exact ih S66 hI72 e77 e78 rt9 e75 e80 e81 rk8 e76 (i + 10) ⟨by omega, by omega⟩ (by exact wRM_le e79 (by omega)) (by omega)
        · refine r_const (i := 32) (u := 1) (z := 1) rfl rfl ?_
          refine r_goto (i := 33) (v := 35) rfl ?_
          refine r_load (i := 35) (u := 0) (w := 2) rfl rfl rfl ?_
          refine r_load (i := 36) (u := 4) (w := 0) rfl rfl rfl ?_
          refine r_const (i := 37) (u := 2) (z := 2) rfl rfl ?_
          refine r_iadd (i := 38) rfl ?_
          refine r_scA (i := 39) hG rfl (by omega) (by omega) fun h82 => ?_
          have h82 : Rg (sc (i + 2).toNat) := h82
          refine r_load (i := 40) (u := 0) (w := 2) rfl rfl rfl ?_
          refine r_load (i := 41) (u := 4) (w := 0) rfl rfl rfl ?_
          refine r_const (i := 42) (u := 3) (z := 3) rfl rfl ?_
          refine r_iadd (i := 43) rfl ?_
          refine r_scA (i := 44) hG rfl (by omega) (by omega) fun h83 => ?_
          have h83 : Rg (sc (i + 3).toNat) := h83
          refine r_load (i := 45) (u := 0) (w := 2) rfl rfl rfl ?_
          refine r_load (i := 46) (u := 4) (w := 0) rfl rfl rfl ?_
          refine r_const (i := 47) (u := 4) (z := 4) rfl rfl ?_
          refine r_iadd (i := 48) rfl ?_
          refine r_scA (i := 49) hG rfl (by omega) (by omega) fun h84 => ?_
          have h84 : Rg (sc (i + 4).toNat) := h84
          refine r_load (i := 50) (u := 3) (w := 2) rfl rfl rfl ?_
          refine r_call (i := 51) (u := 65535) (v := 179) (w := 0) (b := 2) (na := 1798) (C2 := xC179) (as := [(2, 0), vi 1, vi (sc (i + 2).toNat), vi (sc (i + 3).toNat), vi (sc (i + 4).toNat), (2, 81)]) (s := []) rfl rfl rfl rfl rfl rfl rfl (sp179 (p0 := 1) (p1 := sc (i + 2).toNat) (p2 := sc (i + 3).toNat) (p3 := sc (i + 4).toNat) (kR := 5199 - i) hI ⟨by omega, by omega⟩ ⟨by omega, by omega⟩ ⟨by omega, by omega⟩ ⟨by omega, by omega⟩ (by exact wRM_le q_0 (by omega)) (by omega) e_N23 e_CR (by omega)) (fun r85 S86 hq87 => ?_)
          obtain ⟨z88, rfl, h89, h90, rm91, ht92, c6h93, e94, e95, hI96, hF97⟩ := hq87
          have e98 := RMex.fr e_RMe hF97 rfl rfl
          have e99 := RKx.fr e_RK hF97 rfl rfl
          have e100 := RSlx.fr e_RSl hF97 rfl rfl
          refine Or.inr (Or.inl ⟨rfl, ?_⟩)
          have rs9 := RS_type e_RS (hI.f tf1_7).1 (by omega) ht92 c6h93 hF97 rfl
          have ri9 := RI_type e_RI e_RS.1 (hI.f tf1_7).1 ht92 hF97 rfl
          refine r_store (i := 52) (u := 5) (w := 0) (L1 := [some ((6, 0)), some ((2, 0)), some ((2, 43)), some ((2, 81)), some (vi i), some (vi z88), none]) rfl rfl rfl rfl ?_
          refine r_load (i := 53) (u := 2) (w := 2) rfl rfl rfl ?_
          refine r_load (i := 54) (u := 0) (w := 2) rfl rfl rfl ?_
          refine r_load (i := 55) (u := 4) (w := 0) rfl rfl rfl ?_
          refine r_const (i := 56) (u := 1) (z := 1) rfl rfl ?_
          refine r_iadd (i := 57) rfl ?_
          refine r_scA (i := 58) hG rfl (by omega) (by omega) fun h101 => ?_
          have h101 : Rg (sc (i + 1).toNat) := h101
          refine z_eq (i := 59) (v := 62) rfl ⟨by omega, by omega⟩ (fun h102 => absurd h102 (by omega)) (fun h103 => ?_)
          refine r_const (i := 60) (u := 1) (z := 1) rfl rfl ?_
          refine r_goto (i := 61) (v := 63) rfl ?_
          refine r_load (i := 63) (u := 0) (w := 2) rfl rfl rfl ?_
          refine r_load (i := 64) (u := 4) (w := 0) rfl rfl rfl ?_
          refine r_const (i := 65) (u := 2) (z := 2) rfl rfl ?_
          refine r_iadd (i := 66) rfl ?_
          refine r_scA (i := 67) hG rfl (by omega) (by omega) fun h104 => ?_
          have h104 : Rg (sc (i + 2).toNat) := h104
          refine r_load (i := 68) (u := 0) (w := 2) rfl rfl rfl ?_
          refine r_load (i := 69) (u := 4) (w := 0) rfl rfl rfl ?_
          refine r_const (i := 70) (u := 3) (z := 3) rfl rfl ?_
          refine r_iadd (i := 71) rfl ?_
          refine r_scA (i := 72) hG rfl (by omega) (by omega) fun h105 => ?_
          have h105 : Rg (sc (i + 3).toNat) := h105
          refine r_load (i := 73) (u := 0) (w := 2) rfl rfl rfl ?_
          refine r_load (i := 74) (u := 4) (w := 0) rfl rfl rfl ?_
          refine r_const (i := 75) (u := 4) (z := 4) rfl rfl ?_
          refine r_iadd (i := 76) rfl ?_
          refine r_scA (i := 77) hG rfl (by omega) (by omega) fun h106 => ?_
          have h106 : Rg (sc (i + 4).toNat) := h106
          refine r_call (i := 78) (u := 11) (v := 258) (w := 0) (b := 0) (na := 1541) (C2 := xC258) (as := [(2, 43), vi 1, vi (sc (i + 2).toNat), vi (sc (i + 3).toNat), vi (sc (i + 4).toNat)]) (s := []) rfl rfl rfl rfl rfl rfl rfl (sp258 (b := 1) (bits := sc (i + 2).toNat) (p := sc (i + 3).toNat) (up := sc (i + 4).toNat) hI96 ⟨by omega, by omega⟩ ⟨by omega, by omega⟩ ⟨by omega, by omega⟩ ⟨by omega, by omega⟩   (by omega)) (fun r107 S108 hq109 => ?_)
          obtain ⟨z110, rfl, h111, h112, mq113, hI114, hF115, hR116⟩ := hq109
          have e117 := RMex.fr e98 hF115 rfl rfl
          have e118 := RSlx.fr e100 hF115 rfl rfl
          have e119 := N23x.fr e94 hF115 hR116 rfl rfl rfl
          have e120 := CRx.fr e95 hF115 rfl rfl
          have e121 := wRM_rm rm91 hR116
          have e122 := RSx.fr rs9 hF115 rfl rfl
          have e123 := RIx.fr ri9 hF115 rfl rfl
          refine Or.inr (Or.inl ⟨rfl, ?_⟩)
          have rt9 := (RT_type e_RT (by omega) (Int.le_trans (by decide) (hI.f tf1_7).1) ht92 hF97 rfl rfl mq113 hF115 rfl rfl).1
          have rk9 := (RT_type e_RT (by omega) (Int.le_trans (by decide) (hI.f tf1_7).1) ht92 hF97 rfl rfl mq113 hF115 rfl rfl).2.1
          have ro9 := (RT_type e_RT (by omega) (Int.le_trans (by decide) (hI.f tf1_7).1) ht92 hF97 rfl rfl mq113 hF115 rfl rfl).2.2
          have rk8 := RK_type (RKx.fr e_RK hF97 rfl rfl) mq113 hF115 rfl
          refine r_store (i := 79) (u := 6) (w := 0) (L1 := [some ((6, 0)), some ((2, 0)), some ((2, 43)), some ((2, 81)), some (vi i), some (vi z88), some (vi z110)]) rfl rfl rfl rfl ?_
          refine r_goto (i := 80) (v := 637) rfl ?_
          refine r_iinc (i := 637) (u := 10) (v := 4) (s := 10) (L1 := [some ((6, 0)), some ((2, 0)), some ((2, 43)), some ((2, 81)), some (vi (i + 10)), some (vi z88), some (vi z110)]) rfl rfl rfl rfl rfl ?_
          refine r_goto (i := 638) (v := 13) rfl ?_
          refine yT_drop (L1 := [some ((6, 0)), some ((2, 0)), some ((2, 43)), some ((2, 81)), some (vi (i + 10)), none, none]) rfl ?_
          exact ih S108 hI114 e119 e120 rt9 e117 e122 e123 rk8 e118 (i + 10) ⟨by omega, by omega⟩ (by exact wRM_le e121 (by omega)) (by omega)
      · refine r_swK (i := 24) (u := 1) (v := 637) (k := 1) (t := 81) rfl rfl h6 (by decide) (by decide) rfl ?_
        refine r_load (i := 81) (u := 1) (w := 2) rfl rfl rfl ?_
        refine r_load (i := 82) (u := 0) (w := 2) rfl rfl rfl ?_
        refine r_load (i := 83) (u := 4) (w := 0) rfl rfl rfl ?_
        refine r_const (i := 84) (u := 1) (z := 1) rfl rfl ?_
        refine r_iadd (i := 85) rfl ?_
        refine r_scA (i := 86) hG rfl (by omega) (by omega) fun h124 => ?_
        have h124 : Rg (sc (i + 1).toNat) := h124
        refine r_load (i := 87) (u := 0) (w := 2) rfl rfl rfl ?_
        refine r_load (i := 88) (u := 4) (w := 0) rfl rfl rfl ?_
        refine r_const (i := 89) (u := 2) (z := 2) rfl rfl ?_
        refine r_iadd (i := 90) rfl ?_
        refine r_scA (i := 91) hG rfl (by omega) (by omega) fun h125 => ?_
        have h125 : Rg (sc (i + 2).toNat) := h125
        refine r_call (i := 92) (u := 65535) (v := 176) (w := 0) (b := 2) (na := 1027) (C2 := xC176) (as := [(2, 0), vi (sc (i + 1).toNat), vi (sc (i + 2).toNat)]) (s := []) rfl rfl rfl rfl rfl rfl rfl (sp176 (p0 := sc (i + 1).toNat) (p1 := sc (i + 2).toNat) (kR := 5199 - i) hI ⟨by omega, by omega⟩ ⟨by omega, by omega⟩ (by exact wRM_le q_0 (by omega)) (by omega) e_N23 e_CR (by omega)) (fun r126 S127 hq128 => ?_)
        obtain ⟨z129, rfl, h130, h131, rm132, him133, e134, e135, hI136, hF137⟩ := hq128
        have e138 := RTx.fr e_RT hF137 rfl rfl
        have e139 := RMex.fr e_RMe hF137 rfl rfl
        have e140 := RKx.fr e_RK hF137 rfl rfl
        have e141 := RSlx.fr e_RSl hF137 rfl rfl
        refine Or.inr (Or.inl ⟨rfl, ?_⟩)
        have ri9 := RI_impl e_RI e_RS.2.2.2 (fun j => hI.a ta7 j) him133 hF137 rfl rfl
        refine r_store (i := 93) (u := 5) (w := 0) (L1 := [some ((6, 0)), some ((2, 0)), some ((2, 43)), some ((2, 81)), some (vi i), some (vi z129), none]) rfl rfl rfl rfl ?_
        refine r_load (i := 94) (u := 2) (w := 2) rfl rfl rfl ?_
        refine r_load (i := 95) (u := 0) (w := 2) rfl rfl rfl ?_
        refine r_load (i := 96) (u := 4) (w := 0) rfl rfl rfl ?_
        refine r_const (i := 97) (u := 1) (z := 1) rfl rfl ?_
        refine r_iadd (i := 98) rfl ?_
        refine r_scA (i := 99) hG rfl (by omega) (by omega) fun h142 => ?_
        have h142 : Rg (sc (i + 1).toNat) := h142
        refine r_load (i := 100) (u := 0) (w := 2) rfl rfl rfl ?_
        refine r_load (i := 101) (u := 4) (w := 0) rfl rfl rfl ?_
        refine r_const (i := 102) (u := 2) (z := 2) rfl rfl ?_
        refine r_iadd (i := 103) rfl ?_
        refine r_scA (i := 104) hG rfl (by omega) (by omega) fun h143 => ?_
        have h143 : Rg (sc (i + 2).toNat) := h143
        refine r_call (i := 105) (u := 11) (v := 206) (w := 0) (b := 0) (na := 1283) (C2 := xC206) (as := [(2, 43), vi (sc (i + 1).toNat), vi (sc (i + 2).toNat)]) (s := []) rfl rfl rfl rfl rfl rfl rfl (sp206 (t := sc (i + 1).toNat) (f := sc (i + 2).toNat) hI136 ⟨by omega, by omega⟩ ⟨by omega, by omega⟩   (by omega)) (fun r144 S145 hq146 => ?_)
        obtain ⟨rfl, mi147, hI148, hF149, hR150⟩ := hq146
        have e151 := RTx.fr e138 hF149 rfl rfl
        have e152 := RMex.fr e139 hF149 rfl rfl
        have e153 := RKx.fr e140 hF149 rfl rfl
        have e154 := RSlx.fr e141 hF149 rfl rfl
        have e155 := N23x.fr e134 hF149 hR150 rfl rfl rfl
        have e156 := CRx.fr e135 hF149 rfl rfl
        have e157 := wRM_rm rm132 hR150
        have e158 := RIx.fr ri9 hF149 rfl rfl
        refine Or.inl ⟨rfl, ?_⟩
        have rs9 := (RS_impl e_RT e_RS hI.m3 (fun j => hI.a ta7 j) (hI.f tf1_7).2 him133 hF137 rfl rfl mi147 hF149 rfl rfl).1
        have rk9 := (RS_impl e_RT e_RS hI.m3 (fun j => hI.a ta7 j) (hI.f tf1_7).2 him133 hF137 rfl rfl mi147 hF149 rfl rfl).2
        refine r_goto (i := 106) (v := 637) rfl ?_
        refine r_iinc (i := 637) (u := 10) (v := 4) (s := 10) (L1 := [some ((6, 0)), some ((2, 0)), some ((2, 43)), some ((2, 81)), some (vi (i + 10)), some (vi z129), none]) rfl rfl rfl rfl rfl ?_
        refine r_goto (i := 638) (v := 13) rfl ?_
        refine yT_drop (L1 := [some ((6, 0)), some ((2, 0)), some ((2, 43)), some ((2, 81)), some (vi (i + 10)), none, none]) rfl ?_
        exact ih S145 hI148 e155 e156 e151 e152 rs9 e158 e153 e154 (i + 10) ⟨by omega, by omega⟩ (by exact wRM_le e157 (by omega)) (by omega)
      · refine r_swK (i := 24) (u := 1) (v := 637) (k := 2) (t := 107) rfl rfl h7 (by decide) (by decide) rfl ?_
        refine r_load (i := 107) (u := 1) (w := 2) rfl rfl rfl ?_
        refine r_load (i := 108) (u := 0) (w := 2) rfl rfl rfl ?_
        refine r_load (i := 109) (u := 4) (w := 0) rfl rfl rfl ?_
        refine r_const (i := 110) (u := 1) (z := 1) rfl rfl ?_
        refine r_iadd (i := 111) rfl ?_
        refine r_scA (i := 112) hG rfl (by omega) (by omega) fun h159 => ?_
        have h159 : Rg (sc (i + 1).toNat) := h159
        refine r_load (i := 113) (u := 0) (w := 2) rfl rfl rfl ?_
        refine r_load (i := 114) (u := 4) (w := 0) rfl rfl rfl ?_
        refine r_const (i := 115) (u := 2) (z := 2) rfl rfl ?_
        refine r_iadd (i := 116) rfl ?_
        refine r_scA (i := 117) hG rfl (by omega) (by omega) fun h160 => ?_
        have h160 : Rg (sc (i + 2).toNat) := h160
        refine r_load (i := 118) (u := 0) (w := 2) rfl rfl rfl ?_
        refine r_load (i := 119) (u := 4) (w := 0) rfl rfl rfl ?_
        refine r_const (i := 120) (u := 3) (z := 3) rfl rfl ?_
        refine r_iadd (i := 121) rfl ?_
        refine r_scA (i := 122) hG rfl (by omega) (by omega) fun h161 => ?_
        have h161 : Rg (sc (i + 3).toNat) := h161
        refine r_load (i := 123) (u := 0) (w := 2) rfl rfl rfl ?_
        refine r_load (i := 124) (u := 4) (w := 0) rfl rfl rfl ?_
        refine r_const (i := 125) (u := 4) (z := 4) rfl rfl ?_
        refine r_iadd (i := 126) rfl ?_
        refine r_scA (i := 127) hG rfl (by omega) (by omega) fun h162 => ?_
        have h162 : Rg (sc (i + 4).toNat) := h162
        refine r_load (i := 128) (u := 0) (w := 2) rfl rfl rfl ?_
        refine r_load (i := 129) (u := 4) (w := 0) rfl rfl rfl ?_
        refine r_const (i := 130) (u := 5) (z := 5) rfl rfl ?_
        refine r_iadd (i := 131) rfl ?_
        refine r_scA (i := 132) hG rfl (by omega) (by omega) fun h163 => ?_
        have h163 : Rg (sc (i + 5).toNat) := h163
        refine r_load (i := 133) (u := 3) (w := 2) rfl rfl rfl ?_
        refine r_call (i := 134) (u := 65535) (v := 177) (w := 0) (b := 2) (na := 2055) (C2 := xC177) (as := [(2, 0), vi (sc (i + 1).toNat), vi (sc (i + 2).toNat), vi (sc (i + 3).toNat), vi (sc (i + 4).toNat), vi (sc (i + 5).toNat), (2, 81)]) (s := []) rfl rfl rfl rfl rfl rfl rfl (sp177 (p0 := sc (i + 1).toNat) (p1 := sc (i + 2).toNat) (p2 := sc (i + 3).toNat) (p3 := sc (i + 4).toNat) (p4 := sc (i + 5).toNat) (kR := 5199 - i) hI ⟨by omega, by omega⟩ ⟨by omega, by omega⟩ ⟨by omega, by omega⟩ ⟨by omega, by omega⟩ ⟨by omega, by omega⟩ (by exact wRM_le q_0 (by omega)) (by omega) e_N23 e_CR (by omega)) (fun r164 S165 hq166 => ?_)
        obtain ⟨z167, rfl, h168, h169, rm170, hme171, e172, e173, hI174, hF175⟩ := hq166
        have e176 := RTx.fr e_RT hF175 rfl rfl
        have e177 := RSx.fr e_RS hF175 rfl rfl
        have e178 := RIx.fr e_RI hF175 rfl rfl
        have e179 := RKx.fr e_RK hF175 rfl rfl
        have e180 := RSlx.fr e_RSl hF175 rfl rfl
        refine Or.inr (Or.inl ⟨rfl, ?_⟩)
        refine r_store (i := 135) (u := 5) (w := 0) (L1 := [some ((6, 0)), some ((2, 0)), some ((2, 43)), some ((2, 81)), some (vi i), some (vi z167), none]) rfl rfl rfl rfl ?_
        refine r_load (i := 136) (u := 2) (w := 2) rfl rfl rfl ?_
        refine r_load (i := 137) (u := 0) (w := 2) rfl rfl rfl ?_
        refine r_load (i := 138) (u := 4) (w := 0) rfl rfl rfl ?_
        refine r_const (i := 139) (u := 1) (z := 1) rfl rfl ?_
        refine r_iadd (i := 140) rfl ?_
        refine r_scA (i := 141) hG rfl (by omega) (by omega) fun h181 => ?_
        have h181 : Rg (sc (i + 1).toNat) := h181
        refine r_load (i := 142) (u := 0) (w := 2) rfl rfl rfl ?_
        refine r_load (i := 143) (u := 4) (w := 0) rfl rfl rfl ?_
        refine r_const (i := 144) (u := 2) (z := 2) rfl rfl ?_
        refine r_iadd (i := 145) rfl ?_
        refine r_scA (i := 146) hG rfl (by omega) (by omega) fun h182 => ?_
        have h182 : Rg (sc (i + 2).toNat) := h182
        refine r_load (i := 147) (u := 0) (w := 2) rfl rfl rfl ?_
        refine r_load (i := 148) (u := 4) (w := 0) rfl rfl rfl ?_
        refine r_const (i := 149) (u := 3) (z := 3) rfl rfl ?_
        refine r_iadd (i := 150) rfl ?_
        refine r_scA (i := 151) hG rfl (by omega) (by omega) fun h183 => ?_
        have h183 : Rg (sc (i + 3).toNat) := h183
        refine r_load (i := 152) (u := 0) (w := 2) rfl rfl rfl ?_
        refine r_load (i := 153) (u := 4) (w := 0) rfl rfl rfl ?_
        refine r_const (i := 154) (u := 4) (z := 4) rfl rfl ?_
        refine r_iadd (i := 155) rfl ?_
        refine r_scA (i := 156) hG rfl (by omega) (by omega) fun h184 => ?_
        have h184 : Rg (sc (i + 4).toNat) := h184
        refine r_load (i := 157) (u := 0) (w := 2) rfl rfl rfl ?_
        refine r_load (i := 158) (u := 4) (w := 0) rfl rfl rfl ?_
        refine r_const (i := 159) (u := 5) (z := 5) rfl rfl ?_
        refine r_iadd (i := 160) rfl ?_
        refine r_scA (i := 161) hG rfl (by omega) (by omega) fun h185 => ?_
        have h185 : Rg (sc (i + 5).toNat) := h185
        refine r_call (i := 162) (u := 11) (v := 220) (w := 0) (b := 0) (na := 1542) (C2 := xC220) (as := [(2, 43), vi (sc (i + 1).toNat), vi (sc (i + 2).toNat), vi (sc (i + 3).toNat), vi (sc (i + 4).toNat), vi (sc (i + 5).toNat)]) (s := []) rfl rfl rfl rfl rfl rfl rfl (sp220 (t := sc (i + 1).toNat) (w0 := sc (i + 2).toNat) (bits := sc (i + 3).toNat) (al := sc (i + 4).toNat) (back := sc (i + 5).toNat) hI174 ⟨by omega, by omega⟩ ⟨by omega, by omega⟩ ⟨by omega, by omega⟩ ⟨by omega, by omega⟩ ⟨by omega, by omega⟩  e173 (by omega)) (fun r186 S187 hq188 => ?_)
        obtain ⟨z189, rfl, h190, h191, mq192, e193, hI194, hF195, hR196⟩ := hq188
        have e197 := RTx.fr e176 hF195 rfl rfl
        have e198 := RSx.fr e177 hF195 rfl rfl
        have e199 := RIx.fr e178 hF195 rfl rfl
        have e200 := RSlx.fr e180 hF195 rfl rfl
        have e201 := N23x.fr e172 hF195 hR196 rfl rfl rfl
        have e202 := wRM_rm rm170 hR196
        refine Or.inr (Or.inl ⟨rfl, ?_⟩)
        have rm9 := (RMe_method e_RT e_RMe hme171 hF175 rfl rfl mq192 hF195 rfl rfl).1
        have rk9 := (RMe_method e_RT e_RMe hme171 hF175 rfl rfl mq192 hF195 rfl rfl).2.1
        have ro9 := (RMe_method e_RT e_RMe hme171 hF175 rfl rfl mq192 hF195 rfl rfl).2.2
        have rk8 := RK_meth (RKx.fr e_RK hF175 rfl rfl) (Int.le_trans (hI.f tf43_1).1 (Int.le_of_eq (hF175.f rfl).symm)) mq192 hF195 rfl
        refine r_store (i := 163) (u := 6) (w := 0) (L1 := [some ((6, 0)), some ((2, 0)), some ((2, 43)), some ((2, 81)), some (vi i), some (vi z167), some (vi z189)]) rfl rfl rfl rfl ?_
        refine r_goto (i := 164) (v := 637) rfl ?_
        refine r_iinc (i := 637) (u := 10) (v := 4) (s := 10) (L1 := [some ((6, 0)), some ((2, 0)), some ((2, 43)), some ((2, 81)), some (vi (i + 10)), some (vi z167), some (vi z189)]) rfl rfl rfl rfl rfl ?_
        refine r_goto (i := 638) (v := 13) rfl ?_
        refine yT_drop (L1 := [some ((6, 0)), some ((2, 0)), some ((2, 43)), some ((2, 81)), some (vi (i + 10)), none, none]) rfl ?_
        exact ih S187 hI194 e201 e193 e197 rm9 e198 e199 rk8 e200 (i + 10) ⟨by omega, by omega⟩ (by exact wRM_le e202 (by omega)) (by omega)
      · refine r_swK (i := 24) (u := 1) (v := 637) (k := 3) (t := 165) rfl rfl h8 (by decide) (by decide) rfl ?_
        refine r_load (i := 165) (u := 1) (w := 2) rfl rfl rfl ?_
        refine r_load (i := 166) (u := 0) (w := 2) rfl rfl rfl ?_
        refine r_load (i := 167) (u := 4) (w := 0) rfl rfl rfl ?_
        refine r_const (i := 168) (u := 1) (z := 1) rfl rfl ?_
        refine r_iadd (i := 169) rfl ?_
        refine r_scA (i := 170) hG rfl (by omega) (by omega) fun h203 => ?_
        have h203 : Rg (sc (i + 1).toNat) := h203
        refine r_load (i := 171) (u := 0) (w := 2) rfl rfl rfl ?_
        refine r_load (i := 172) (u := 4) (w := 0) rfl rfl rfl ?_
        refine r_const (i := 173) (u := 2) (z := 2) rfl rfl ?_
        refine r_iadd (i := 174) rfl ?_
        refine r_scA (i := 175) hG rfl (by omega) (by omega) fun h204 => ?_
        have h204 : Rg (sc (i + 2).toNat) := h204
        refine r_call (i := 176) (u := 65535) (v := 178) (w := 0) (b := 2) (na := 1027) (C2 := xC178) (as := [(2, 0), vi (sc (i + 1).toNat), vi (sc (i + 2).toNat)]) (s := []) rfl rfl rfl rfl rfl rfl rfl (sp178 (p0 := sc (i + 1).toNat) (p1 := sc (i + 2).toNat) (kR := 5199 - i) hI ⟨by omega, by omega⟩ ⟨by omega, by omega⟩ (by exact wRM_le q_0 (by omega)) (by omega) e_N23 e_CR (by omega)) (fun r205 S206 hq207 => ?_)
        obtain ⟨z208, rfl, h209, h210, rm211, e212, e213, hI214, hF215⟩ := hq207
        have e216 := RTx.fr e_RT hF215 rfl rfl
        have e217 := RMex.fr e_RMe hF215 rfl rfl
        have e218 := RSx.fr e_RS hF215 rfl rfl
        have e219 := RIx.fr e_RI hF215 rfl rfl
        have e220 := RKx.fr e_RK hF215 rfl rfl
        have e221 := RSlx.fr e_RSl hF215 rfl rfl
        refine Or.inr (Or.inl ⟨rfl, ?_⟩)
        refine r_store (i := 177) (u := 5) (w := 0) (L1 := [some ((6, 0)), some ((2, 0)), some ((2, 43)), some ((2, 81)), some (vi i), some (vi z208), none]) rfl rfl rfl rfl ?_
        refine r_load (i := 178) (u := 2) (w := 2) rfl rfl rfl ?_
        refine r_load (i := 179) (u := 0) (w := 2) rfl rfl rfl ?_
        refine r_load (i := 180) (u := 4) (w := 0) rfl rfl rfl ?_
        refine r_const (i := 181) (u := 1) (z := 1) rfl rfl ?_
        refine r_iadd (i := 182) rfl ?_
        refine r_scA (i := 183) hG rfl (by omega) (by omega) fun h222 => ?_
        have h222 : Rg (sc (i + 1).toNat) := h222
        refine r_load (i := 184) (u := 0) (w := 2) rfl rfl rfl ?_
        refine r_load (i := 185) (u := 4) (w := 0) rfl rfl rfl ?_
        refine r_const (i := 186) (u := 2) (z := 2) rfl rfl ?_
        refine r_iadd (i := 187) rfl ?_
        refine r_scA (i := 188) hG rfl (by omega) (by omega) fun h223 => ?_
        have h223 : Rg (sc (i + 2).toNat) := h223
        refine r_call (i := 189) (u := 11) (v := 255) (w := 0) (b := 0) (na := 1283) (C2 := xC255) (as := [(2, 43), vi (sc (i + 1).toNat), vi (sc (i + 2).toNat)]) (s := []) rfl rfl rfl rfl rfl rfl rfl (sp255 (m := sc (i + 1).toNat) (t := sc (i + 2).toNat) hI214 ⟨by omega, by omega⟩ ⟨by omega, by omega⟩   (by omega)) (fun r224 S225 hq226 => ?_)
        obtain ⟨rfl, hI227, hF228, hR229⟩ := hq226
        have e230 := RTx.fr e216 hF228 rfl rfl
        have e231 := RMex.fr e217 hF228 rfl rfl
        have e232 := RSx.fr e218 hF228 rfl rfl
        have e233 := RIx.fr e219 hF228 rfl rfl
        have e234 := RKx.fr e220 hF228 rfl rfl
        have e235 := RSlx.fr e221 hF228 rfl rfl
        have e236 := N23x.fr e212 hF228 hR229 rfl rfl rfl
        have e237 := CRx.fr e213 hF228 rfl rfl
        have e238 := wRM_rm rm211 hR229
        refine Or.inl ⟨rfl, ?_⟩
        refine r_goto (i := 190) (v := 637) rfl ?_
        refine r_iinc (i := 637) (u := 10) (v := 4) (s := 10) (L1 := [some ((6, 0)), some ((2, 0)), some ((2, 43)), some ((2, 81)), some (vi (i + 10)), some (vi z208), none]) rfl rfl rfl rfl rfl ?_
        refine r_goto (i := 638) (v := 13) rfl ?_
        refine yT_drop (L1 := [some ((6, 0)), some ((2, 0)), some ((2, 43)), some ((2, 81)), some (vi (i + 10)), none, none]) rfl ?_
        exact ih S225 hI227 e236 e237 e230 e231 e232 e233 e234 e235 (i + 10) ⟨by omega, by omega⟩ (by exact wRM_le e238 (by omega)) (by omega)
      · refine r_swK (i := 24) (u := 1) (v := 637) (k := 4) (t := 191) rfl rfl h9 (by decide) (by decide) rfl ?_
        refine r_load (i := 191) (u := 1) (w := 2) rfl rfl rfl ?_
        refine r_load (i := 192) (u := 0) (w := 2) rfl rfl rfl ?_
        refine r_load (i := 193) (u := 4) (w := 0) rfl rfl rfl ?_
        refine r_const (i := 194) (u := 1) (z := 1) rfl rfl ?_
        refine r_iadd (i := 195) rfl ?_
        refine r_scA (i := 196) hG rfl (by omega) (by omega) fun h239 => ?_
        have h239 : Rg (sc (i + 1).toNat) := h239
        refine r_load (i := 197) (u := 0) (w := 2) rfl rfl rfl ?_
        refine r_load (i := 198) (u := 4) (w := 0) rfl rfl rfl ?_
        refine r_const (i := 199) (u := 2) (z := 2) rfl rfl ?_
        refine r_iadd (i := 200) rfl ?_
        refine r_scA (i := 201) hG rfl (by omega) (by omega) fun h240 => ?_
        have h240 : Rg (sc (i + 2).toNat) := h240
        have h241 := hI.f tf1_7
        refine r_call (i := 202) (u := 0) (v := 12) (w := 0) (b := 0) (na := 771) (C2 := xC12) (as := [(2, 0), vi (sc (i + 1).toNat), vi (sc (i + 2).toNat)]) (s := []) rfl rfl rfl rfl rfl rfl rfl (sp12 (t := sc (i + 1).toNat) (o := sc (i + 2).toNat) hI ⟨by omega, by omega⟩ ⟨by omega, by omega⟩   (by omega)) (fun r242 S243 hq244 => ?_)
        obtain ⟨z245, rfl, h246, h247, cs248, rfl⟩ := hq244
        refine Or.inr (Or.inl ⟨rfl, ?_⟩)
        refine r_pop (i := 203) rfl rfl ?_
        refine r_load (i := 204) (u := 2) (w := 2) rfl rfl rfl ?_
        refine r_load (i := 205) (u := 0) (w := 2) rfl rfl rfl ?_
        refine r_load (i := 206) (u := 4) (w := 0) rfl rfl rfl ?_
        refine r_const (i := 207) (u := 1) (z := 1) rfl rfl ?_
        refine r_iadd (i := 208) rfl ?_
        refine r_scA (i := 209) hG rfl (by omega) (by omega) fun h249 => ?_
        have h249 : Rg (sc (i + 1).toNat) := h249
        refine r_load (i := 210) (u := 0) (w := 2) rfl rfl rfl ?_
        refine r_load (i := 211) (u := 4) (w := 0) rfl rfl rfl ?_
        refine r_const (i := 212) (u := 2) (z := 2) rfl rfl ?_
        refine r_iadd (i := 213) rfl ?_
        refine r_scA (i := 214) hG rfl (by omega) (by omega) fun h250 => ?_
        have h250 : Rg (sc (i + 2).toNat) := h250
        have h251 := hI.f tf43_1
        refine r_call (i := 215) (u := 11) (v := 211) (w := 0) (b := 0) (na := 771) (C2 := xC211) (as := [(2, 43), vi (sc (i + 1).toNat), vi (sc (i + 2).toNat)]) (s := []) rfl rfl rfl rfl rfl rfl rfl (sp211 (t := sc (i + 1).toNat) (o := sc (i + 2).toNat) hI ⟨by omega, by omega⟩ ⟨by omega, by omega⟩   (by omega)) (fun r252 S253 hq254 => ?_)
        obtain ⟨z255, rfl, h256, h257, ms258, hI259, hF260, hR261⟩ := hq254
        have e262 := N23x.fr e_N23 hF260 hR261 rfl rfl rfl
        have e263 := CRx.fr e_CR hF260 rfl rfl
        have e264 := RTx.fr e_RT hF260 rfl rfl
        have e265 := RMex.fr e_RMe hF260 rfl rfl
        have e266 := RSx.fr e_RS hF260 rfl rfl
        have e267 := RIx.fr e_RI hF260 rfl rfl
        have e268 := RKx.fr e_RK hF260 rfl rfl
        have e269 := RSlx.fr e_RSl hF260 rfl rfl
        have e270 := wRM_rm q_0 hR261
        refine Or.inr (Or.inl ⟨rfl, ?_⟩)
        have eq9 := RS_sub e_RT e_RS hI.m3 (hI.f tf1_7).2 cs248 ms258 rfl (fun _ => rfl) (fun _ => rfl) (fun _ => rfl)
        refine r_pop (i := 216) rfl rfl ?_
        refine r_goto (i := 217) (v := 637) rfl ?_
        refine r_iinc (i := 637) (u := 10) (v := 4) (s := 10) (L1 := [some ((6, 0)), some ((2, 0)), some ((2, 43)), some ((2, 81)), some (vi (i + 10)), none, none]) rfl rfl rfl rfl rfl ?_
        refine r_goto (i := 638) (v := 13) rfl ?_
        exact ih S253 hI259 e262 e263 e264 e265 e266 e267 e268 e269 (i + 10) ⟨by omega, by omega⟩ (by exact wRM_le e270 (by omega)) (by omega)
      · refine r_swK (i := 24) (u := 1) (v := 637) (k := 5) (t := 218) rfl rfl h10 (by decide) (by decide) rfl ?_
        refine r_load (i := 218) (u := 1) (w := 2) rfl rfl rfl ?_
        refine r_load (i := 219) (u := 0) (w := 2) rfl rfl rfl ?_
        refine r_load (i := 220) (u := 4) (w := 0) rfl rfl rfl ?_
        refine r_const (i := 221) (u := 1) (z := 1) rfl rfl ?_
        refine r_iadd (i := 222) rfl ?_
        refine r_scA (i := 223) hG rfl (by omega) (by omega) fun h271 => ?_
        have h271 : Rg (sc (i + 1).toNat) := h271
        refine r_load (i := 224) (u := 0) (w := 2) rfl rfl rfl ?_
        refine r_load (i := 225) (u := 4) (w := 0) rfl rfl rfl ?_
        refine r_const (i := 226) (u := 2) (z := 2) rfl rfl ?_
        refine r_iadd (i := 227) rfl ?_
        refine r_scA (i := 228) hG rfl (by omega) (by omega) fun h272 => ?_
        have h272 : Rg (sc (i + 2).toNat) := h272
        refine r_call (i := 229) (u := 0) (v := 14) (w := 0) (b := 0) (na := 771) (C2 := xC14) (as := [(2, 0), vi (sc (i + 1).toNat), vi (sc (i + 2).toNat)]) (s := []) rfl rfl rfl rfl rfl rfl rfl (sp14 (w0 := sc (i + 1).toNat) (k := sc (i + 2).toNat) hI ⟨by omega, by omega⟩ ⟨by omega, by omega⟩   (by omega)) (fun r273 S274 hq275 => ?_)
        obtain ⟨z276, rfl, h277, h278, h279, hI280, hF281, hR282⟩ := hq275
        have e283 := N23x.fr e_N23 hF281 hR282 rfl rfl rfl
        have e284 := CRx.fr e_CR hF281 rfl rfl
        have e285 := RTx.fr e_RT hF281 rfl rfl
        have e286 := RMex.fr e_RMe hF281 rfl rfl
        have e287 := RSx.fr e_RS hF281 rfl rfl
        have e288 := RIx.fr e_RI hF281 rfl rfl
        have e289 := RKx.fr e_RK hF281 rfl rfl
        have e290 := RSlx.fr e_RSl hF281 rfl rfl
        have e291 := wRM_rm q_0 hR282
        refine Or.inr (Or.inl ⟨rfl, ?_⟩)
        refine r_pop (i := 230) rfl rfl ?_
        refine r_load (i := 231) (u := 2) (w := 2) rfl rfl rfl ?_
        refine r_load (i := 232) (u := 0) (w := 2) rfl rfl rfl ?_
        refine r_load (i := 233) (u := 4) (w := 0) rfl rfl rfl ?_
        refine r_const (i := 234) (u := 1) (z := 1) rfl rfl ?_
        refine r_iadd (i := 235) rfl ?_
        refine r_scA (i := 236) hG rfl (by omega) (by omega) fun h292 => ?_
        have h292 : Rg (sc (i + 1).toNat) := h292
        refine r_load (i := 237) (u := 0) (w := 2) rfl rfl rfl ?_
        refine r_load (i := 238) (u := 4) (w := 0) rfl rfl rfl ?_
        refine r_const (i := 239) (u := 2) (z := 2) rfl rfl ?_
        refine r_iadd (i := 240) rfl ?_
        refine r_scA (i := 241) hG rfl (by omega) (by omega) fun h293 => ?_
        have h293 : Rg (sc (i + 2).toNat) := h293
        refine r_call (i := 242) (u := 11) (v := 232) (w := 0) (b := 0) (na := 771) (C2 := xC232) (as := [(2, 43), vi (sc (i + 1).toNat), vi (sc (i + 2).toNat)]) (s := []) rfl rfl rfl rfl rfl rfl rfl (sp232 (w0 := sc (i + 1).toNat) (k := sc (i + 2).toNat) hI280 ⟨by omega, by omega⟩ ⟨by omega, by omega⟩   (by omega)) (fun r294 S295 hq296 => ?_)
        obtain ⟨z297, rfl, h298, h299, h300, hI301, hF302, hR303⟩ := hq296
        have e304 := N23x.fr e283 hF302 hR303 rfl rfl rfl
        have e305 := CRx.fr e284 hF302 rfl rfl
        have e306 := RTx.fr e285 hF302 rfl rfl
        have e307 := RMex.fr e286 hF302 rfl rfl
        have e308 := RSx.fr e287 hF302 rfl rfl
        have e309 := RIx.fr e288 hF302 rfl rfl
        have e310 := RKx.fr e289 hF302 rfl rfl
        have e311 := RSlx.fr e290 hF302 rfl rfl
        have e312 := wRM_rm e291 hR303
        refine Or.inr (Or.inl ⟨rfl, ?_⟩)
        refine r_pop (i := 243) rfl rfl ?_
        refine r_goto (i := 244) (v := 637) rfl ?_
        refine r_iinc (i := 637) (u := 10) (v := 4) (s := 10) (L1 := [some ((6, 0)), some ((2, 0)), some ((2, 43)), some ((2, 81)), some (vi (i + 10)), none, none]) rfl rfl rfl rfl rfl ?_
        refine r_goto (i := 638) (v := 13) rfl ?_
        exact ih S295 hI301 e304 e305 e306 e307 e308 e309 e310 e311 (i + 10) ⟨by omega, by omega⟩ (by exact wRM_le e312 (by omega)) (by omega)
      · refine r_swK (i := 24) (u := 1) (v := 637) (k := 6) (t := 245) rfl rfl h11 (by decide) (by decide) rfl ?_
        refine r_load (i := 245) (u := 1) (w := 2) rfl rfl rfl ?_
        refine r_load (i := 246) (u := 0) (w := 2) rfl rfl rfl ?_
        refine r_load (i := 247) (u := 4) (w := 0) rfl rfl rfl ?_
        refine r_const (i := 248) (u := 1) (z := 1) rfl rfl ?_
        refine r_iadd (i := 249) rfl ?_
        refine r_scA (i := 250) hG rfl (by omega) (by omega) fun h313 => ?_
        have h313 : Rg (sc (i + 1).toNat) := h313
        refine r_load (i := 251) (u := 0) (w := 2) rfl rfl rfl ?_
        refine r_load (i := 252) (u := 4) (w := 0) rfl rfl rfl ?_
        refine r_const (i := 253) (u := 2) (z := 2) rfl rfl ?_
        refine r_iadd (i := 254) rfl ?_
        refine r_scA (i := 255) hG rfl (by omega) (by omega) fun h314 => ?_
        have h314 : Rg (sc (i + 2).toNat) := h314
        refine r_load (i := 256) (u := 0) (w := 2) rfl rfl rfl ?_
        refine r_load (i := 257) (u := 4) (w := 0) rfl rfl rfl ?_
        refine r_const (i := 258) (u := 3) (z := 3) rfl rfl ?_
        refine r_iadd (i := 259) rfl ?_
        refine r_scA (i := 260) hG rfl (by omega) (by omega) fun h315 => ?_
        have h315 : Rg (sc (i + 3).toNat) := h315
        refine r_load (i := 261) (u := 0) (w := 2) rfl rfl rfl ?_
        refine r_load (i := 262) (u := 4) (w := 0) rfl rfl rfl ?_
        refine r_const (i := 263) (u := 4) (z := 4) rfl rfl ?_
        refine r_iadd (i := 264) rfl ?_
        refine r_scA (i := 265) hG rfl (by omega) (by omega) fun h316 => ?_
        have h316 : Rg (sc (i + 4).toNat) := h316
        refine r_load (i := 266) (u := 3) (w := 2) rfl rfl rfl ?_
        refine r_call (i := 267) (u := 65535) (v := 175) (w := 0) (b := 2) (na := 1798) (C2 := xC175) (as := [(2, 0), vi (sc (i + 1).toNat), vi (sc (i + 2).toNat), vi (sc (i + 3).toNat), vi (sc (i + 4).toNat), (2, 81)]) (s := []) rfl rfl rfl rfl rfl rfl rfl (sp175 (p0 := sc (i + 1).toNat) (p1 := sc (i + 2).toNat) (p2 := sc (i + 3).toNat) (p3 := sc (i + 4).toNat) (kR := 5199 - i) hI ⟨by omega, by omega⟩ ⟨by omega, by omega⟩ ⟨by omega, by omega⟩ ⟨by omega, by omega⟩ (by exact wRM_le q_0 (by omega)) (by omega) e_N23 e_CR (by omega)) (fun r317 S318 hq319 => ?_)
        obtain ⟨z320, rfl, h321, h322, rm323, hfo324, e325, e326, hI327, hF328⟩ := hq319
        have e329 := RTx.fr e_RT hF328 rfl rfl
        have e330 := RMex.fr e_RMe hF328 rfl rfl
        have e331 := RSx.fr e_RS hF328 rfl rfl
        have e332 := RIx.fr e_RI hF328 rfl rfl
        have e333 := RKx.fr e_RK hF328 rfl rfl
        refine Or.inr (Or.inl ⟨rfl, ?_⟩)
        refine r_store (i := 268) (u := 5) (w := 0) (L1 := [some ((6, 0)), some ((2, 0)), some ((2, 43)), some ((2, 81)), some (vi i), some (vi z320), none]) rfl rfl rfl rfl ?_
        refine r_load (i := 269) (u := 2) (w := 2) rfl rfl rfl ?_
        refine r_load (i := 270) (u := 0) (w := 2) rfl rfl rfl ?_
        refine r_load (i := 271) (u := 4) (w := 0) rfl rfl rfl ?_
        refine r_const (i := 272) (u := 1) (z := 1) rfl rfl ?_
        refine r_iadd (i := 273) rfl ?_
        refine r_scA (i := 274) hG rfl (by omega) (by omega) fun h334 => ?_
        have h334 : Rg (sc (i + 1).toNat) := h334
        refine r_load (i := 275) (u := 0) (w := 2) rfl rfl rfl ?_
        refine r_load (i := 276) (u := 4) (w := 0) rfl rfl rfl ?_
        refine r_const (i := 277) (u := 2) (z := 2) rfl rfl ?_
        refine r_iadd (i := 278) rfl ?_
        refine r_scA (i := 279) hG rfl (by omega) (by omega) fun h335 => ?_
        have h335 : Rg (sc (i + 2).toNat) := h335
        refine r_load (i := 280) (u := 0) (w := 2) rfl rfl rfl ?_
        refine r_load (i := 281) (u := 4) (w := 0) rfl rfl rfl ?_
        refine r_const (i := 282) (u := 3) (z := 3) rfl rfl ?_
        refine r_iadd (i := 283) rfl ?_
        refine r_scA (i := 284) hG rfl (by omega) (by omega) fun h336 => ?_
        have h336 : Rg (sc (i + 3).toNat) := h336
        refine r_load (i := 285) (u := 0) (w := 2) rfl rfl rfl ?_
        refine r_load (i := 286) (u := 4) (w := 0) rfl rfl rfl ?_
        refine r_const (i := 287) (u := 4) (z := 4) rfl rfl ?_
        refine r_iadd (i := 288) rfl ?_
        refine r_scA (i := 289) hG rfl (by omega) (by omega) fun h337 => ?_
        have h337 : Rg (sc (i + 4).toNat) := h337
        refine r_call (i := 290) (u := 11) (v := 203) (w := 0) (b := 0) (na := 2565) (C2 := xC203) (as := [(2, 43), vi (sc (i + 1).toNat), vi (sc (i + 2).toNat), vi (sc (i + 3).toNat), vi (sc (i + 4).toNat)]) (s := []) rfl rfl rfl rfl rfl rfl rfl (sp203 (c := sc (i + 1).toNat) (a := sc (i + 2).toNat) (b := sc (i + 3).toNat) (e := sc (i + 4).toNat) hI327 ⟨by omega, by omega⟩ ⟨by omega, by omega⟩ ⟨by omega, by omega⟩ ⟨by omega, by omega⟩  e326 (by omega)) (fun r338 S339 hq340 => ?_)
        obtain ⟨z341, rfl, h342, h343, mf344, e345, hI346, hF347, hR348⟩ := hq340
        have e349 := RTx.fr e329 hF347 rfl rfl
        have e350 := RMex.fr e330 hF347 rfl rfl
        have e351 := RSx.fr e331 hF347 rfl rfl
        have e352 := RIx.fr e332 hF347 rfl rfl
        have e353 := RKx.fr e333 hF347 rfl rfl
        have e354 := N23x.fr e325 hF347 hR348 rfl rfl rfl
        have e355 := wRM_rm rm323 hR348
        refine Or.inr (Or.inl ⟨rfl, ?_⟩)
        have rs9 := (FX_eq e_RT e_RS e_RMe e_RI e_RK hI.m3 (hI.f tf1_7).2 hfo324 (sMa_fr hF328 rfl rfl) mf344 e_RSl (sSm_fr hF328 rfl rfl) (sSl_fr hF347 rfl rfl) (hI346.f tf43_20).1).2.2
        have rk9 := (FX_eq e_RT e_RS e_RMe e_RI e_RK hI.m3 (hI.f tf1_7).2 hfo324 (sMa_fr hF328 rfl rfl) mf344 e_RSl (sSm_fr hF328 rfl rfl) (sSl_fr hF347 rfl rfl) (hI346.f tf43_20).1).1
        have ro9 := (FX_eq e_RT e_RS e_RMe e_RI e_RK hI.m3 (hI.f tf1_7).2 hfo324 (sMa_fr hF328 rfl rfl) mf344 e_RSl (sSm_fr hF328 rfl rfl) (sSl_fr hF347 rfl rfl) (hI346.f tf43_20).1).2.1
        refine r_store (i := 291) (u := 6) (w := 0) (L1 := [some ((6, 0)), some ((2, 0)), some ((2, 43)), some ((2, 81)), some (vi i), some (vi z320), some (vi z341)]) rfl rfl rfl rfl ?_
        refine r_goto (i := 292) (v := 637) rfl ?_
        refine r_iinc (i := 637) (u := 10) (v := 4) (s := 10) (L1 := [some ((6, 0)), some ((2, 0)), some ((2, 43)), some ((2, 81)), some (vi (i + 10)), some (vi z320), some (vi z341)]) rfl rfl rfl rfl rfl ?_
        refine r_goto (i := 638) (v := 13) rfl ?_
        refine yT_drop (L1 := [some ((6, 0)), some ((2, 0)), some ((2, 43)), some ((2, 81)), some (vi (i + 10)), none, none]) rfl ?_
        exact ih S339 hI346 e354 e345 e349 e350 e351 e352 e353 rs9 (i + 10) ⟨by omega, by omega⟩ (by exact wRM_le e355 (by omega)) (by omega)
      · refine r_swK (i := 24) (u := 1) (v := 637) (k := 7) (t := 293) rfl rfl h12 (by decide) (by decide) rfl ?_
        refine r_load (i := 293) (u := 1) (w := 2) rfl rfl rfl ?_
        have h356 := hI.f tf22_3
        refine r_call (i := 294) (u := 0) (v := 19) (w := 0) (b := 0) (na := 257) (C2 := xC19) (as := [(2, 0)]) (s := []) rfl rfl rfl rfl rfl rfl rfl (sp19  hI    (by omega)) (fun r357 S358 hq359 => ?_)
        obtain ⟨z360, rfl, h361, h362, sc_slots363, rfl⟩ := hq359
        refine Or.inr (Or.inl ⟨rfl, ?_⟩)
        refine r_pop (i := 295) rfl rfl ?_
        refine r_load (i := 296) (u := 2) (w := 2) rfl rfl rfl ?_
        have h364 := hI.f tf43_20
        refine r_call (i := 297) (u := 11) (v := 244) (w := 0) (b := 0) (na := 257) (C2 := xC244) (as := [(2, 43)]) (s := []) rfl rfl rfl rfl rfl rfl rfl (sp244  hI    (by omega)) (fun r365 S366 hq367 => ?_)
        obtain ⟨z368, rfl, h369, h370, sm_slots371, hI372, hF373, hR374⟩ := hq367
        have e375 := N23x.fr e_N23 hF373 hR374 rfl rfl rfl
        have e376 := CRx.fr e_CR hF373 rfl rfl
        have e377 := RTx.fr e_RT hF373 rfl rfl
        have e378 := RMex.fr e_RMe hF373 rfl rfl
        have e379 := RSx.fr e_RS hF373 rfl rfl
        have e380 := RIx.fr e_RI hF373 rfl rfl
        have e381 := RKx.fr e_RK hF373 rfl rfl
        have e382 := RSlx.fr e_RSl hF373 rfl rfl
        have e383 := wRM_rm q_0 hR374
        refine Or.inr (Or.inl ⟨rfl, ?_⟩)
        have eq9 := e_RSl.1
        refine r_pop (i := 298) rfl rfl ?_
        refine r_goto (i := 299) (v := 637) rfl ?_
        refine r_iinc (i := 637) (u := 10) (v := 4) (s := 10) (L1 := [some ((6, 0)), some ((2, 0)), some ((2, 43)), some ((2, 81)), some (vi (i + 10)), none, none]) rfl rfl rfl rfl rfl ?_
        refine r_goto (i := 638) (v := 13) rfl ?_
        exact ih S366 hI372 e375 e376 e377 e378 e379 e380 e381 e382 (i + 10) ⟨by omega, by omega⟩ (by exact wRM_le e383 (by omega)) (by omega)
      · refine r_swK (i := 24) (u := 1) (v := 637) (k := 8) (t := 300) rfl rfl h13 (by decide) (by decide) rfl ?_
        refine r_load (i := 300) (u := 1) (w := 2) rfl rfl rfl ?_
        refine r_load (i := 301) (u := 0) (w := 2) rfl rfl rfl ?_
        refine r_load (i := 302) (u := 4) (w := 0) rfl rfl rfl ?_
        refine r_const (i := 303) (u := 1) (z := 1) rfl rfl ?_
        refine r_iadd (i := 304) rfl ?_
        refine r_scA (i := 305) hG rfl (by omega) (by omega) fun h384 => ?_
        have h384 : Rg (sc (i + 1).toNat) := h384
        have h385 := hI.f tf22_3
        refine r_call (i := 306) (u := 0) (v := 18) (w := 0) (b := 0) (na := 514) (C2 := xC18) (as := [(2, 0), vi (sc (i + 1).toNat)]) (s := []) rfl rfl rfl rfl rfl rfl rfl (sp18 (k := sc (i + 1).toNat) hI ⟨by omega, by omega⟩   (by omega)) (fun r386 S387 hq388 => ?_)
        obtain ⟨z389, rfl, h390, h391, sc_slot392, rfl⟩ := hq388
        refine Or.inr (Or.inl ⟨rfl, ?_⟩)
        refine r_load (i := 307) (u := 2) (w := 2) rfl rfl rfl ?_
        refine r_load (i := 308) (u := 0) (w := 2) rfl rfl rfl ?_
        refine r_load (i := 309) (u := 4) (w := 0) rfl rfl rfl ?_
        refine r_const (i := 310) (u := 1) (z := 1) rfl rfl ?_
        refine r_iadd (i := 311) rfl ?_
        refine r_scA (i := 312) hG rfl (by omega) (by omega) fun h393 => ?_
        have h393 : Rg (sc (i + 1).toNat) := h393
        have h394 := hI.f tf43_20
        refine r_call (i := 313) (u := 11) (v := 243) (w := 0) (b := 0) (na := 514) (C2 := xC243) (as := [(2, 43), vi (sc (i + 1).toNat)]) (s := [vi z389]) rfl rfl rfl rfl rfl rfl rfl (sp243 (k := sc (i + 1).toNat) hI ⟨by omega, by omega⟩   (by omega)) (fun r395 S396 hq397 => ?_)
        obtain ⟨z398, rfl, h399, h400, sm_slot401, hI402, hF403, hR404⟩ := hq397
        have e405 := N23x.fr e_N23 hF403 hR404 rfl rfl rfl
        have e406 := CRx.fr e_CR hF403 rfl rfl
        have e407 := RTx.fr e_RT hF403 rfl rfl
        have e408 := RMex.fr e_RMe hF403 rfl rfl
        have e409 := RSx.fr e_RS hF403 rfl rfl
        have e410 := RIx.fr e_RI hF403 rfl rfl
        have e411 := RKx.fr e_RK hF403 rfl rfl
        have e412 := RSlx.fr e_RSl hF403 rfl rfl
        have e413 := wRM_rm q_0 hR404
        refine Or.inr (Or.inl ⟨rfl, ?_⟩)
        have eq9 := RSl_slot e_RSl sc_slot392 sm_slot401
        refine c_eq (i := 314) (v := 637) rfl ⟨by omega, by omega⟩ ⟨by omega, by omega⟩ (fun h414 => ?_) (fun h415 => ?_)
        · refine r_iinc (i := 637) (u := 10) (v := 4) (s := 10) (L1 := [some ((6, 0)), some ((2, 0)), some ((2, 43)), some ((2, 81)), some (vi (i + 10)), none, none]) rfl rfl rfl rfl rfl ?_
          refine r_goto (i := 638) (v := 13) rfl ?_
          exact ih S396 hI402 e405 e406 e407 e408 e409 e410 e411 e412 (i + 10) ⟨by omega, by omega⟩ (by exact wRM_le e413 (by omega)) (by omega)
        · refine r_const (i := 315) (u := 0) (z := 0) rfl rfl ?_
          exact r_retZ (i := 316) rfl (by omega) (by omega) ⟨0, rfl, by omega, by omega⟩
      · refine r_swK (i := 24) (u := 1) (v := 637) (k := 9) (t := 317) rfl rfl h14 (by decide) (by decide) rfl ?_
        refine r_load (i := 317) (u := 1) (w := 2) rfl rfl rfl ?_
        refine r_load (i := 318) (u := 0) (w := 2) rfl rfl rfl ?_
        refine r_load (i := 319) (u := 4) (w := 0) rfl rfl rfl ?_
        refine r_const (i := 320) (u := 1) (z := 1) rfl rfl ?_
        refine r_iadd (i := 321) rfl ?_
        refine r_scA (i := 322) hG rfl (by omega) (by omega) fun h416 => ?_
        have h416 : Rg (sc (i + 1).toNat) := h416
        refine r_load (i := 323) (u := 0) (w := 2) rfl rfl rfl ?_
        refine r_load (i := 324) (u := 4) (w := 0) rfl rfl rfl ?_
        refine r_const (i := 325) (u := 2) (z := 2) rfl rfl ?_
        refine r_iadd (i := 326) rfl ?_
        refine r_scA (i := 327) hG rfl (by omega) (by omega) fun h417 => ?_
        have h417 : Rg (sc (i + 2).toNat) := h417
        refine r_i2l (i := 328) rfl ⟨by omega, by omega⟩ ?_
        refine r_const (i := 329) (u := 32) (z := 32) rfl rfl ?_
        refine r_lshl (i := 330) rfl ?_
        refine r_load (i := 331) (u := 0) (w := 2) rfl rfl rfl ?_
        refine r_load (i := 332) (u := 4) (w := 0) rfl rfl rfl ?_
        refine r_const (i := 333) (u := 3) (z := 3) rfl rfl ?_
        refine r_iadd (i := 334) rfl ?_
        refine r_scA (i := 335) hG rfl (by omega) (by omega) fun h418 => ?_
        have h418 : Rg (sc (i + 3).toNat) := h418
        refine r_i2l (i := 336) rfl ⟨by omega, by omega⟩ ?_
        refine r_lconst (i := 337) (u := 4294967295) (z := 4294967295) rfl rfl ?_
        refine r_land (i := 338) rfl ?_
        have h419 := @yland_c (sc (i + 3).toNat) 4294967295 (by decide) (by decide)
        refine r_lor (i := 339) rfl ?_
        have h420 := ylor_rl ((sc (i + 2).toNat) * 4294967296) (yland (sc (i + 3).toNat) 4294967295)
        refine r_call (i := 340) (u := 65535) (v := 173) (w := 0) (b := 2) (na := 1283) (C2 := xC173) (as := [(2, 0), vi (sc (i + 1).toNat), vl (ylor ((sc (i + 2).toNat) * 4294967296) (yland (sc (i + 3).toNat) 4294967295))]) (s := []) rfl rfl rfl rfl rfl rfl rfl (sp173 (p0 := sc (i + 1).toNat) (p1 := ylor ((sc (i + 2).toNat) * 4294967296) (yland (sc (i + 3).toNat) 4294967295)) (kR := 5199 - i) hI ⟨by omega, by omega⟩ ⟨by omega, by omega⟩ (by exact wRM_le q_0 (by omega)) (by omega) e_N23 e_CR (by omega)) (fun r421 S422 hq423 => ?_)
        obtain ⟨z424, rfl, h425, h426, rm427, e428, e429, hI430, hF431⟩ := hq423
        have e432 := RTx.fr e_RT hF431 rfl rfl
        have e433 := RMex.fr e_RMe hF431 rfl rfl
        have e434 := RSx.fr e_RS hF431 rfl rfl
        have e435 := RIx.fr e_RI hF431 rfl rfl
        have e436 := RKx.fr e_RK hF431 rfl rfl
        have e437 := RSlx.fr e_RSl hF431 rfl rfl
        refine Or.inr (Or.inl ⟨rfl, ?_⟩)
        refine r_store (i := 341) (u := 5) (w := 0) (L1 := [some ((6, 0)), some ((2, 0)), some ((2, 43)), some ((2, 81)), some (vi i), some (vi z424), none]) rfl rfl rfl rfl ?_
        refine r_load (i := 342) (u := 2) (w := 2) rfl rfl rfl ?_
        refine r_load (i := 343) (u := 0) (w := 2) rfl rfl rfl ?_
        refine r_load (i := 344) (u := 4) (w := 0) rfl rfl rfl ?_
        refine r_const (i := 345) (u := 1) (z := 1) rfl rfl ?_
        refine r_iadd (i := 346) rfl ?_
        refine r_scA (i := 347) hG rfl (by omega) (by omega) fun h438 => ?_
        have h438 : Rg (sc (i + 1).toNat) := h438
        refine r_load (i := 348) (u := 0) (w := 2) rfl rfl rfl ?_
        refine r_load (i := 349) (u := 4) (w := 0) rfl rfl rfl ?_
        refine r_const (i := 350) (u := 2) (z := 2) rfl rfl ?_
        refine r_iadd (i := 351) rfl ?_
        refine r_scA (i := 352) hG rfl (by omega) (by omega) fun h439 => ?_
        have h439 : Rg (sc (i + 2).toNat) := h439
        refine r_i2l (i := 353) rfl ⟨by omega, by omega⟩ ?_
        refine r_const (i := 354) (u := 32) (z := 32) rfl rfl ?_
        refine r_lshl (i := 355) rfl ?_
        refine r_load (i := 356) (u := 0) (w := 2) rfl rfl rfl ?_
        refine r_load (i := 357) (u := 4) (w := 0) rfl rfl rfl ?_
        refine r_const (i := 358) (u := 3) (z := 3) rfl rfl ?_
        refine r_iadd (i := 359) rfl ?_
        refine r_scA (i := 360) hG rfl (by omega) (by omega) fun h440 => ?_
        have h440 : Rg (sc (i + 3).toNat) := h440
        refine r_i2l (i := 361) rfl ⟨by omega, by omega⟩ ?_
        refine r_lconst (i := 362) (u := 4294967295) (z := 4294967295) rfl rfl ?_
        refine r_land (i := 363) rfl ?_
        have h441 := @yland_c (sc (i + 3).toNat) 4294967295 (by decide) (by decide)
        refine r_lor (i := 364) rfl ?_
        have h442 := ylor_rl ((sc (i + 2).toNat) * 4294967296) (yland (sc (i + 3).toNat) 4294967295)
        refine r_call (i := 365) (u := 11) (v := 181) (w := 0) (b := 0) (na := 1539) (C2 := xC181) (as := [(2, 43), vi (sc (i + 1).toNat), vl (ylor ((sc (i + 2).toNat) * 4294967296) (yland (sc (i + 3).toNat) 4294967295))]) (s := []) rfl rfl rfl rfl rfl rfl rfl (sp181 (w0 := sc (i + 1).toNat) (v := ylor ((sc (i + 2).toNat) * 4294967296) (yland (sc (i + 3).toNat) 4294967295)) hI430 ⟨by omega, by omega⟩ ⟨by omega, by omega⟩   (by omega)) (fun r443 S444 hq445 => ?_)
        obtain ⟨rfl, hI446, hF447, hR448⟩ := hq445
        have e449 := RTx.fr e432 hF447 rfl rfl
        have e450 := RMex.fr e433 hF447 rfl rfl
        have e451 := RSx.fr e434 hF447 rfl rfl
        have e452 := RIx.fr e435 hF447 rfl rfl
        have e453 := RKx.fr e436 hF447 rfl rfl
        have e454 := RSlx.fr e437 hF447 rfl rfl
        have e455 := N23x.fr e428 hF447 hR448 rfl rfl rfl
        have e456 := CRx.fr e429 hF447 rfl rfl
        have e457 := wRM_rm rm427 hR448
        refine Or.inl ⟨rfl, ?_⟩
        refine r_goto (i := 366) (v := 637) rfl ?_
        refine r_iinc (i := 637) (u := 10) (v := 4) (s := 10) (L1 := [some ((6, 0)), some ((2, 0)), some ((2, 43)), some ((2, 81)), some (vi (i + 10)), some (vi z424), none]) rfl rfl rfl rfl rfl ?_
        refine r_goto (i := 638) (v := 13) rfl ?_
        refine yT_drop (L1 := [some ((6, 0)), some ((2, 0)), some ((2, 43)), some ((2, 81)), some (vi (i + 10)), none, none]) rfl ?_
        exact ih S444 hI446 e455 e456 e449 e450 e451 e452 e453 e454 (i + 10) ⟨by omega, by omega⟩ (by exact wRM_le e457 (by omega)) (by omega)
      · refine r_swK (i := 24) (u := 1) (v := 637) (k := 10) (t := 367) rfl rfl h15 (by decide) (by decide) rfl ?_
        refine r_load (i := 367) (u := 1) (w := 2) rfl rfl rfl ?_
        refine r_load (i := 368) (u := 0) (w := 2) rfl rfl rfl ?_
        refine r_load (i := 369) (u := 4) (w := 0) rfl rfl rfl ?_
        refine r_const (i := 370) (u := 1) (z := 1) rfl rfl ?_
        refine r_iadd (i := 371) rfl ?_
        refine r_scA (i := 372) hG rfl (by omega) (by omega) fun h458 => ?_
        have h458 : Rg (sc (i + 1).toNat) := h458
        refine r_load (i := 373) (u := 0) (w := 2) rfl rfl rfl ?_
        refine r_load (i := 374) (u := 4) (w := 0) rfl rfl rfl ?_
        refine r_const (i := 375) (u := 2) (z := 2) rfl rfl ?_
        refine r_iadd (i := 376) rfl ?_
        refine r_scA (i := 377) hG rfl (by omega) (by omega) fun h459 => ?_
        have h459 : Rg (sc (i + 2).toNat) := h459
        refine r_i2l (i := 378) rfl ⟨by omega, by omega⟩ ?_
        refine r_const (i := 379) (u := 32) (z := 32) rfl rfl ?_
        refine r_lshl (i := 380) rfl ?_
        refine r_load (i := 381) (u := 0) (w := 2) rfl rfl rfl ?_
        refine r_load (i := 382) (u := 4) (w := 0) rfl rfl rfl ?_
        refine r_const (i := 383) (u := 3) (z := 3) rfl rfl ?_
        refine r_iadd (i := 384) rfl ?_
        refine r_scA (i := 385) hG rfl (by omega) (by omega) fun h460 => ?_
        have h460 : Rg (sc (i + 3).toNat) := h460
        refine r_i2l (i := 386) rfl ⟨by omega, by omega⟩ ?_
        refine r_lconst (i := 387) (u := 4294967295) (z := 4294967295) rfl rfl ?_
        refine r_land (i := 388) rfl ?_
        have h461 := @yland_c (sc (i + 3).toNat) 4294967295 (by decide) (by decide)
        refine r_lor (i := 389) rfl ?_
        have h462 := ylor_rl ((sc (i + 2).toNat) * 4294967296) (yland (sc (i + 3).toNat) 4294967295)
        refine r_load (i := 390) (u := 0) (w := 2) rfl rfl rfl ?_
        refine r_load (i := 391) (u := 4) (w := 0) rfl rfl rfl ?_
        refine r_const (i := 392) (u := 4) (z := 4) rfl rfl ?_
        refine r_iadd (i := 393) rfl ?_
        refine r_scA (i := 394) hG rfl (by omega) (by omega) fun h463 => ?_
        have h463 : Rg (sc (i + 4).toNat) := h463
        refine r_i2l (i := 395) rfl ⟨by omega, by omega⟩ ?_
        refine r_const (i := 396) (u := 32) (z := 32) rfl rfl ?_
        refine r_lshl (i := 397) rfl ?_
        refine r_load (i := 398) (u := 0) (w := 2) rfl rfl rfl ?_
        refine r_load (i := 399) (u := 4) (w := 0) rfl rfl rfl ?_
        refine r_const (i := 400) (u := 5) (z := 5) rfl rfl ?_
        refine r_iadd (i := 401) rfl ?_
        refine r_scA (i := 402) hG rfl (by omega) (by omega) fun h464 => ?_
        have h464 : Rg (sc (i + 5).toNat) := h464
        refine r_i2l (i := 403) rfl ⟨by omega, by omega⟩ ?_
        refine r_lconst (i := 404) (u := 4294967295) (z := 4294967295) rfl rfl ?_
        refine r_land (i := 405) rfl ?_
        have h465 := @yland_c (sc (i + 5).toNat) 4294967295 (by decide) (by decide)
        refine r_lor (i := 406) rfl ?_
        have h466 := ylor_rl ((sc (i + 4).toNat) * 4294967296) (yland (sc (i + 5).toNat) 4294967295)
        refine r_load (i := 407) (u := 0) (w := 2) rfl rfl rfl ?_
        refine r_load (i := 408) (u := 4) (w := 0) rfl rfl rfl ?_
        refine r_const (i := 409) (u := 6) (z := 6) rfl rfl ?_
        refine r_iadd (i := 410) rfl ?_
        refine r_scA (i := 411) hG rfl (by omega) (by omega) fun h467 => ?_
        have h467 : Rg (sc (i + 6).toNat) := h467
        refine r_i2l (i := 412) rfl ⟨by omega, by omega⟩ ?_
        refine r_const (i := 413) (u := 32) (z := 32) rfl rfl ?_
        refine r_lshl (i := 414) rfl ?_
        refine r_load (i := 415) (u := 0) (w := 2) rfl rfl rfl ?_
        refine r_load (i := 416) (u := 4) (w := 0) rfl rfl rfl ?_
        refine r_const (i := 417) (u := 7) (z := 7) rfl rfl ?_
        refine r_iadd (i := 418) rfl ?_
        refine r_scA (i := 419) hG rfl (by omega) (by omega) fun h468 => ?_
        have h468 : Rg (sc (i + 7).toNat) := h468
        refine r_i2l (i := 420) rfl ⟨by omega, by omega⟩ ?_
        refine r_lconst (i := 421) (u := 4294967295) (z := 4294967295) rfl rfl ?_
        refine r_land (i := 422) rfl ?_
        have h469 := @yland_c (sc (i + 7).toNat) 4294967295 (by decide) (by decide)
        refine r_lor (i := 423) rfl ?_
        have h470 := ylor_rl ((sc (i + 6).toNat) * 4294967296) (yland (sc (i + 7).toNat) 4294967295)
        refine r_load (i := 424) (u := 0) (w := 2) rfl rfl rfl ?_
        refine r_load (i := 425) (u := 4) (w := 0) rfl rfl rfl ?_
        refine r_const (i := 426) (u := 8) (z := 8) rfl rfl ?_
        refine r_iadd (i := 427) rfl ?_
        refine r_scA (i := 428) hG rfl (by omega) (by omega) fun h471 => ?_
        have h471 : Rg (sc (i + 8).toNat) := h471
        refine r_i2l (i := 429) rfl ⟨by omega, by omega⟩ ?_
        refine r_const (i := 430) (u := 32) (z := 32) rfl rfl ?_
        refine r_lshl (i := 431) rfl ?_
        refine r_load (i := 432) (u := 0) (w := 2) rfl rfl rfl ?_
        refine r_load (i := 433) (u := 4) (w := 0) rfl rfl rfl ?_
        refine r_const (i := 434) (u := 9) (z := 9) rfl rfl ?_
        refine r_iadd (i := 435) rfl ?_
        refine r_scA (i := 436) hG rfl (by omega) (by omega) fun h472 => ?_
        have h472 : Rg (sc (i + 9).toNat) := h472
        refine r_i2l (i := 437) rfl ⟨by omega, by omega⟩ ?_
        refine r_lconst (i := 438) (u := 4294967295) (z := 4294967295) rfl rfl ?_
        refine r_land (i := 439) rfl ?_
        have h473 := @yland_c (sc (i + 9).toNat) 4294967295 (by decide) (by decide)
        refine r_lor (i := 440) rfl ?_
        have h474 := ylor_rl ((sc (i + 8).toNat) * 4294967296) (yland (sc (i + 9).toNat) 4294967295)
        refine r_load (i := 441) (u := 3) (w := 2) rfl rfl rfl ?_
        refine r_call (i := 442) (u := 65535) (v := 174) (w := 0) (b := 2) (na := 3079) (C2 := xC174) (as := [(2, 0), vi (sc (i + 1).toNat), vl (ylor ((sc (i + 2).toNat) * 4294967296) (yland (sc (i + 3).toNat) 4294967295)), vl (ylor ((sc (i + 4).toNat) * 4294967296) (yland (sc (i + 5).toNat) 4294967295)), vl (ylor ((sc (i + 6).toNat) * 4294967296) (yland (sc (i + 7).toNat) 4294967295)), vl (ylor ((sc (i + 8).toNat) * 4294967296) (yland (sc (i + 9).toNat) 4294967295)), (2, 81)]) (s := []) rfl rfl rfl rfl rfl rfl rfl (sp174 (p0 := sc (i + 1).toNat) (p1 := ylor ((sc (i + 2).toNat) * 4294967296) (yland (sc (i + 3).toNat) 4294967295)) (p2 := ylor ((sc (i + 4).toNat) * 4294967296) (yland (sc (i + 5).toNat) 4294967295)) (p3 := ylor ((sc (i + 6).toNat) * 4294967296) (yland (sc (i + 7).toNat) 4294967295)) (p4 := ylor ((sc (i + 8).toNat) * 4294967296) (yland (sc (i + 9).toNat) 4294967295)) (kR := 5199 - i) hI ⟨by omega, by omega⟩ ⟨by omega, by omega⟩ ⟨by omega, by omega⟩ ⟨by omega, by omega⟩ ⟨by omega, by omega⟩ (by exact wRM_le q_0 (by omega)) (by omega) e_N23 e_CR (by omega)) (fun r475 S476 hq477 => ?_)
        obtain ⟨z478, rfl, h479, h480, rm481, e482, e483, hI484, hF485⟩ := hq477
        have e486 := RTx.fr e_RT hF485 rfl rfl
        have e487 := RMex.fr e_RMe hF485 rfl rfl
        have e488 := RSx.fr e_RS hF485 rfl rfl
        have e489 := RIx.fr e_RI hF485 rfl rfl
        have e490 := RKx.fr e_RK hF485 rfl rfl
        have e491 := RSlx.fr e_RSl hF485 rfl rfl
        refine Or.inr (Or.inl ⟨rfl, ?_⟩)
        refine r_store (i := 443) (u := 5) (w := 0) (L1 := [some ((6, 0)), some ((2, 0)), some ((2, 43)), some ((2, 81)), some (vi i), some (vi z478), none]) rfl rfl rfl rfl ?_
        refine r_load (i := 444) (u := 2) (w := 2) rfl rfl rfl ?_
        refine r_load (i := 445) (u := 0) (w := 2) rfl rfl rfl ?_
        refine r_load (i := 446) (u := 4) (w := 0) rfl rfl rfl ?_
        refine r_const (i := 447) (u := 1) (z := 1) rfl rfl ?_
        refine r_iadd (i := 448) rfl ?_
        refine r_scA (i := 449) hG rfl (by omega) (by omega) fun h492 => ?_
        have h492 : Rg (sc (i + 1).toNat) := h492
        refine r_load (i := 450) (u := 0) (w := 2) rfl rfl rfl ?_
        refine r_load (i := 451) (u := 4) (w := 0) rfl rfl rfl ?_
        refine r_const (i := 452) (u := 2) (z := 2) rfl rfl ?_
        refine r_iadd (i := 453) rfl ?_
        refine r_scA (i := 454) hG rfl (by omega) (by omega) fun h493 => ?_
        have h493 : Rg (sc (i + 2).toNat) := h493
        refine r_i2l (i := 455) rfl ⟨by omega, by omega⟩ ?_
        refine r_const (i := 456) (u := 32) (z := 32) rfl rfl ?_
        refine r_lshl (i := 457) rfl ?_
        refine r_load (i := 458) (u := 0) (w := 2) rfl rfl rfl ?_
        refine r_load (i := 459) (u := 4) (w := 0) rfl rfl rfl ?_
        refine r_const (i := 460) (u := 3) (z := 3) rfl rfl ?_
        refine r_iadd (i := 461) rfl ?_
        refine r_scA (i := 462) hG rfl (by omega) (by omega) fun h494 => ?_
        have h494 : Rg (sc (i + 3).toNat) := h494
        refine r_i2l (i := 463) rfl ⟨by omega, by omega⟩ ?_
        refine r_lconst (i := 464) (u := 4294967295) (z := 4294967295) rfl rfl ?_
        refine r_land (i := 465) rfl ?_
        have h495 := @yland_c (sc (i + 3).toNat) 4294967295 (by decide) (by decide)
        refine r_lor (i := 466) rfl ?_
        have h496 := ylor_rl ((sc (i + 2).toNat) * 4294967296) (yland (sc (i + 3).toNat) 4294967295)
        refine r_load (i := 467) (u := 0) (w := 2) rfl rfl rfl ?_
        refine r_load (i := 468) (u := 4) (w := 0) rfl rfl rfl ?_
        refine r_const (i := 469) (u := 4) (z := 4) rfl rfl ?_
        refine r_iadd (i := 470) rfl ?_
        refine r_scA (i := 471) hG rfl (by omega) (by omega) fun h497 => ?_
        have h497 : Rg (sc (i + 4).toNat) := h497
        refine r_i2l (i := 472) rfl ⟨by omega, by omega⟩ ?_
        refine r_const (i := 473) (u := 32) (z := 32) rfl rfl ?_
        refine r_lshl (i := 474) rfl ?_
        refine r_load (i := 475) (u := 0) (w := 2) rfl rfl rfl ?_
        refine r_load (i := 476) (u := 4) (w := 0) rfl rfl rfl ?_
        refine r_const (i := 477) (u := 5) (z := 5) rfl rfl ?_
        refine r_iadd (i := 478) rfl ?_
        refine r_scA (i := 479) hG rfl (by omega) (by omega) fun h498 => ?_
        have h498 : Rg (sc (i + 5).toNat) := h498
        refine r_i2l (i := 480) rfl ⟨by omega, by omega⟩ ?_
        refine r_lconst (i := 481) (u := 4294967295) (z := 4294967295) rfl rfl ?_
        refine r_land (i := 482) rfl ?_
        have h499 := @yland_c (sc (i + 5).toNat) 4294967295 (by decide) (by decide)
        refine r_lor (i := 483) rfl ?_
        have h500 := ylor_rl ((sc (i + 4).toNat) * 4294967296) (yland (sc (i + 5).toNat) 4294967295)
        refine r_load (i := 484) (u := 0) (w := 2) rfl rfl rfl ?_
        refine r_load (i := 485) (u := 4) (w := 0) rfl rfl rfl ?_
        refine r_const (i := 486) (u := 6) (z := 6) rfl rfl ?_
        refine r_iadd (i := 487) rfl ?_
        refine r_scA (i := 488) hG rfl (by omega) (by omega) fun h501 => ?_
        have h501 : Rg (sc (i + 6).toNat) := h501
        refine r_i2l (i := 489) rfl ⟨by omega, by omega⟩ ?_
        refine r_const (i := 490) (u := 32) (z := 32) rfl rfl ?_
        refine r_lshl (i := 491) rfl ?_
        refine r_load (i := 492) (u := 0) (w := 2) rfl rfl rfl ?_
        refine r_load (i := 493) (u := 4) (w := 0) rfl rfl rfl ?_
        refine r_const (i := 494) (u := 7) (z := 7) rfl rfl ?_
        refine r_iadd (i := 495) rfl ?_
        refine r_scA (i := 496) hG rfl (by omega) (by omega) fun h502 => ?_
        have h502 : Rg (sc (i + 7).toNat) := h502
        refine r_i2l (i := 497) rfl ⟨by omega, by omega⟩ ?_
        refine r_lconst (i := 498) (u := 4294967295) (z := 4294967295) rfl rfl ?_
        refine r_land (i := 499) rfl ?_
        have h503 := @yland_c (sc (i + 7).toNat) 4294967295 (by decide) (by decide)
        refine r_lor (i := 500) rfl ?_
        have h504 := ylor_rl ((sc (i + 6).toNat) * 4294967296) (yland (sc (i + 7).toNat) 4294967295)
        refine r_load (i := 501) (u := 0) (w := 2) rfl rfl rfl ?_
        refine r_load (i := 502) (u := 4) (w := 0) rfl rfl rfl ?_
        refine r_const (i := 503) (u := 8) (z := 8) rfl rfl ?_
        refine r_iadd (i := 504) rfl ?_
        refine r_scA (i := 505) hG rfl (by omega) (by omega) fun h505 => ?_
        have h505 : Rg (sc (i + 8).toNat) := h505
        refine r_i2l (i := 506) rfl ⟨by omega, by omega⟩ ?_
        refine r_const (i := 507) (u := 32) (z := 32) rfl rfl ?_
        refine r_lshl (i := 508) rfl ?_
        refine r_load (i := 509) (u := 0) (w := 2) rfl rfl rfl ?_
        refine r_load (i := 510) (u := 4) (w := 0) rfl rfl rfl ?_
        refine r_const (i := 511) (u := 9) (z := 9) rfl rfl ?_
        refine r_iadd (i := 512) rfl ?_
        refine r_scA (i := 513) hG rfl (by omega) (by omega) fun h506 => ?_
        have h506 : Rg (sc (i + 9).toNat) := h506
        refine r_i2l (i := 514) rfl ⟨by omega, by omega⟩ ?_
        refine r_lconst (i := 515) (u := 4294967295) (z := 4294967295) rfl rfl ?_
        refine r_land (i := 516) rfl ?_
        have h507 := @yland_c (sc (i + 9).toNat) 4294967295 (by decide) (by decide)
        refine r_lor (i := 517) rfl ?_
        have h508 := ylor_rl ((sc (i + 8).toNat) * 4294967296) (yland (sc (i + 9).toNat) 4294967295)
        refine r_call (i := 518) (u := 11) (v := 188) (w := 0) (b := 0) (na := 4102) (C2 := xC188) (as := [(2, 43), vi (sc (i + 1).toNat), vl (ylor ((sc (i + 2).toNat) * 4294967296) (yland (sc (i + 3).toNat) 4294967295)), vl (ylor ((sc (i + 4).toNat) * 4294967296) (yland (sc (i + 5).toNat) 4294967295)), vl (ylor ((sc (i + 6).toNat) * 4294967296) (yland (sc (i + 7).toNat) 4294967295)), vl (ylor ((sc (i + 8).toNat) * 4294967296) (yland (sc (i + 9).toNat) 4294967295))]) (s := []) rfl rfl rfl rfl rfl rfl rfl (sp188 (k := sc (i + 1).toNat) (a := ylor ((sc (i + 2).toNat) * 4294967296) (yland (sc (i + 3).toNat) 4294967295)) (b := ylor ((sc (i + 4).toNat) * 4294967296) (yland (sc (i + 5).toNat) 4294967295)) (c := ylor ((sc (i + 6).toNat) * 4294967296) (yland (sc (i + 7).toNat) 4294967295)) (e := ylor ((sc (i + 8).toNat) * 4294967296) (yland (sc (i + 9).toNat) 4294967295)) hI484 ⟨by omega, by omega⟩ ⟨by omega, by omega⟩ ⟨by omega, by omega⟩ ⟨by omega, by omega⟩ ⟨by omega, by omega⟩   (by omega)) (fun r509 S510 hq511 => ?_)
        obtain ⟨z512, rfl, h513, h514, hI515, hF516, hR517⟩ := hq511
        have e518 := RTx.fr e486 hF516 rfl rfl
        have e519 := RMex.fr e487 hF516 rfl rfl
        have e520 := RSx.fr e488 hF516 rfl rfl
        have e521 := RIx.fr e489 hF516 rfl rfl
        have e522 := RKx.fr e490 hF516 rfl rfl
        have e523 := RSlx.fr e491 hF516 rfl rfl
        have e524 := N23x.fr e482 hF516 hR517 rfl rfl rfl
        have e525 := CRx.fr e483 hF516 rfl rfl
        have e526 := wRM_rm rm481 hR517
        refine Or.inr (Or.inl ⟨rfl, ?_⟩)
        refine r_store (i := 519) (u := 6) (w := 0) (L1 := [some ((6, 0)), some ((2, 0)), some ((2, 43)), some ((2, 81)), some (vi i), some (vi z478), some (vi z512)]) rfl rfl rfl rfl ?_
        refine r_goto (i := 520) (v := 637) rfl ?_
        refine r_iinc (i := 637) (u := 10) (v := 4) (s := 10) (L1 := [some ((6, 0)), some ((2, 0)), some ((2, 43)), some ((2, 81)), some (vi (i + 10)), some (vi z478), some (vi z512)]) rfl rfl rfl rfl rfl ?_
        refine r_goto (i := 638) (v := 13) rfl ?_
        refine yT_drop (L1 := [some ((6, 0)), some ((2, 0)), some ((2, 43)), some ((2, 81)), some (vi (i + 10)), none, none]) rfl ?_
        exact ih S510 hI515 e524 e525 e518 e519 e520 e521 e522 e523 (i + 10) ⟨by omega, by omega⟩ (by exact wRM_le e526 (by omega)) (by omega)
      · refine r_swK (i := 24) (u := 1) (v := 637) (k := 11) (t := 521) rfl rfl h16 (by decide) (by decide) rfl ?_
        refine r_load (i := 521) (u := 1) (w := 2) rfl rfl rfl ?_
        refine r_call (i := 522) (u := 0) (v := 16) (w := 0) (b := 0) (na := 257) (C2 := xC16) (as := [(2, 0)]) (s := []) rfl rfl rfl rfl rfl rfl rfl (sp16  hI    (by omega)) (fun r527 S528 hq529 => ?_)
        obtain ⟨z530, rfl, h531, rfl⟩ := hq529
        refine Or.inr (Or.inl ⟨rfl, ?_⟩)
        refine r_pop2 (i := 523) rfl rfl ?_
        refine r_load (i := 524) (u := 2) (w := 2) rfl rfl rfl ?_
        refine r_call (i := 525) (u := 11) (v := 239) (w := 0) (b := 0) (na := 257) (C2 := xC239) (as := [(2, 43)]) (s := []) rfl rfl rfl rfl rfl rfl rfl (sp239  hI    (by omega)) (fun r532 S533 hq534 => ?_)
        obtain ⟨z535, rfl, h536, hI537, hF538, hR539⟩ := hq534
        have e540 := N23x.fr e_N23 hF538 hR539 rfl rfl rfl
        have e541 := CRx.fr e_CR hF538 rfl rfl
        have e542 := RTx.fr e_RT hF538 rfl rfl
        have e543 := RMex.fr e_RMe hF538 rfl rfl
        have e544 := RSx.fr e_RS hF538 rfl rfl
        have e545 := RIx.fr e_RI hF538 rfl rfl
        have e546 := RKx.fr e_RK hF538 rfl rfl
        have e547 := RSlx.fr e_RSl hF538 rfl rfl
        have e548 := wRM_rm q_0 hR539
        refine Or.inr (Or.inl ⟨rfl, ?_⟩)
        refine r_pop2 (i := 526) rfl rfl ?_
        refine r_goto (i := 527) (v := 637) rfl ?_
        refine r_iinc (i := 637) (u := 10) (v := 4) (s := 10) (L1 := [some ((6, 0)), some ((2, 0)), some ((2, 43)), some ((2, 81)), some (vi (i + 10)), none, none]) rfl rfl rfl rfl rfl ?_
        refine r_goto (i := 638) (v := 13) rfl ?_
        exact ih S533 hI537 e540 e541 e542 e543 e544 e545 e546 e547 (i + 10) ⟨by omega, by omega⟩ (by exact wRM_le e548 (by omega)) (by omega)
      · refine r_swK (i := 24) (u := 1) (v := 637) (k := 12) (t := 528) rfl rfl h17 (by decide) (by decide) rfl ?_
        refine r_load (i := 528) (u := 1) (w := 2) rfl rfl rfl ?_
        refine r_call (i := 529) (u := 0) (v := 3) (w := 0) (b := 0) (na := 257) (C2 := xC3) (as := [(2, 0)]) (s := []) rfl rfl rfl rfl rfl rfl rfl (sp3  hI    (by omega)) (fun r549 S550 hq551 => ?_)
        obtain ⟨z552, rfl, h553, h554, rfl⟩ := hq551
        refine Or.inr (Or.inl ⟨rfl, ?_⟩)
        refine r_pop (i := 530) rfl rfl ?_
        refine r_load (i := 531) (u := 2) (w := 2) rfl rfl rfl ?_
        refine r_call (i := 532) (u := 11) (v := 184) (w := 0) (b := 0) (na := 257) (C2 := xC184) (as := [(2, 43)]) (s := []) rfl rfl rfl rfl rfl rfl rfl (sp184  hI    (by omega)) (fun r555 S556 hq557 => ?_)
        obtain ⟨z558, rfl, h559, h560, hI561, hF562, hR563⟩ := hq557
        have e564 := N23x.fr e_N23 hF562 hR563 rfl rfl rfl
        have e565 := CRx.fr e_CR hF562 rfl rfl
        have e566 := RTx.fr e_RT hF562 rfl rfl
        have e567 := RMex.fr e_RMe hF562 rfl rfl
        have e568 := RSx.fr e_RS hF562 rfl rfl
        have e569 := RIx.fr e_RI hF562 rfl rfl
        have e570 := RKx.fr e_RK hF562 rfl rfl
        have e571 := RSlx.fr e_RSl hF562 rfl rfl
        have e572 := wRM_rm q_0 hR563
        refine Or.inr (Or.inl ⟨rfl, ?_⟩)
        refine r_pop (i := 533) rfl rfl ?_
        refine r_goto (i := 534) (v := 637) rfl ?_
        refine r_iinc (i := 637) (u := 10) (v := 4) (s := 10) (L1 := [some ((6, 0)), some ((2, 0)), some ((2, 43)), some ((2, 81)), some (vi (i + 10)), none, none]) rfl rfl rfl rfl rfl ?_
        refine r_goto (i := 638) (v := 13) rfl ?_
        exact ih S556 hI561 e564 e565 e566 e567 e568 e569 e570 e571 (i + 10) ⟨by omega, by omega⟩ (by exact wRM_le e572 (by omega)) (by omega)
      · refine r_swK (i := 24) (u := 1) (v := 637) (k := 13) (t := 535) rfl rfl h18 (by decide) (by decide) rfl ?_
        refine r_load (i := 535) (u := 1) (w := 2) rfl rfl rfl ?_
        refine r_load (i := 536) (u := 0) (w := 2) rfl rfl rfl ?_
        refine r_load (i := 537) (u := 4) (w := 0) rfl rfl rfl ?_
        refine r_const (i := 538) (u := 1) (z := 1) rfl rfl ?_
        refine r_iadd (i := 539) rfl ?_
        refine r_scA (i := 540) hG rfl (by omega) (by omega) fun h573 => ?_
        have h573 : Rg (sc (i + 1).toNat) := h573
        refine r_load (i := 541) (u := 0) (w := 2) rfl rfl rfl ?_
        refine r_load (i := 542) (u := 4) (w := 0) rfl rfl rfl ?_
        refine r_const (i := 543) (u := 2) (z := 2) rfl rfl ?_
        refine r_iadd (i := 544) rfl ?_
        refine r_scA (i := 545) hG rfl (by omega) (by omega) fun h574 => ?_
        have h574 : Rg (sc (i + 2).toNat) := h574
        refine r_call (i := 546) (u := 0) (v := 9) (w := 0) (b := 0) (na := 771) (C2 := xC9) (as := [(2, 0), vi (sc (i + 1).toNat), vi (sc (i + 2).toNat)]) (s := []) rfl rfl rfl rfl rfl rfl rfl (sp9 (i0 := sc (i + 1).toNat) (w0 := sc (i + 2).toNat) hI ⟨by omega, by omega⟩ ⟨by omega, by omega⟩   (by omega)) (fun r575 S576 hq577 => ?_)
        obtain ⟨z578, rfl, h579, rfl⟩ := hq577
        refine Or.inr (Or.inl ⟨rfl, ?_⟩)
        refine r_pop2 (i := 547) rfl rfl ?_
        refine r_load (i := 548) (u := 2) (w := 2) rfl rfl rfl ?_
        refine r_load (i := 549) (u := 0) (w := 2) rfl rfl rfl ?_
        refine r_load (i := 550) (u := 4) (w := 0) rfl rfl rfl ?_
        refine r_const (i := 551) (u := 1) (z := 1) rfl rfl ?_
        refine r_iadd (i := 552) rfl ?_
        refine r_scA (i := 553) hG rfl (by omega) (by omega) fun h580 => ?_
        have h580 : Rg (sc (i + 1).toNat) := h580
        refine r_load (i := 554) (u := 0) (w := 2) rfl rfl rfl ?_
        refine r_load (i := 555) (u := 4) (w := 0) rfl rfl rfl ?_
        refine r_const (i := 556) (u := 2) (z := 2) rfl rfl ?_
        refine r_iadd (i := 557) rfl ?_
        refine r_scA (i := 558) hG rfl (by omega) (by omega) fun h581 => ?_
        have h581 : Rg (sc (i + 2).toNat) := h581
        refine r_call (i := 559) (u := 11) (v := 205) (w := 0) (b := 0) (na := 771) (C2 := xC205) (as := [(2, 43), vi (sc (i + 1).toNat), vi (sc (i + 2).toNat)]) (s := []) rfl rfl rfl rfl rfl rfl rfl (sp205 (i0 := sc (i + 1).toNat) (w0 := sc (i + 2).toNat) hI ⟨by omega, by omega⟩ ⟨by omega, by omega⟩   (by omega)) (fun r582 S583 hq584 => ?_)
        obtain ⟨z585, rfl, h586, hI587, hF588, hR589⟩ := hq584
        have e590 := N23x.fr e_N23 hF588 hR589 rfl rfl rfl
        have e591 := CRx.fr e_CR hF588 rfl rfl
        have e592 := RTx.fr e_RT hF588 rfl rfl
        have e593 := RMex.fr e_RMe hF588 rfl rfl
        have e594 := RSx.fr e_RS hF588 rfl rfl
        have e595 := RIx.fr e_RI hF588 rfl rfl
        have e596 := RKx.fr e_RK hF588 rfl rfl
        have e597 := RSlx.fr e_RSl hF588 rfl rfl
        have e598 := wRM_rm q_0 hR589
        refine Or.inr (Or.inl ⟨rfl, ?_⟩)
        refine r_pop2 (i := 560) rfl rfl ?_
        refine r_goto (i := 561) (v := 637) rfl ?_
        refine r_iinc (i := 637) (u := 10) (v := 4) (s := 10) (L1 := [some ((6, 0)), some ((2, 0)), some ((2, 43)), some ((2, 81)), some (vi (i + 10)), none, none]) rfl rfl rfl rfl rfl ?_
        refine r_goto (i := 638) (v := 13) rfl ?_
        exact ih S583 hI587 e590 e591 e592 e593 e594 e595 e596 e597 (i + 10) ⟨by omega, by omega⟩ (by exact wRM_le e598 (by omega)) (by omega)
      · refine r_swK (i := 24) (u := 1) (v := 637) (k := 14) (t := 562) rfl rfl h19 (by decide) (by decide) rfl ?_
        refine r_load (i := 562) (u := 1) (w := 2) rfl rfl rfl ?_
        refine r_call (i := 563) (u := 0) (v := 17) (w := 0) (b := 0) (na := 257) (C2 := xC17) (as := [(2, 0)]) (s := []) rfl rfl rfl rfl rfl rfl rfl (sp17  hI    (by omega)) (fun r599 S600 hq601 => ?_)
        obtain ⟨z602, rfl, h603, h604, rfl⟩ := hq601
        refine Or.inr (Or.inl ⟨rfl, ?_⟩)
        refine r_pop (i := 564) rfl rfl ?_
        refine r_load (i := 565) (u := 2) (w := 2) rfl rfl rfl ?_
        refine r_call (i := 566) (u := 11) (v := 242) (w := 0) (b := 0) (na := 257) (C2 := xC242) (as := [(2, 43)]) (s := []) rfl rfl rfl rfl rfl rfl rfl (sp242  hI    (by omega)) (fun r605 S606 hq607 => ?_)
        obtain ⟨z608, rfl, h609, h610, hI611, hF612, hR613⟩ := hq607
        have e614 := N23x.fr e_N23 hF612 hR613 rfl rfl rfl
        have e615 := CRx.fr e_CR hF612 rfl rfl
        have e616 := RTx.fr e_RT hF612 rfl rfl
        have e617 := RMex.fr e_RMe hF612 rfl rfl
        have e618 := RSx.fr e_RS hF612 rfl rfl
        have e619 := RIx.fr e_RI hF612 rfl rfl
        have e620 := RKx.fr e_RK hF612 rfl rfl
        have e621 := RSlx.fr e_RSl hF612 rfl rfl
        have e622 := wRM_rm q_0 hR613
        refine Or.inr (Or.inl ⟨rfl, ?_⟩)
        refine r_pop (i := 567) rfl rfl ?_
        refine r_goto (i := 568) (v := 637) rfl ?_
        refine r_iinc (i := 637) (u := 10) (v := 4) (s := 10) (L1 := [some ((6, 0)), some ((2, 0)), some ((2, 43)), some ((2, 81)), some (vi (i + 10)), none, none]) rfl rfl rfl rfl rfl ?_
        refine r_goto (i := 638) (v := 13) rfl ?_
        exact ih S606 hI611 e614 e615 e616 e617 e618 e619 e620 e621 (i + 10) ⟨by omega, by omega⟩ (by exact wRM_le e622 (by omega)) (by omega)
      · refine r_swK (i := 24) (u := 1) (v := 637) (k := 15) (t := 569) rfl rfl h20 (by decide) (by decide) rfl ?_
        refine r_load (i := 569) (u := 1) (w := 2) rfl rfl rfl ?_
        refine r_load (i := 570) (u := 0) (w := 2) rfl rfl rfl ?_
        refine r_load (i := 571) (u := 4) (w := 0) rfl rfl rfl ?_
        refine r_const (i := 572) (u := 1) (z := 1) rfl rfl ?_
        refine r_iadd (i := 573) rfl ?_
        refine r_scA (i := 574) hG rfl (by omega) (by omega) fun h623 => ?_
        have h623 : Rg (sc (i + 1).toNat) := h623
        refine r_call (i := 575) (u := 0) (v := 4) (w := 0) (b := 0) (na := 514) (C2 := xC4) (as := [(2, 0), vi (sc (i + 1).toNat)]) (s := []) rfl rfl rfl rfl rfl rfl rfl (sp4 (k := sc (i + 1).toNat) hI ⟨by omega, by omega⟩   (by omega)) (fun r624 S625 hq626 => ?_)
        obtain ⟨z627, rfl, h628, h629, rfl⟩ := hq626
        refine Or.inr (Or.inl ⟨rfl, ?_⟩)
        refine r_pop (i := 576) rfl rfl ?_
        refine r_load (i := 577) (u := 2) (w := 2) rfl rfl rfl ?_
        refine r_load (i := 578) (u := 0) (w := 2) rfl rfl rfl ?_
        refine r_load (i := 579) (u := 4) (w := 0) rfl rfl rfl ?_
        refine r_const (i := 580) (u := 1) (z := 1) rfl rfl ?_
        refine r_iadd (i := 581) rfl ?_
        refine r_scA (i := 582) hG rfl (by omega) (by omega) fun h630 => ?_
        have h630 : Rg (sc (i + 1).toNat) := h630
        refine r_call (i := 583) (u := 11) (v := 187) (w := 0) (b := 0) (na := 514) (C2 := xC187) (as := [(2, 43), vi (sc (i + 1).toNat)]) (s := []) rfl rfl rfl rfl rfl rfl rfl (sp187 (k := sc (i + 1).toNat) hI ⟨by omega, by omega⟩   (by omega)) (fun r631 S632 hq633 => ?_)
        obtain ⟨z634, rfl, h635, h636, hI637, hF638, hR639⟩ := hq633
        have e640 := N23x.fr e_N23 hF638 hR639 rfl rfl rfl
        have e641 := CRx.fr e_CR hF638 rfl rfl
        have e642 := RTx.fr e_RT hF638 rfl rfl
        have e643 := RMex.fr e_RMe hF638 rfl rfl
        have e644 := RSx.fr e_RS hF638 rfl rfl
        have e645 := RIx.fr e_RI hF638 rfl rfl
        have e646 := RKx.fr e_RK hF638 rfl rfl
        have e647 := RSlx.fr e_RSl hF638 rfl rfl
        have e648 := wRM_rm q_0 hR639
        refine Or.inr (Or.inl ⟨rfl, ?_⟩)
        refine r_pop (i := 584) rfl rfl ?_
        refine r_goto (i := 585) (v := 637) rfl ?_
        refine r_iinc (i := 637) (u := 10) (v := 4) (s := 10) (L1 := [some ((6, 0)), some ((2, 0)), some ((2, 43)), some ((2, 81)), some (vi (i + 10)), none, none]) rfl rfl rfl rfl rfl ?_
        refine r_goto (i := 638) (v := 13) rfl ?_
        exact ih S632 hI637 e640 e641 e642 e643 e644 e645 e646 e647 (i + 10) ⟨by omega, by omega⟩ (by exact wRM_le e648 (by omega)) (by omega)
      · refine r_swK (i := 24) (u := 1) (v := 637) (k := 16) (t := 586) rfl rfl h21 (by decide) (by decide) rfl ?_
        refine r_load (i := 586) (u := 1) (w := 2) rfl rfl rfl ?_
        refine r_load (i := 587) (u := 0) (w := 2) rfl rfl rfl ?_
        refine r_load (i := 588) (u := 4) (w := 0) rfl rfl rfl ?_
        refine r_const (i := 589) (u := 1) (z := 1) rfl rfl ?_
        refine r_iadd (i := 590) rfl ?_
        refine r_scA (i := 591) hG rfl (by omega) (by omega) fun h649 => ?_
        have h649 : Rg (sc (i + 1).toNat) := h649
        refine r_load (i := 592) (u := 0) (w := 2) rfl rfl rfl ?_
        refine r_load (i := 593) (u := 4) (w := 0) rfl rfl rfl ?_
        refine r_const (i := 594) (u := 2) (z := 2) rfl rfl ?_
        refine r_iadd (i := 595) rfl ?_
        refine r_scA (i := 596) hG rfl (by omega) (by omega) fun h650 => ?_
        have h650 : Rg (sc (i + 2).toNat) := h650
        refine r_call (i := 597) (u := 0) (v := 6) (w := 0) (b := 0) (na := 771) (C2 := xC6) (as := [(2, 0), vi (sc (i + 1).toNat), vi (sc (i + 2).toNat)]) (s := []) rfl rfl rfl rfl rfl rfl rfl (sp6 (k := sc (i + 1).toNat) (b := sc (i + 2).toNat) hI ⟨by omega, by omega⟩ ⟨by omega, by omega⟩   (by omega)) (fun r651 S652 hq653 => ?_)
        obtain ⟨z654, rfl, h655, h656, hI657, hF658, hR659⟩ := hq653
        have e660 := N23x.fr e_N23 hF658 hR659 rfl rfl rfl
        have e661 := CRx.fr e_CR hF658 rfl rfl
        have e662 := RTx.fr e_RT hF658 rfl rfl
        have e663 := RMex.fr e_RMe hF658 rfl rfl
        have e664 := RSx.fr e_RS hF658 rfl rfl
        have e665 := RIx.fr e_RI hF658 rfl rfl
        have e666 := RKx.fr e_RK hF658 rfl rfl
        have e667 := RSlx.fr e_RSl hF658 rfl rfl
        have e668 := wRM_rm q_0 hR659
        refine Or.inr (Or.inl ⟨rfl, ?_⟩)
        refine r_pop (i := 598) rfl rfl ?_
        refine r_load (i := 599) (u := 2) (w := 2) rfl rfl rfl ?_
        refine r_load (i := 600) (u := 0) (w := 2) rfl rfl rfl ?_
        refine r_load (i := 601) (u := 4) (w := 0) rfl rfl rfl ?_
        refine r_const (i := 602) (u := 1) (z := 1) rfl rfl ?_
        refine r_iadd (i := 603) rfl ?_
        refine r_scA (i := 604) hG rfl (by omega) (by omega) fun h669 => ?_
        have h669 : Rg (sc (i + 1).toNat) := h669
        refine r_load (i := 605) (u := 0) (w := 2) rfl rfl rfl ?_
        refine r_load (i := 606) (u := 4) (w := 0) rfl rfl rfl ?_
        refine r_const (i := 607) (u := 2) (z := 2) rfl rfl ?_
        refine r_iadd (i := 608) rfl ?_
        refine r_scA (i := 609) hG rfl (by omega) (by omega) fun h670 => ?_
        have h670 : Rg (sc (i + 2).toNat) := h670
        refine r_call (i := 610) (u := 11) (v := 191) (w := 0) (b := 0) (na := 771) (C2 := xC191) (as := [(2, 43), vi (sc (i + 1).toNat), vi (sc (i + 2).toNat)]) (s := []) rfl rfl rfl rfl rfl rfl rfl (sp191 (k := sc (i + 1).toNat) (b := sc (i + 2).toNat) hI657 ⟨by omega, by omega⟩ ⟨by omega, by omega⟩   (by omega)) (fun r671 S672 hq673 => ?_)
        obtain ⟨z674, rfl, h675, h676, hI677, hF678, hR679⟩ := hq673
        have e680 := N23x.fr e660 hF678 hR679 rfl rfl rfl
        have e681 := CRx.fr e661 hF678 rfl rfl
        have e682 := RTx.fr e662 hF678 rfl rfl
        have e683 := RMex.fr e663 hF678 rfl rfl
        have e684 := RSx.fr e664 hF678 rfl rfl
        have e685 := RIx.fr e665 hF678 rfl rfl
        have e686 := RKx.fr e666 hF678 rfl rfl
        have e687 := RSlx.fr e667 hF678 rfl rfl
        have e688 := wRM_rm e668 hR679
        refine Or.inr (Or.inl ⟨rfl, ?_⟩)
        refine r_pop (i := 611) rfl rfl ?_
        refine r_goto (i := 612) (v := 637) rfl ?_
        refine r_iinc (i := 637) (u := 10) (v := 4) (s := 10) (L1 := [some ((6, 0)), some ((2, 0)), some ((2, 43)), some ((2, 81)), some (vi (i + 10)), none, none]) rfl rfl rfl rfl rfl ?_
        refine r_goto (i := 638) (v := 13) rfl ?_
        exact ih S672 hI677 e680 e681 e682 e683 e684 e685 e686 e687 (i + 10) ⟨by omega, by omega⟩ (by exact wRM_le e688 (by omega)) (by omega)
      · refine r_swK (i := 24) (u := 1) (v := 637) (k := 17) (t := 613) rfl rfl h22 (by decide) (by decide) rfl ?_
        refine r_load (i := 613) (u := 1) (w := 2) rfl rfl rfl ?_
        refine r_load (i := 614) (u := 0) (w := 2) rfl rfl rfl ?_
        refine r_load (i := 615) (u := 4) (w := 0) rfl rfl rfl ?_
        refine r_const (i := 616) (u := 1) (z := 1) rfl rfl ?_
        refine r_iadd (i := 617) rfl ?_
        refine r_scA (i := 618) hG rfl (by omega) (by omega) fun h689 => ?_
        have h689 : Rg (sc (i + 1).toNat) := h689
        refine r_call (i := 619) (u := 0) (v := 7) (w := 0) (b := 0) (na := 514) (C2 := xC7) (as := [(2, 0), vi (sc (i + 1).toNat)]) (s := []) rfl rfl rfl rfl rfl rfl rfl (sp7 (k := sc (i + 1).toNat) hI ⟨by omega, by omega⟩   (by omega)) (fun r690 S691 hq692 => ?_)
        obtain ⟨z693, rfl, h694, h695, hI696, hF697, hR698⟩ := hq692
        have e699 := N23x.fr e_N23 hF697 hR698 rfl rfl rfl
        have e700 := CRx.fr e_CR hF697 rfl rfl
        have e701 := RTx.fr e_RT hF697 rfl rfl
        have e702 := RMex.fr e_RMe hF697 rfl rfl
        have e703 := RSx.fr e_RS hF697 rfl rfl
        have e704 := RIx.fr e_RI hF697 rfl rfl
        have e705 := RKx.fr e_RK hF697 rfl rfl
        have e706 := RSlx.fr e_RSl hF697 rfl rfl
        have e707 := wRM_rm q_0 hR698
        refine Or.inr (Or.inl ⟨rfl, ?_⟩)
        refine r_pop (i := 620) rfl rfl ?_
        refine r_load (i := 621) (u := 2) (w := 2) rfl rfl rfl ?_
        refine r_load (i := 622) (u := 0) (w := 2) rfl rfl rfl ?_
        refine r_load (i := 623) (u := 4) (w := 0) rfl rfl rfl ?_
        refine r_const (i := 624) (u := 1) (z := 1) rfl rfl ?_
        refine r_iadd (i := 625) rfl ?_
        refine r_scA (i := 626) hG rfl (by omega) (by omega) fun h708 => ?_
        have h708 : Rg (sc (i + 1).toNat) := h708
        refine r_call (i := 627) (u := 11) (v := 197) (w := 0) (b := 0) (na := 514) (C2 := xC197) (as := [(2, 43), vi (sc (i + 1).toNat)]) (s := []) rfl rfl rfl rfl rfl rfl rfl (sp197 (k := sc (i + 1).toNat) hI696 ⟨by omega, by omega⟩   (by omega)) (fun r709 S710 hq711 => ?_)
        obtain ⟨z712, rfl, h713, h714, hI715, hF716, hR717⟩ := hq711
        have e718 := N23x.fr e699 hF716 hR717 rfl rfl rfl
        have e719 := CRx.fr e700 hF716 rfl rfl
        have e720 := RTx.fr e701 hF716 rfl rfl
        have e721 := RMex.fr e702 hF716 rfl rfl
        have e722 := RSx.fr e703 hF716 rfl rfl
        have e723 := RIx.fr e704 hF716 rfl rfl
        have e724 := RKx.fr e705 hF716 rfl rfl
        have e725 := RSlx.fr e706 hF716 rfl rfl
        have e726 := wRM_rm e707 hR717
        refine Or.inr (Or.inl ⟨rfl, ?_⟩)
        refine r_pop (i := 628) rfl rfl ?_
        refine r_goto (i := 629) (v := 637) rfl ?_
        refine r_iinc (i := 637) (u := 10) (v := 4) (s := 10) (L1 := [some ((6, 0)), some ((2, 0)), some ((2, 43)), some ((2, 81)), some (vi (i + 10)), none, none]) rfl rfl rfl rfl rfl ?_
        refine r_goto (i := 638) (v := 13) rfl ?_
        exact ih S710 hI715 e718 e719 e720 e721 e722 e723 e724 e725 (i + 10) ⟨by omega, by omega⟩ (by exact wRM_le e726 (by omega)) (by omega)
      · refine r_swK (i := 24) (u := 1) (v := 637) (k := 18) (t := 630) rfl rfl h23 (by decide) (by decide) rfl ?_
        refine r_load (i := 630) (u := 1) (w := 2) rfl rfl rfl ?_
        refine r_call (i := 631) (u := 0) (v := 15) (w := 0) (b := 0) (na := 257) (C2 := xC15) (as := [(2, 0)]) (s := []) rfl rfl rfl rfl rfl rfl rfl (sp15  hI    (by omega)) (fun r727 S728 hq729 => ?_)
        obtain ⟨z730, rfl, h731, h732, hI733, hF734, hR735⟩ := hq729
        have e736 := N23x.fr e_N23 hF734 hR735 rfl rfl rfl
        have e737 := CRx.fr e_CR hF734 rfl rfl
        have e738 := RTx.fr e_RT hF734 rfl rfl
        have e739 := RMex.fr e_RMe hF734 rfl rfl
        have e740 := RSx.fr e_RS hF734 rfl rfl
        have e741 := RIx.fr e_RI hF734 rfl rfl
        have e742 := RKx.fr e_RK hF734 rfl rfl
        have e743 := RSlx.fr e_RSl hF734 rfl rfl
        have e744 := wRM_rm q_0 hR735
        refine Or.inr (Or.inl ⟨rfl, ?_⟩)
        refine r_pop (i := 632) rfl rfl ?_
        refine r_load (i := 633) (u := 2) (w := 2) rfl rfl rfl ?_
        refine r_call (i := 634) (u := 11) (v := 235) (w := 0) (b := 0) (na := 1025) (C2 := xC235) (as := [(2, 43)]) (s := []) rfl rfl rfl rfl rfl rfl rfl (sp235  hI733    (by omega)) (fun r745 S746 hq747 => ?_)
        obtain ⟨z748, rfl, h749, h750, hI751, hF752, hR753⟩ := hq747
        have e754 := N23x.fr e736 hF752 hR753 rfl rfl rfl
        have e755 := CRx.fr e737 hF752 rfl rfl
        have e756 := RTx.fr e738 hF752 rfl rfl
        have e757 := RMex.fr e739 hF752 rfl rfl
        have e758 := RSx.fr e740 hF752 rfl rfl
        have e759 := RIx.fr e741 hF752 rfl rfl
        have e760 := RKx.fr e742 hF752 rfl rfl
        have e761 := RSlx.fr e743 hF752 rfl rfl
        have e762 := wRM_rm e744 hR753
        refine Or.inr (Or.inl ⟨rfl, ?_⟩)
        refine r_pop (i := 635) rfl rfl ?_
        refine r_goto (i := 636) (v := 637) rfl ?_
        refine r_iinc (i := 637) (u := 10) (v := 4) (s := 10) (L1 := [some ((6, 0)), some ((2, 0)), some ((2, 43)), some ((2, 81)), some (vi (i + 10)), none, none]) rfl rfl rfl rfl rfl ?_
        refine r_goto (i := 638) (v := 13) rfl ?_
        exact ih S746 hI751 e754 e755 e756 e757 e758 e759 e760 e761 (i + 10) ⟨by omega, by omega⟩ (by exact wRM_le e762 (by omega)) (by omega)
      · refine r_swK (i := 24) (u := 1) (v := 637) (k := 19) (t := 637) rfl rfl h24 (by decide) (by decide) rfl ?_
        refine r_iinc (i := 637) (u := 10) (v := 4) (s := 10) (L1 := [some ((6, 0)), some ((2, 0)), some ((2, 43)), some ((2, 81)), some (vi (i + 10)), none, none]) rfl rfl rfl rfl rfl ?_
        refine r_goto (i := 638) (v := 13) rfl ?_
        exact ih S hI e_N23 e_CR e_RT e_RMe e_RS e_RI e_RK e_RSl (i + 10) ⟨by omega, by omega⟩ (by exact wRM_le q_0 (by omega)) (by omega)
      · refine r_swK (i := 24) (u := 1) (v := 637) (k := 20) (t := 637) rfl rfl h25 (by decide) (by decide) rfl ?_
        refine r_iinc (i := 637) (u := 10) (v := 4) (s := 10) (L1 := [some ((6, 0)), some ((2, 0)), some ((2, 43)), some ((2, 81)), some (vi (i + 10)), none, none]) rfl rfl rfl rfl rfl ?_
        refine r_goto (i := 638) (v := 13) rfl ?_
        exact ih S hI e_N23 e_CR e_RT e_RMe e_RS e_RI e_RK e_RSl (i + 10) ⟨by omega, by omega⟩ (by exact wRM_le q_0 (by omega)) (by omega)
      · refine r_swK (i := 24) (u := 1) (v := 637) (k := 21) (t := 637) rfl rfl h26 (by decide) (by decide) rfl ?_
        refine r_iinc (i := 637) (u := 10) (v := 4) (s := 10) (L1 := [some ((6, 0)), some ((2, 0)), some ((2, 43)), some ((2, 81)), some (vi (i + 10)), none, none]) rfl rfl rfl rfl rfl ?_
        refine r_goto (i := 638) (v := 13) rfl ?_
        exact ih S hI e_N23 e_CR e_RT e_RMe e_RS e_RI e_RK e_RSl (i + 10) ⟨by omega, by omega⟩ (by exact wRM_le q_0 (by omega)) (by omega)
      · refine r_swK (i := 24) (u := 1) (v := 637) (k := 22) (t := 637) rfl rfl h27 (by decide) (by decide) rfl ?_
        refine r_iinc (i := 637) (u := 10) (v := 4) (s := 10) (L1 := [some ((6, 0)), some ((2, 0)), some ((2, 43)), some ((2, 81)), some (vi (i + 10)), none, none]) rfl rfl rfl rfl rfl ?_
        refine r_goto (i := 638) (v := 13) rfl ?_
        exact ih S hI e_N23 e_CR e_RT e_RMe e_RS e_RI e_RK e_RSl (i + 10) ⟨by omega, by omega⟩ (by exact wRM_le q_0 (by omega)) (by omega)
      · refine r_swK (i := 24) (u := 1) (v := 637) (k := 23) (t := 637) rfl rfl h28 (by decide) (by decide) rfl ?_
        refine r_iinc (i := 637) (u := 10) (v := 4) (s := 10) (L1 := [some ((6, 0)), some ((2, 0)), some ((2, 43)), some ((2, 81)), some (vi (i + 10)), none, none]) rfl rfl rfl rfl rfl ?_
        refine r_goto (i := 638) (v := 13) rfl ?_
        exact ih S hI e_N23 e_CR e_RT e_RMe e_RS e_RI e_RK e_RSl (i + 10) ⟨by omega, by omega⟩ (by exact wRM_le q_0 (by omega)) (by omega)
      · refine r_swK (i := 24) (u := 1) (v := 637) (k := 24) (t := 637) rfl rfl h29 (by decide) (by decide) rfl ?_
        refine r_iinc (i := 637) (u := 10) (v := 4) (s := 10) (L1 := [some ((6, 0)), some ((2, 0)), some ((2, 43)), some ((2, 81)), some (vi (i + 10)), none, none]) rfl rfl rfl rfl rfl ?_
        refine r_goto (i := 638) (v := 13) rfl ?_
        exact ih S hI e_N23 e_CR e_RT e_RMe e_RS e_RI e_RK e_RSl (i + 10) ⟨by omega, by omega⟩ (by exact wRM_le q_0 (by omega)) (by omega)
      · refine r_swK (i := 24) (u := 1) (v := 637) (k := 25) (t := 637) rfl rfl h30 (by decide) (by decide) rfl ?_
        refine r_iinc (i := 637) (u := 10) (v := 4) (s := 10) (L1 := [some ((6, 0)), some ((2, 0)), some ((2, 43)), some ((2, 81)), some (vi (i + 10)), none, none]) rfl rfl rfl rfl rfl ?_
        refine r_goto (i := 638) (v := 13) rfl ?_
        exact ih S hI e_N23 e_CR e_RT e_RMe e_RS e_RI e_RK e_RSl (i + 10) ⟨by omega, by omega⟩ (by exact wRM_le q_0 (by omega)) (by omega)
      · refine r_swK (i := 24) (u := 1) (v := 637) (k := 26) (t := 637) rfl rfl h31 (by decide) (by decide) rfl ?_
        refine r_iinc (i := 637) (u := 10) (v := 4) (s := 10) (L1 := [some ((6, 0)), some ((2, 0)), some ((2, 43)), some ((2, 81)), some (vi (i + 10)), none, none]) rfl rfl rfl rfl rfl ?_
        refine r_goto (i := 638) (v := 13) rfl ?_
        exact ih S hI e_N23 e_CR e_RT e_RMe e_RS e_RI e_RK e_RSl (i + 10) ⟨by omega, by omega⟩ (by exact wRM_le q_0 (by omega)) (by omega)
      · refine r_swK (i := 24) (u := 1) (v := 637) (k := 27) (t := 637) rfl rfl h32 (by decide) (by decide) rfl ?_
        refine r_iinc (i := 637) (u := 10) (v := 4) (s := 10) (L1 := [some ((6, 0)), some ((2, 0)), some ((2, 43)), some ((2, 81)), some (vi (i + 10)), none, none]) rfl rfl rfl rfl rfl ?_
        refine r_goto (i := 638) (v := 13) rfl ?_
        exact ih S hI e_N23 e_CR e_RT e_RMe e_RS e_RI e_RK e_RSl (i + 10) ⟨by omega, by omega⟩ (by exact wRM_le q_0 (by omega)) (by omega)
      · refine r_swK (i := 24) (u := 1) (v := 637) (k := 28) (t := 637) rfl rfl h33 (by decide) (by decide) rfl ?_
        refine r_iinc (i := 637) (u := 10) (v := 4) (s := 10) (L1 := [some ((6, 0)), some ((2, 0)), some ((2, 43)), some ((2, 81)), some (vi (i + 10)), none, none]) rfl rfl rfl rfl rfl ?_
        refine r_goto (i := 638) (v := 13) rfl ?_
        exact ih S hI e_N23 e_CR e_RT e_RMe e_RS e_RI e_RK e_RSl (i + 10) ⟨by omega, by omega⟩ (by exact wRM_le q_0 (by omega)) (by omega)
      · refine r_swK (i := 24) (u := 1) (v := 637) (k := 29) (t := 637) rfl rfl h34 (by decide) (by decide) rfl ?_
        refine r_iinc (i := 637) (u := 10) (v := 4) (s := 10) (L1 := [some ((6, 0)), some ((2, 0)), some ((2, 43)), some ((2, 81)), some (vi (i + 10)), none, none]) rfl rfl rfl rfl rfl ?_
        refine r_goto (i := 638) (v := 13) rfl ?_
        exact ih S hI e_N23 e_CR e_RT e_RMe e_RS e_RI e_RK e_RSl (i + 10) ⟨by omega, by omega⟩ (by exact wRM_le q_0 (by omega)) (by omega)
      · refine r_swK (i := 24) (u := 1) (v := 637) (k := 30) (t := 637) rfl rfl h35 (by decide) (by decide) rfl ?_
        refine r_iinc (i := 637) (u := 10) (v := 4) (s := 10) (L1 := [some ((6, 0)), some ((2, 0)), some ((2, 43)), some ((2, 81)), some (vi (i + 10)), none, none]) rfl rfl rfl rfl rfl ?_
        refine r_goto (i := 638) (v := 13) rfl ?_
        exact ih S hI e_N23 e_CR e_RT e_RMe e_RS e_RI e_RK e_RSl (i + 10) ⟨by omega, by omega⟩ (by exact wRM_le q_0 (by omega)) (by omega)
      · refine r_swK (i := 24) (u := 1) (v := 637) (k := 31) (t := 637) rfl rfl h36 (by decide) (by decide) rfl ?_
        refine r_iinc (i := 637) (u := 10) (v := 4) (s := 10) (L1 := [some ((6, 0)), some ((2, 0)), some ((2, 43)), some ((2, 81)), some (vi (i + 10)), none, none]) rfl rfl rfl rfl rfl ?_
        refine r_goto (i := 638) (v := 13) rfl ?_
        exact ih S hI e_N23 e_CR e_RT e_RMe e_RS e_RI e_RK e_RSl (i + 10) ⟨by omega, by omega⟩ (by exact wRM_le q_0 (by omega)) (by omega)
end XNC
