set_option linter.unusedVariables false
set_option maxRecDepth 4000
noncomputable section XNC
/-- ProxyForgeLaw.type -/
theorem sp179 {G : xk} {S : yS} {d : Nat} (hI : yI S) {kR : Int} {p0 : Int} (h_p0 : 0 ≤ p0 ∧ p0 ≤ 1) {p1 : Int} (h_p1 : -2147483648 ≤ p1 ∧ p1 ≤ 2147483647) {p2 : Int} (h_p2 : -2147483648 ≤ p2 ∧ p2 ≤ 2147483647) {p3 : Int} (h_p3 : -2147483648 ≤ p3 ∧ p3 ≤ 2147483647) (p_0 : wRM (kR + 1) S) (p_1 : 0 ≤ kR) (e_N23 : N23 S) (e_CR : CR S) (hd : 7 ≤ d) : yT xPr G LY xC179 0 [some ((2, 0)), some (vi p0), some (vi p1), some (vi p2), some (vi p3), some ((2, 81))] [] S d (fun r S' => ∃ z : Int, r = (1, vi z) ∧ 0 ≤ z ∧ z ≤ 2 ∧ wRM kR S' ∧ hTy S S' p0 p1 p2 p3 z ∧ (z = 0 → c6T S S' p3) ∧ N23 S' ∧ CR S' ∧ yI S' ∧ yFr [(1, 7)] [2, 3, 4, 5, 6, 81] S S') := by
  refine yT_pad 1 ?_
  show yT xPr G LY xC179 0 [some ((2, 0)), some (vi p0), some (vi p1), some (vi p2), some (vi p3), some ((2, 81)), none] [] S d _
  obtain ⟨d, rfl⟩ : ∃ q, d = q + 1 := ⟨d - 1, by omega⟩
  have hF : yFr [(1, 7)] [2, 3, 4, 5, 6, 81] S S := yFr.refl S
  have e_RM := p_0
  refine r_load (i := 0) (u := 5) (w := 2) rfl rfl rfl ?_
  refine r_const (i := 1) (u := 0) (z := 0) rfl rfl ?_
  refine r_load (i := 2) (u := 0) (w := 2) rfl rfl rfl ?_
  refine r_load (i := 3) (u := 1) (w := 0) rfl rfl rfl ?_
  refine r_load (i := 4) (u := 2) (w := 0) rfl rfl rfl ?_
  refine r_load (i := 5) (u := 3) (w := 0) rfl rfl rfl ?_
  refine r_load (i := 6) (u := 4) (w := 0) rfl rfl rfl ?_
  have h1 := hI.f tf1_7
  refine r_call (i := 7) (u := 3940705509310464) (v := 21) (w := 11) (b := 0) (na := 1285) (C2 := xC21) (as := [(2, 0), vi p0, vi p1, vi p2, vi p3]) (s := [vi 0, (2, 81)]) rfl rfl rfl rfl rfl rfl rfl (sp21 (b := p0) (fl := p1) (p := p2) (up := p3) hI ⟨by omega, by omega⟩ ⟨by omega, by omega⟩ ⟨by omega, by omega⟩ ⟨by omega, by omega⟩   (by omega)) (fun r2 S3 hq4 => ?_)
  rcases hq4 with hq5 | ⟨a7, c9, rfl, hc6, rfl⟩
  · obtain ⟨z8, rfl, h9, h10, tc11, tl12, tz13, ct14, c6t15, hI16, hF17, hR18⟩ := hq5
    have hF19 := hF.trans hF17 rfl rfl
    have e20 := N23x.fr e_N23 hF17 hR18 rfl rfl rfl
    have e21 := CRx.fr e_CR hF17 rfl rfl
    have e22 := wRM_rm e_RM hR18
    refine Or.inr (Or.inl ⟨rfl, ?_⟩)
    refine r_i2l (i := 8) rfl ⟨by omega, by omega⟩ ?_
    refine r_lastore (i := 9) rfl ly81 (by decide) (by omega) (by omega) ⟨by omega, by omega⟩ ?_
    have hI24 := hI16.seta0 (b := 81) (j := (0 : Int).toNat) (z := z8) rfl rfl
    have hF26 := hF19.seta (b := 81) (j := (0 : Int).toNat) (z := z8) rfl
    have e28 := N23x.seta e20 (b := 81) (j := (0 : Int).toNat) (z := z8) rfl
    have e29 := CRx.seta e21 (b := 81) (j := (0 : Int).toNat) (z := z8) rfl
    have e30 := wRM_a e22 (b := 81) (j := (0 : Int).toNat) (z := z8)
    refine yT_gen (fun S23 hS25 => ?_)
    rw [hS25] at hI24 hF26  e28 e29 e30
    refine r_goto (i := 10) (v := 17) rfl ?_
    refine r_const (i := 17) (u := 0) (z := 0) rfl rfl ?_
    exact r_retI (i := 18) rfl ⟨0, rfl, by omega, by omega, (by exact wRM_le e30 (by omega)), (by exact Or.inl ⟨rfl, tc11, tl12, by first | (subst hS25; exact ysa_eq.trans tz13) | (subst_vars; rfl), by subst hS25; exact cTy81 ct14⟩), (by intro _; subst hS25; exact c6t15), e28, e29, hI24, hF26⟩
  · obtain ⟨hI31, rm32⟩ := wRM_cost e_RM hI (by omega)
    have e33 : N23 (ycost S 1 6) := e_N23
    have e34 : CR (ycost S 1 6) := e_CR
    have hF35 : yFr [(1, 7)] [2, 3, 4, 5, 6, 81] S (ycost S 1 6) := hF
    rcases hc6 with ⟨rfl, xphc6⟩ | ⟨rfl, xphc6⟩
    · refine Or.inr (Or.inr (Or.inl ⟨rfl, rfl, by decide, ?_⟩))
      refine r_store (i := 11) (u := 6) (w := 2) (L1 := [some ((2, 0)), some (vi p0), some (vi p1), some (vi p2), some (vi p3), some ((2, 81)), some ((2, a7))]) rfl rfl rfl rfl ?_
      refine r_const (i := 12) (u := 1) (z := 1) rfl rfl ?_
      exact r_retI (i := 13) rfl ⟨1, rfl, by omega, by omega, (by exact wRM_le rm32 (by omega)), (by first | exact Or.inr (Or.inl ⟨rfl, xphc6, rfl, rfl⟩) | exact Or.inr (Or.inr ⟨rfl, xphc6.1, xphc6.2, rfl, rfl⟩)), (by intro hz; exact absurd hz (by omega)), e33, e34, hI31, hF35⟩
    · refine Or.inr (Or.inr (Or.inr ⟨rfl, (show (13 : Nat) ≠ 3940705509310464 / 65536 % 65536 by decide), rfl, by decide, ?_⟩))
      refine r_store (i := 14) (u := 6) (w := 2) (L1 := [some ((2, 0)), some (vi p0), some (vi p1), some (vi p2), some (vi p3), some ((2, 81)), some ((2, a7))]) rfl rfl rfl rfl ?_
      refine r_const (i := 15) (u := 2) (z := 2) rfl rfl ?_
      exact r_retI (i := 16) rfl ⟨2, rfl, by omega, by omega, (by exact wRM_le rm32 (by omega)), (by first | exact Or.inr (Or.inl ⟨rfl, xphc6, rfl, rfl⟩) | exact Or.inr (Or.inr ⟨rfl, xphc6.1, xphc6.2, rfl, rfl⟩)), (by intro hz; exact absurd hz (by omega)), e33, e34, hI31, hF35⟩
/-- ProxyForgeLaw.implement -/
theorem sp176 {G : xk} {S : yS} {d : Nat} (hI : yI S) {kR : Int} {p0 : Int} (h_p0 : -2147483648 ≤ p0 ∧ p0 ≤ 2147483647) {p1 : Int} (h_p1 : -2147483648 ≤ p1 ∧ p1 ≤ 2147483647) (p_0 : wRM (kR + 1) S) (p_1 : 0 ≤ kR) (e_N23 : N23 S) (e_CR : CR S) (hd : 7 ≤ d) : yT xPr G LY xC176 0 [some ((2, 0)), some (vi p0), some (vi p1)] [] S d (fun r S' => ∃ z : Int, r = (1, vi z) ∧ 0 ≤ z ∧ z ≤ 2 ∧ wRM kR S' ∧ hIm S S' p0 p1 z ∧ N23 S' ∧ CR S' ∧ yI S' ∧ yFr [] [6, 7, 8] S S') := by
  refine yT_pad 1 ?_
  show yT xPr G LY xC176 0 [some ((2, 0)), some (vi p0), some (vi p1), none] [] S d _
  obtain ⟨d, rfl⟩ : ∃ q, d = q + 1 := ⟨d - 1, by omega⟩
  have hF : yFr [] [6, 7, 8] S S := yFr.refl S
  have e_RM := p_0
  refine r_load (i := 0) (u := 0) (w := 2) rfl rfl rfl ?_
  refine r_load (i := 1) (u := 1) (w := 0) rfl rfl rfl ?_
  refine r_load (i := 2) (u := 2) (w := 0) rfl rfl rfl ?_
  refine r_call (i := 3) (u := 786432) (v := 10) (w := 5) (b := 0) (na := 771) (C2 := xC10) (as := [(2, 0), vi p0, vi p1]) (s := []) rfl rfl rfl rfl rfl rfl rfl (sp10 (t := p0) (f := p1) hI ⟨by omega, by omega⟩ ⟨by omega, by omega⟩   (by omega)) (fun r1 S2 hq3 => ?_)
  rcases hq3 with hq4 | ⟨a6, c9, rfl, hc5, rfl⟩
  · obtain ⟨rfl, ic7, ci28, hI9, hF10, hR11⟩ := hq4
    have hF12 := hF.trans hF10 rfl rfl
    have e13 := N23x.fr e_N23 hF10 hR11 rfl rfl rfl
    have e14 := CRx.fr e_CR hF10 rfl rfl
    have e15 := wRM_rm e_RM hR11
    refine Or.inl ⟨rfl, ?_⟩
    refine r_goto (i := 4) (v := 8) rfl ?_
    refine r_const (i := 8) (u := 0) (z := 0) rfl rfl ?_
    exact r_retI (i := 9) rfl ⟨0, rfl, by omega, by omega, (by exact wRM_le e15 (by omega)), (by exact Or.inl ⟨rfl, ic7, ci28⟩), e13, e14, hI9, hF12⟩
  · obtain ⟨hI16, rm17⟩ := wRM_cost e_RM hI (by omega)
    have e18 : N23 (ycost S 1 6) := e_N23
    have e19 : CR (ycost S 1 6) := e_CR
    have hF20 : yFr [] [6, 7, 8] S (ycost S 1 6) := hF
    obtain ⟨rfl, xphc5⟩ := hc5
    · refine Or.inr (Or.inr (Or.inl ⟨rfl, rfl, by decide, ?_⟩))
      refine r_store (i := 5) (u := 3) (w := 2) (L1 := [some ((2, 0)), some (vi p0), some (vi p1), some ((2, a6))]) rfl rfl rfl rfl ?_
      refine r_const (i := 6) (u := 1) (z := 1) rfl rfl ?_
      exact r_retI (i := 7) rfl ⟨1, rfl, by omega, by omega, (by exact wRM_le rm17 (by omega)), (by exact Or.inr ⟨rfl, xphc5, rfl, rfl⟩), e18, e19, hI16, hF20⟩
/-- ProxyForgeLaw.method -/
theorem sp177 {G : xk} {S : yS} {d : Nat} (hI : yI S) {kR : Int} {p0 : Int} (h_p0 : -2147483648 ≤ p0 ∧ p0 ≤ 2147483647) {p1 : Int} (h_p1 : -2147483648 ≤ p1 ∧ p1 ≤ 2147483647) {p2 : Int} (h_p2 : -2147483648 ≤ p2 ∧ p2 ≤ 2147483647) {p3 : Int} (h_p3 : -2147483648 ≤ p3 ∧ p3 ≤ 2147483647) {p4 : Int} (h_p4 : -2147483648 ≤ p4 ∧ p4 ≤ 2147483647) (p_0 : wRM (kR + 1) S) (p_1 : 0 ≤ kR) (e_N23 : N23 S) (e_CR : CR S) (hd : 7 ≤ d) : yT xPr G LY xC177 0 [some ((2, 0)), some (vi p0), some (vi p1), some (vi p2), some (vi p3), some (vi p4), some ((2, 81))] [] S d (fun r S' => ∃ z : Int, r = (1, vi z) ∧ 0 ≤ z ∧ z ≤ 2 ∧ wRM kR S' ∧ hMe S S' p0 p1 p2 p3 p4 z ∧ N23 S' ∧ CR S' ∧ yI S' ∧ yFr [(9, 8)] [10, 11, 12, 13, 14, 81] S S') := by
  refine yT_pad 1 ?_
  show yT xPr G LY xC177 0 [some ((2, 0)), some (vi p0), some (vi p1), some (vi p2), some (vi p3), some (vi p4), some ((2, 81)), none] [] S d _
  obtain ⟨d, rfl⟩ : ∃ q, d = q + 1 := ⟨d - 1, by omega⟩
  have hF : yFr [(9, 8)] [10, 11, 12, 13, 14, 81] S S := yFr.refl S
  have e_RM := p_0
  refine r_load (i := 0) (u := 6) (w := 2) rfl rfl rfl ?_
  refine r_const (i := 1) (u := 0) (z := 0) rfl rfl ?_
  refine r_load (i := 2) (u := 0) (w := 2) rfl rfl rfl ?_
  refine r_load (i := 3) (u := 1) (w := 0) rfl rfl rfl ?_
  refine r_load (i := 4) (u := 2) (w := 0) rfl rfl rfl ?_
  refine r_load (i := 5) (u := 3) (w := 0) rfl rfl rfl ?_
  refine r_load (i := 6) (u := 4) (w := 0) rfl rfl rfl ?_
  refine r_load (i := 7) (u := 5) (w := 0) rfl rfl rfl ?_
  have h1 := hI.f tf9_8
  refine r_call (i := 8) (u := 4222180486021120) (v := 13) (w := 12) (b := 0) (na := 1542) (C2 := xC13) (as := [(2, 0), vi p0, vi p1, vi p2, vi p3, vi p4]) (s := [vi 0, (2, 81)]) rfl rfl rfl rfl rfl rfl rfl (sp13 (t := p0) (w0 := p1) (fl := p2) (p := p3) (b := p4) hI ⟨by omega, by omega⟩ ⟨by omega, by omega⟩ ⟨by omega, by omega⟩ ⟨by omega, by omega⟩ ⟨by omega, by omega⟩   (by omega)) (fun r2 S3 hq4 => ?_)
  rcases hq4 with hq5 | ⟨a7, c9, rfl, hc6, rfl⟩
  · obtain ⟨z8, rfl, h9, h10, tc11, tl12, tz13, ct14, hI15, hF16, hR17⟩ := hq5
    have hF18 := hF.trans hF16 rfl rfl
    have e19 := N23x.fr e_N23 hF16 hR17 rfl rfl rfl
    have e20 := CRx.fr e_CR hF16 rfl rfl
    have e21 := wRM_rm e_RM hR17
    refine Or.inr (Or.inl ⟨rfl, ?_⟩)
    refine r_i2l (i := 9) rfl ⟨by omega, by omega⟩ ?_
    refine r_lastore (i := 10) rfl ly81 (by decide) (by omega) (by omega) ⟨by omega, by omega⟩ ?_
    have hI23 := hI15.seta0 (b := 81) (j := (0 : Int).toNat) (z := z8) rfl rfl
    have hF25 := hF18.seta (b := 81) (j := (0 : Int).toNat) (z := z8) rfl
    have e27 := N23x.seta e19 (b := 81) (j := (0 : Int).toNat) (z := z8) rfl
    have e28 := CRx.seta e20 (b := 81) (j := (0 : Int).toNat) (z := z8) rfl
    have e29 := wRM_a e21 (b := 81) (j := (0 : Int).toNat) (z := z8)
    refine yT_gen (fun S22 hS24 => ?_)
    rw [hS24] at hI23 hF25  e27 e28 e29
    refine r_goto (i := 11) (v := 18) rfl ?_
    refine r_const (i := 18) (u := 0) (z := 0) rfl rfl ?_
    exact r_retI (i := 19) rfl ⟨0, rfl, by omega, by omega, (by exact wRM_le e29 (by omega)), (by exact Or.inl ⟨rfl, tc11, tl12, by first | (subst hS24; exact ysa_eq.trans tz13) | (subst_vars; rfl), by subst hS24; exact cMe81 ct14⟩), e27, e28, hI23, hF25⟩
  · obtain ⟨hI30, rm31⟩ := wRM_cost e_RM hI (by omega)
    have e32 : N23 (ycost S 1 6) := e_N23
    have e33 : CR (ycost S 1 6) := e_CR
    have hF34 : yFr [(9, 8)] [10, 11, 12, 13, 14, 81] S (ycost S 1 6) := hF
    rcases hc6 with ⟨rfl, xphc6⟩ | ⟨rfl, xphc6⟩
    · refine Or.inr (Or.inr (Or.inl ⟨rfl, rfl, by decide, ?_⟩))
      refine r_store (i := 12) (u := 7) (w := 2) (L1 := [some ((2, 0)), some (vi p0), some (vi p1), some (vi p2), some (vi p3), some (vi p4), some ((2, 81)), some ((2, a7))]) rfl rfl rfl rfl ?_
      refine r_const (i := 13) (u := 1) (z := 1) rfl rfl ?_
      exact r_retI (i := 14) rfl ⟨1, rfl, by omega, by omega, (by exact wRM_le rm31 (by omega)), (by first | exact Or.inr (Or.inl ⟨rfl, xphc6, rfl, rfl⟩) | exact Or.inr (Or.inr ⟨rfl, xphc6.1, xphc6.2, rfl, rfl⟩)), e32, e33, hI30, hF34⟩
    · refine Or.inr (Or.inr (Or.inr ⟨rfl, (show (13 : Nat) ≠ 4222180486021120 / 65536 % 65536 by decide), rfl, by decide, ?_⟩))
      refine r_store (i := 15) (u := 7) (w := 2) (L1 := [some ((2, 0)), some (vi p0), some (vi p1), some (vi p2), some (vi p3), some (vi p4), some ((2, 81)), some ((2, a7))]) rfl rfl rfl rfl ?_
      refine r_const (i := 16) (u := 2) (z := 2) rfl rfl ?_
      exact r_retI (i := 17) rfl ⟨2, rfl, by omega, by omega, (by exact wRM_le rm31 (by omega)), (by first | exact Or.inr (Or.inl ⟨rfl, xphc6, rfl, rfl⟩) | exact Or.inr (Or.inr ⟨rfl, xphc6.1, xphc6.2, rfl, rfl⟩)), e32, e33, hI30, hF34⟩
/-- ProxyForgeLaw.throwing -/
theorem sp178 {G : xk} {S : yS} {d : Nat} (hI : yI S) {kR : Int} {p0 : Int} (h_p0 : -2147483648 ≤ p0 ∧ p0 ≤ 2147483647) {p1 : Int} (h_p1 : -2147483648 ≤ p1 ∧ p1 ≤ 2147483647) (p_0 : wRM (kR + 1) S) (p_1 : 0 ≤ kR) (e_N23 : N23 S) (e_CR : CR S) (hd : 7 ≤ d) : yT xPr G LY xC178 0 [some ((2, 0)), some (vi p0), some (vi p1)] [] S d (fun r S' => ∃ z : Int, r = (1, vi z) ∧ 0 ≤ z ∧ z ≤ 2 ∧ wRM kR S' ∧ N23 S' ∧ CR S' ∧ yI S' ∧ yFr [] [15, 16] S S') := by
  refine yT_pad 1 ?_
  show yT xPr G LY xC178 0 [some ((2, 0)), some (vi p0), some (vi p1), none] [] S d _
  obtain ⟨d, rfl⟩ : ∃ q, d = q + 1 := ⟨d - 1, by omega⟩
  have hF : yFr [] [15, 16] S S := yFr.refl S
  have e_RM := p_0
  refine r_load (i := 0) (u := 0) (w := 2) rfl rfl rfl ?_
  refine r_load (i := 1) (u := 1) (w := 0) rfl rfl rfl ?_
  refine r_load (i := 2) (u := 2) (w := 0) rfl rfl rfl ?_
  refine r_call (i := 3) (u := 786432) (v := 20) (w := 5) (b := 0) (na := 771) (C2 := xC20) (as := [(2, 0), vi p0, vi p1]) (s := []) rfl rfl rfl rfl rfl rfl rfl (sp20 (m := p0) (t := p1) hI ⟨by omega, by omega⟩ ⟨by omega, by omega⟩   (by omega)) (fun r1 S2 hq3 => ?_)
  rcases hq3 with hq4 | ⟨a6, c9, rfl, hc5, rfl⟩
  · obtain ⟨rfl, hI7, hF8, hR9⟩ := hq4
    have hF10 := hF.trans hF8 rfl rfl
    have e11 := N23x.fr e_N23 hF8 hR9 rfl rfl rfl
    have e12 := CRx.fr e_CR hF8 rfl rfl
    have e13 := wRM_rm e_RM hR9
    refine Or.inl ⟨rfl, ?_⟩
    refine r_goto (i := 4) (v := 8) rfl ?_
    refine r_const (i := 8) (u := 0) (z := 0) rfl rfl ?_
    exact r_retI (i := 9) rfl ⟨0, rfl, by omega, by omega, (by exact wRM_le e13 (by omega)), e11, e12, hI7, hF10⟩
  · obtain ⟨hI14, rm15⟩ := wRM_cost e_RM hI (by omega)
    have e16 : N23 (ycost S 1 6) := e_N23
    have e17 : CR (ycost S 1 6) := e_CR
    have hF18 : yFr [] [15, 16] S (ycost S 1 6) := hF
    obtain rfl := hc5
    · refine Or.inr (Or.inr (Or.inl ⟨rfl, rfl, by decide, ?_⟩))
      refine r_store (i := 5) (u := 3) (w := 2) (L1 := [some ((2, 0)), some (vi p0), some (vi p1), some ((2, a6))]) rfl rfl rfl rfl ?_
      refine r_const (i := 6) (u := 1) (z := 1) rfl rfl ?_
      exact r_retI (i := 7) rfl ⟨1, rfl, by omega, by omega, (by exact wRM_le rm15 (by omega)), e16, e17, hI14, hF18⟩
/-- ProxyForgeLaw.forge -/
theorem sp175 {G : xk} {S : yS} {d : Nat} (hI : yI S) {kR : Int} {p0 : Int} (h_p0 : -2147483648 ≤ p0 ∧ p0 ≤ 2147483647) {p1 : Int} (h_p1 : -2147483648 ≤ p1 ∧ p1 ≤ 2147483647) {p2 : Int} (h_p2 : -2147483648 ≤ p2 ∧ p2 ≤ 2147483647) {p3 : Int} (h_p3 : -2147483648 ≤ p3 ∧ p3 ≤ 2147483647) (p_0 : wRM (kR + 1) S) (p_1 : 0 ≤ kR) (e_N23 : N23 S) (e_CR : CR S) (hd : 26 ≤ d) : yT xPr G LY xC175 0 [some ((2, 0)), some (vi p0), some (vi p1), some (vi p2), some (vi p3), some ((2, 81))] [] S d (fun r S' => ∃ z : Int, r = (1, vi z) ∧ 0 ≤ z ∧ z ≤ 2 ∧ wRM kR S' ∧ hFo S S' p0 p1 p2 p3 z ∧ N23 S' ∧ CR S' ∧ yI S' ∧ yFr [(17, 6), (17, 7), (17, 8), (17, 9), (17, 10), (17, 11), (17, 12), (22, 3), (31, 1), (33, 7), (33, 8), (33, 9), (33, 10), (33, 11), (33, 12), (33, 13), (33, 14), (33, 15), (34, 1), (36, 5)] [18, 19, 20, 21, 23, 24, 25, 37, 81, 100, 101, 102, 103, 105] S S') := by
  refine yT_pad 1 ?_
  show yT xPr G LY xC175 0 [some ((2, 0)), some (vi p0), some (vi p1), some (vi p2), some (vi p3), some ((2, 81)), none] [] S d _
  obtain ⟨d, rfl⟩ : ∃ q, d = q + 1 := ⟨d - 1, by omega⟩
  have hF : yFr [(17, 6), (17, 7), (17, 8), (17, 9), (17, 10), (17, 11), (17, 12), (22, 3), (31, 1), (33, 7), (33, 8), (33, 9), (33, 10), (33, 11), (33, 12), (33, 13), (33, 14), (33, 15), (34, 1), (36, 5)] [18, 19, 20, 21, 23, 24, 25, 37, 81, 100, 101, 102, 103, 105] S S := yFr.refl S
  have e_RM := p_0
  refine r_load (i := 0) (u := 5) (w := 2) rfl rfl rfl ?_
  refine r_const (i := 1) (u := 0) (z := 0) rfl rfl ?_
  refine r_load (i := 2) (u := 0) (w := 2) rfl rfl rfl ?_
  refine r_load (i := 3) (u := 1) (w := 0) rfl rfl rfl ?_
  refine r_load (i := 4) (u := 2) (w := 0) rfl rfl rfl ?_
  refine r_load (i := 5) (u := 3) (w := 0) rfl rfl rfl ?_
  refine r_load (i := 6) (u := 4) (w := 0) rfl rfl rfl ?_
  refine r_call (i := 7) (u := 786432) (v := 8) (w := 11) (b := 0) (na := 1797) (C2 := xC8) (as := [(2, 0), vi p0, vi p1, vi p2, vi p3]) (s := [vi 0, (2, 81)]) rfl rfl rfl rfl rfl rfl rfl (sp8 (t := p0) (fa := p1) (fb := p2) (fc := p3) hI ⟨by omega, by omega⟩ ⟨by omega, by omega⟩ ⟨by omega, by omega⟩ ⟨by omega, by omega⟩  e_N23 (by omega)) (fun r1 S2 hq3 => ?_)
  rcases hq3 with hq4 | ⟨a6, c9, rfl, hc5, rfl⟩
  · obtain ⟨z7, rfl, h8, h9, fo10, e11, hI12, hF13, hR14⟩ := hq4
    have hF15 := hF.trans hF13 rfl rfl
    have e16 := CRx.fr e_CR hF13 rfl rfl
    have e17 := wRM_rm e_RM hR14
    refine Or.inr (Or.inl ⟨rfl, ?_⟩)
    refine r_i2l (i := 8) rfl ⟨by omega, by omega⟩ ?_
    refine r_lastore (i := 9) rfl ly81 (by decide) (by omega) (by omega) ⟨by omega, by omega⟩ ?_
    have hI19 := hI12.seta0 (b := 81) (j := (0 : Int).toNat) (z := z7) rfl rfl
    have hF21 := hF15.seta (b := 81) (j := (0 : Int).toNat) (z := z7) rfl
    have e23 := CRx.seta e16 (b := 81) (j := (0 : Int).toNat) (z := z7) rfl
    have e24 := wRM_a e17 (b := 81) (j := (0 : Int).toNat) (z := z7)
    have e25 := N23x.seta e11 (b := 81) (j := (0 : Int).toNat) (z := z7) rfl
    refine yT_gen (fun S18 hS20 => ?_)
    rw [hS20] at hI19 hF21  e23 e24 e25
    refine r_goto (i := 10) (v := 14) rfl ?_
    refine r_const (i := 14) (u := 0) (z := 0) rfl rfl ?_
    exact r_retI (i := 15) rfl ⟨0, rfl, by omega, by omega, (by exact wRM_le e24 (by omega)), (by exact Or.inl ⟨rfl, by subst hS20; rw [ysa_eq]; exact fo10⟩), e25, e23, hI19, hF21⟩
  · obtain ⟨hI26, rm27⟩ := wRM_cost e_RM hI (by omega)
    have e28 : N23 (ycost S 1 6) := e_N23
    have e29 : CR (ycost S 1 6) := e_CR
    have hF30 : yFr [(17, 6), (17, 7), (17, 8), (17, 9), (17, 10), (17, 11), (17, 12), (22, 3), (31, 1), (33, 7), (33, 8), (33, 9), (33, 10), (33, 11), (33, 12), (33, 13), (33, 14), (33, 15), (34, 1), (36, 5)] [18, 19, 20, 21, 23, 24, 25, 37, 81, 100, 101, 102, 103, 105] S (ycost S 1 6) := hF
    obtain ⟨rfl, xphc5⟩ := hc5
    · refine Or.inr (Or.inr (Or.inl ⟨rfl, rfl, by decide, ?_⟩))
      refine r_store (i := 11) (u := 6) (w := 2) (L1 := [some ((2, 0)), some (vi p0), some (vi p1), some (vi p2), some (vi p3), some ((2, 81)), some ((2, a6))]) rfl rfl rfl rfl ?_
      refine r_const (i := 12) (u := 1) (z := 1) rfl rfl ?_
      exact r_retI (i := 13) rfl ⟨1, rfl, by omega, by omega, (by exact wRM_le rm27 (by omega)), (by exact Or.inr ⟨rfl, xphc5⟩), e28, e29, hI26, hF30⟩
/-- ProxyForgeLaw.answer -/
theorem sp173 {G : xk} {S : yS} {d : Nat} (hI : yI S) {kR : Int} {p0 : Int} (h_p0 : -2147483648 ≤ p0 ∧ p0 ≤ 2147483647) {p1 : Int} (h_p1 : Rl p1) (p_0 : wRM (kR + 1) S) (p_1 : 0 ≤ kR) (e_N23 : N23 S) (e_CR : CR S) (hd : 7 ≤ d) : yT xPr G LY xC173 0 [some ((2, 0)), some (vi p0), some (vl p1), none] [] S d (fun r S' => ∃ z : Int, r = (1, vi z) ∧ 0 ≤ z ∧ z ≤ 2 ∧ wRM kR S' ∧ N23 S' ∧ CR S' ∧ yI S' ∧ yFr [(26, 4), (26, 5)] [] S S') := by
  refine yT_pad 1 ?_
  show yT xPr G LY xC173 0 [some ((2, 0)), some (vi p0), some (vl p1), none, none] [] S d _
  obtain ⟨d, rfl⟩ : ∃ q, d = q + 1 := ⟨d - 1, by omega⟩
  have hF : yFr [(26, 4), (26, 5)] [] S S := yFr.refl S
  have e_RM := p_0
  refine r_load (i := 0) (u := 0) (w := 2) rfl rfl rfl ?_
  refine r_load (i := 1) (u := 1) (w := 0) rfl rfl rfl ?_
  refine r_load (i := 2) (u := 2) (w := 1) rfl rfl rfl ?_
  refine r_call (i := 3) (u := 786432) (v := 1) (w := 5) (b := 0) (na := 1027) (C2 := xC1) (as := [(2, 0), vi p0, vl p1]) (s := []) rfl rfl rfl rfl rfl rfl rfl (sp1 (k := p0) (v := p1) hI ⟨by omega, by omega⟩ ⟨by omega, by omega⟩   (by omega)) (fun r1 S2 hq3 => ?_)
  rcases hq3 with hq4 | ⟨a6, c9, rfl, hc5, rfl⟩
  · obtain ⟨rfl, hI7, hF8, hR9⟩ := hq4
    have hF10 := hF.trans hF8 rfl rfl
    have e11 := N23x.fr e_N23 hF8 hR9 rfl rfl rfl
    have e12 := CRx.fr e_CR hF8 rfl rfl
    have e13 := wRM_rm e_RM hR9
    refine Or.inl ⟨rfl, ?_⟩
    refine r_goto (i := 4) (v := 8) rfl ?_
    refine r_const (i := 8) (u := 0) (z := 0) rfl rfl ?_
    exact r_retI (i := 9) rfl ⟨0, rfl, by omega, by omega, (by exact wRM_le e13 (by omega)), e11, e12, hI7, hF10⟩
  · obtain ⟨hI14, rm15⟩ := wRM_cost e_RM hI (by omega)
    have e16 : N23 (ycost S 1 6) := e_N23
    have e17 : CR (ycost S 1 6) := e_CR
    have hF18 : yFr [(26, 4), (26, 5)] [] S (ycost S 1 6) := hF
    obtain rfl := hc5
    · refine Or.inr (Or.inr (Or.inl ⟨rfl, rfl, by decide, ?_⟩))
      refine r_store (i := 5) (u := 4) (w := 2) (L1 := [some ((2, 0)), some (vi p0), some (vl p1), none, some ((2, a6))]) rfl rfl rfl rfl ?_
      refine r_const (i := 6) (u := 1) (z := 1) rfl rfl ?_
      exact r_retI (i := 7) rfl ⟨1, rfl, by omega, by omega, (by exact wRM_le rm15 (by omega)), e16, e17, hI14, hF18⟩
/-- ProxyForgeLaw.call -/
theorem sp174 {G : xk} {S : yS} {d : Nat} (hI : yI S) {kR : Int} {p0 : Int} (h_p0 : -2147483648 ≤ p0 ∧ p0 ≤ 2147483647) {p1 : Int} (h_p1 : Rl p1) {p2 : Int} (h_p2 : Rl p2) {p3 : Int} (h_p3 : Rl p3) {p4 : Int} (h_p4 : Rl p4) (p_0 : wRM (kR + 1) S) (p_1 : 0 ≤ kR) (e_N23 : N23 S) (e_CR : CR S) (hd : 7 ≤ d) : yT xPr G LY xC174 0 [some ((2, 0)), some (vi p0), some (vl p1), none, some (vl p2), none, some (vl p3), none, some (vl p4), none, some ((2, 81))] [] S d (fun r S' => ∃ z : Int, r = (1, vi z) ∧ 0 ≤ z ∧ z ≤ 2 ∧ wRM kR S' ∧ N23 S' ∧ CR S' ∧ yI S' ∧ yFr [(26, 2), (26, 3), (29, 5)] [27, 28, 30, 81] S S') := by
  refine yT_pad 1 ?_
  show yT xPr G LY xC174 0 [some ((2, 0)), some (vi p0), some (vl p1), none, some (vl p2), none, some (vl p3), none, some (vl p4), none, some ((2, 81)), none] [] S d _
  obtain ⟨d, rfl⟩ : ∃ q, d = q + 1 := ⟨d - 1, by omega⟩
  have hF : yFr [(26, 2), (26, 3), (29, 5)] [27, 28, 30, 81] S S := yFr.refl S
  have e_RM := p_0
  refine r_load (i := 0) (u := 10) (w := 2) rfl rfl rfl ?_
  refine r_const (i := 1) (u := 0) (z := 0) rfl rfl ?_
  refine r_load (i := 2) (u := 0) (w := 2) rfl rfl rfl ?_
  refine r_load (i := 3) (u := 1) (w := 0) rfl rfl rfl ?_
  refine r_load (i := 4) (u := 2) (w := 1) rfl rfl rfl ?_
  refine r_load (i := 5) (u := 4) (w := 1) rfl rfl rfl ?_
  refine r_load (i := 6) (u := 6) (w := 1) rfl rfl rfl ?_
  refine r_load (i := 7) (u := 8) (w := 1) rfl rfl rfl ?_
  refine r_call (i := 8) (u := 786432) (v := 5) (w := 12) (b := 0) (na := 2566) (C2 := xC5) (as := [(2, 0), vi p0, vl p1, vl p2, vl p3, vl p4]) (s := [vi 0, (2, 81)]) rfl rfl rfl rfl rfl rfl rfl (sp5 (k := p0) (a := p1) (b := p2) (c := p3) (e := p4) hI ⟨by omega, by omega⟩ ⟨by omega, by omega⟩ ⟨by omega, by omega⟩ ⟨by omega, by omega⟩ ⟨by omega, by omega⟩   (by omega)) (fun r1 S2 hq3 => ?_)
  rcases hq3 with hq4 | ⟨a6, c9, rfl, hc5, rfl⟩
  · obtain ⟨z7, rfl, h8, h9, hI10, hF11, hR12⟩ := hq4
    have hF13 := hF.trans hF11 rfl rfl
    have e14 := N23x.fr e_N23 hF11 hR12 rfl rfl rfl
    have e15 := CRx.fr e_CR hF11 rfl rfl
    have e16 := wRM_rm e_RM hR12
    refine Or.inr (Or.inl ⟨rfl, ?_⟩)
    refine r_i2l (i := 9) rfl ⟨by omega, by omega⟩ ?_
    refine r_lastore (i := 10) rfl ly81 (by decide) (by omega) (by omega) ⟨by omega, by omega⟩ ?_
    have hI18 := hI10.seta0 (b := 81) (j := (0 : Int).toNat) (z := z7) rfl rfl
    have hF20 := hF13.seta (b := 81) (j := (0 : Int).toNat) (z := z7) rfl
    have e22 := N23x.seta e14 (b := 81) (j := (0 : Int).toNat) (z := z7) rfl
    have e23 := CRx.seta e15 (b := 81) (j := (0 : Int).toNat) (z := z7) rfl
    have e24 := wRM_a e16 (b := 81) (j := (0 : Int).toNat) (z := z7)
    refine yT_gen (fun S17 hS19 => ?_)
    rw [hS19] at hI18 hF20  e22 e23 e24
    refine r_goto (i := 11) (v := 15) rfl ?_
    refine r_const (i := 15) (u := 0) (z := 0) rfl rfl ?_
    exact r_retI (i := 16) rfl ⟨0, rfl, by omega, by omega, (by exact wRM_le e24 (by omega)), e22, e23, hI18, hF20⟩
  · obtain ⟨hI25, rm26⟩ := wRM_cost e_RM hI (by omega)
    have e27 : N23 (ycost S 1 6) := e_N23
    have e28 : CR (ycost S 1 6) := e_CR
    have hF29 : yFr [(26, 2), (26, 3), (29, 5)] [27, 28, 30, 81] S (ycost S 1 6) := hF
    obtain rfl := hc5
    · refine Or.inr (Or.inr (Or.inl ⟨rfl, rfl, by decide, ?_⟩))
      refine r_store (i := 12) (u := 11) (w := 2) (L1 := [some ((2, 0)), some (vi p0), some (vl p1), none, some (vl p2), none, some (vl p3), none, some (vl p4), none, some ((2, 81)), some ((2, a6))]) rfl rfl rfl rfl ?_
      refine r_const (i := 13) (u := 1) (z := 1) rfl rfl ?_
      exact r_retI (i := 14) rfl ⟨1, rfl, by omega, by omega, (by exact wRM_le rm26 (by omega)), e27, e28, hI25, hF29⟩
set_option maxHeartbeats 4000000 in
theorem lp281_13 {G : xk} {d : Nat} {S0 : yS} {nS : Nat} {sc : Nat → Int} (hG : ySc G nS sc) (hn5 : nS ≤ 5120) (hd : 27 ≤ d + 1) : ∀ (n : Nat), ∀ (S : yS) (hI : yI S) (e_N23 : N23 S) (e_CR : CR S) (e_RT : RT S) (e_RMe : RMe S) (e_RS : RS S) (e_RI : RI S) (e_RK : RK S) (i : Int) (h_i : 0 ≤ i ∧ i ≤ 5120) (q_0 : wRM (5200 - i) S) (hn : 5120 - i < (n : Nat)), yT xPr G LY xC281 13 [some ((6, 0)), some ((2, 0)), some ((2, 43)), some ((2, 81)), some (vi i), none, none] [] S (d + 1) (fun r S' => ∃ z : Int, r = (1, vi z) ∧ 1 ≤ z ∧ z ≤ 1) := by
  intro n
  induction n with
  | zero => intro S hI e_N23 e_CR e_RT e_RMe e_RS e_RI e_RK i h_i q_0 hn; exact absurd hn (by omega)
  | succ n ih =>
    intro S hI e_N23 e_CR e_RT e_RMe e_RS e_RI e_RK i h_i q_0 hn
    refine r_load (i := 13) (u := 4) (w := 0) rfl rfl rfl ?_
    refine r_load (i := 14) (u := 0) (w := 2) rfl rfl rfl ?_
    refine r_scN (i := 15) hG rfl ?_
    refine r_const (i := 16) (u := 10) (z := 10) rfl rfl ?_
    refine r_isub (i := 17) rfl ?_
    refine c_gt (i := 18) (v := 656) rfl ⟨by omega, by omega⟩ ⟨by omega, by omega⟩ (fun h1 => ?_) (fun h2 => ?_)
    · refine r_const (i := 656) (u := 1) (z := 1) rfl rfl ?_
      exact r_retZ (i := 657) rfl (by omega) (by omega) ⟨1, rfl, by omega, by omega⟩
    · refine r_load (i := 19) (u := 0) (w := 2) rfl rfl rfl ?_
      refine r_load (i := 20) (u := 4) (w := 0) rfl rfl rfl ?_
      refine r_scA (i := 21) hG rfl (by omega) (by omega) fun h3 => ?_
      have h3 : Rg (sc i.toNat) := h3
      refine r_const (i := 22) (u := 31) (z := 31) rfl rfl ?_
      refine r_iand (i := 23) rfl ?_
      have h4 := @yand_c (sc i.toNat) 31 (by decide) (by decide)
      rcases (show (yand (sc i.toNat) 31) = 0 ∨ (yand (sc i.toNat) 31) = 1 ∨ (yand (sc i.toNat) 31) = 2 ∨ (yand (sc i.toNat) 31) = 3 ∨ (yand (sc i.toNat) 31) = 4 ∨ (yand (sc i.toNat) 31) = 5 ∨ (yand (sc i.toNat) 31) = 6 ∨ (yand (sc i.toNat) 31) = 7 ∨ (yand (sc i.toNat) 31) = 8 ∨ (yand (sc i.toNat) 31) = 9 ∨ (yand (sc i.toNat) 31) = 10 ∨ (yand (sc i.toNat) 31) = 11 ∨ (yand (sc i.toNat) 31) = 12 ∨ (yand (sc i.toNat) 31) = 13 ∨ (yand (sc i.toNat) 31) = 14 ∨ (yand (sc i.toNat) 31) = 15 ∨ (yand (sc i.toNat) 31) = 16 ∨ (yand (sc i.toNat) 31) = 17 ∨ (yand (sc i.toNat) 31) = 18 ∨ (yand (sc i.toNat) 31) = 19 ∨ (yand (sc i.toNat) 31) = 20 ∨ (yand (sc i.toNat) 31) = 21 ∨ (yand (sc i.toNat) 31) = 22 ∨ (yand (sc i.toNat) 31) = 23 ∨ (yand (sc i.toNat) 31) = 24 ∨ (yand (sc i.toNat) 31) = 25 ∨ (yand (sc i.toNat) 31) = 26 ∨ (yand (sc i.toNat) 31) = 27 ∨ (yand (sc i.toNat) 31) = 28 ∨ (yand (sc i.toNat) 31) = 29 ∨ (yand (sc i.toNat) 31) = 30 ∨ (yand (sc i.toNat) 31) = 31 by omega) with h5 | h6 | h7 | h8 | h9 | h10 | h11 | h12 | h13 | h14 | h15 | h16 | h17 | h18 | h19 | h20 | h21 | h22 | h23 | h24 | h25 | h26 | h27 | h28 | h29 | h30 | h31 | h32 | h33 | h34 | h35 | h36
      · refine r_swK (i := 24) (u := 1) (v := 654) (k := 0) (t := 25) rfl rfl h5 (by decide) (by decide) rfl ?_
        refine r_load (i := 25) (u := 1) (w := 2) rfl rfl rfl ?_
        refine r_load (i := 26) (u := 0) (w := 2) rfl rfl rfl ?_
        refine r_load (i := 27) (u := 4) (w := 0) rfl rfl rfl ?_
        refine r_const (i := 28) (u := 1) (z := 1) rfl rfl ?_
        refine r_iadd (i := 29) rfl ?_
        refine r_scA (i := 30) hG rfl (by omega) (by omega) fun h37 => ?_
        have h37 : Rg (sc (i + 1).toNat) := h37
        refine z_eq (i := 31) (v := 34) rfl ⟨by omega, by omega⟩ (fun h38 => ?_) (fun h39 => ?_)
        · refine r_const (i := 34) (u := 0) (z := 0) rfl rfl ?_
          refine r_load (i := 35) (u := 0) (w := 2) rfl rfl rfl ?_
          refine r_load (i := 36) (u := 4) (w := 0) rfl rfl rfl ?_
          refine r_const (i := 37) (u := 2) (z := 2) rfl rfl ?_
          refine r_iadd (i := 38) rfl ?_
          refine r_scA (i := 39) hG rfl (by omega) (by omega) fun h40 => ?_
          have h40 : Rg (sc (i + 2).toNat) := h40
          refine r_load (i := 40) (u := 0) (w := 2) rfl rfl rfl ?_
          refine r_load (i := 41) (u := 4) (w := 0) rfl rfl rfl ?_
          refine r_const (i := 42) (u := 3) (z := 3) rfl rfl ?_
          refine r_iadd (i := 43) rfl ?_
          refine r_scA (i := 44) hG rfl (by omega) (by omega) fun h41 => ?_
          have h41 : Rg (sc (i + 3).toNat) := h41
          refine r_load (i := 45) (u := 0) (w := 2) rfl rfl rfl ?_
          refine r_load (i := 46) (u := 4) (w := 0) rfl rfl rfl ?_
          refine r_const (i := 47) (u := 4) (z := 4) rfl rfl ?_
          refine r_iadd (i := 48) rfl ?_
          refine r_scA (i := 49) hG rfl (by omega) (by omega) fun h42 => ?_
          have h42 : Rg (sc (i + 4).toNat) := h42
          refine r_load (i := 50) (u := 3) (w := 2) rfl rfl rfl ?_
          refine r_call (i := 51) (u := 65535) (v := 179) (w := 0) (b := 2) (na := 1798) (C2 := xC179) (as := [(2, 0), vi 0, vi (sc (i + 2).toNat), vi (sc (i + 3).toNat), vi (sc (i + 4).toNat), (2, 81)]) (s := []) rfl rfl rfl rfl rfl rfl rfl (sp179 (p0 := 0) (p1 := sc (i + 2).toNat) (p2 := sc (i + 3).toNat) (p3 := sc (i + 4).toNat) (kR := 5199 - i) hI ⟨by omega, by omega⟩ ⟨by omega, by omega⟩ ⟨by omega, by omega⟩ ⟨by omega, by omega⟩ (by exact wRM_le q_0 (by omega)) (by omega) e_N23 e_CR (by omega)) (fun r43 S44 hq45 => ?_)
          obtain ⟨z46, rfl, h47, h48, rm49, ht50, c6h51, e52, e53, hI54, hF55⟩ := hq45
          have e56 := RMex.fr e_RMe hF55 rfl rfl
          have e57 := RKx.fr e_RK hF55 rfl rfl
          refine Or.inr (Or.inl ⟨rfl, ?_⟩)
          have rs9 := RS_type e_RS (hI.f tf1_7).1 (by omega) ht50 c6h51 hF55 rfl
          have ri9 := RI_type e_RI e_RS.1 (hI.f tf1_7).1 ht50 hF55 rfl
          refine r_store (i := 52) (u := 5) (w := 0) (L1 := [some ((6, 0)), some ((2, 0)), some ((2, 43)), some ((2, 81)), some (vi i), some (vi z46), none]) rfl rfl rfl rfl ?_
          refine r_load (i := 53) (u := 2) (w := 2) rfl rfl rfl ?_
          refine r_load (i := 54) (u := 0) (w := 2) rfl rfl rfl ?_
          refine r_load (i := 55) (u := 4) (w := 0) rfl rfl rfl ?_
          refine r_const (i := 56) (u := 1) (z := 1) rfl rfl ?_
          refine r_iadd (i := 57) rfl ?_
          refine r_scA (i := 58) hG rfl (by omega) (by omega) fun h58 => ?_
          have h58 : Rg (sc (i + 1).toNat) := h58
          refine z_eq (i := 59) (v := 62) rfl ⟨by omega, by omega⟩ (fun h59 => ?_) (fun h60 => absurd h60 (by omega))
          refine r_const (i := 62) (u := 0) (z := 0) rfl rfl ?_
          refine r_load (i := 63) (u := 0) (w := 2) rfl rfl rfl ?_
          refine r_load (i := 64) (u := 4) (w := 0) rfl rfl rfl ?_
          refine r_const (i := 65) (u := 2) (z := 2) rfl rfl ?_
          refine r_iadd (i := 66) rfl ?_
          refine r_scA (i := 67) hG rfl (by omega) (by omega) fun h61 => ?_
          have h61 : Rg (sc (i + 2).toNat) := h61
          refine r_load (i := 68) (u := 0) (w := 2) rfl rfl rfl ?_
          refine r_load (i := 69) (u := 4) (w := 0) rfl rfl rfl ?_
          refine r_const (i := 70) (u := 3) (z := 3) rfl rfl ?_
          refine r_iadd (i := 71) rfl ?_
          refine r_scA (i := 72) hG rfl (by omega) (by omega) fun h62 => ?_
          have h62 : Rg (sc (i + 3).toNat) := h62
          refine r_load (i := 73) (u := 0) (w := 2) rfl rfl rfl ?_
          refine r_load (i := 74) (u := 4) (w := 0) rfl rfl rfl ?_
          refine r_const (i := 75) (u := 4) (z := 4) rfl rfl ?_
          refine r_iadd (i := 76) rfl ?_
          refine r_scA (i := 77) hG rfl (by omega) (by omega) fun h63 => ?_
          have h63 : Rg (sc (i + 4).toNat) := h63
          refine r_call (i := 78) (u := 11) (v := 259) (w := 0) (b := 0) (na := 1541) (C2 := xC259) (as := [(2, 43), vi 0, vi (sc (i + 2).toNat), vi (sc (i + 3).toNat), vi (sc (i + 4).toNat)]) (s := []) rfl rfl rfl rfl rfl rfl rfl (sp259 (b := 0) (bits := sc (i + 2).toNat) (p := sc (i + 3).toNat) (up := sc (i + 4).toNat) hI54 ⟨by omega, by omega⟩ ⟨by omega, by omega⟩ ⟨by omega, by omega⟩ ⟨by omega, by omega⟩   (by omega)) (fun r64 S65 hq66 => ?_)
          obtain ⟨z67, rfl, h68, h69, mq70, hI71, hF72, hR73⟩ := hq66
          have e74 := RMex.fr e56 hF72 rfl rfl
          have e75 := N23x.fr e52 hF72 hR73 rfl rfl rfl
          have e76 := CRx.fr e53 hF72 rfl rfl
          have e77 := wRM_rm rm49 hR73
          have e78 := RSx.fr rs9 hF72 rfl rfl
          have e79 := RIx.fr ri9 hF72 rfl rfl
          refine Or.inr (Or.inl ⟨rfl, ?_⟩)
          have rt9 := (RT_type e_RT (by omega) (Int.le_trans (by decide) (hI.f tf1_7).1) ht50 hF55 rfl rfl mq70 hF72 rfl rfl).1
          have rk9 := (RT_type e_RT (by omega) (Int.le_trans (by decide) (hI.f tf1_7).1) ht50 hF55 rfl rfl mq70 hF72 rfl rfl).2.1
          have ro9 := (RT_type e_RT (by omega) (Int.le_trans (by decide) (hI.f tf1_7).1) ht50 hF55 rfl rfl mq70 hF72 rfl rfl).2.2
          have rk8 := RK_type (RKx.fr e_RK hF55 rfl rfl) mq70 hF72 rfl
          refine r_store (i := 79) (u := 6) (w := 0) (L1 := [some ((6, 0)), some ((2, 0)), some ((2, 43)), some ((2, 81)), some (vi i), some (vi z46), some (vi z67)]) rfl rfl rfl rfl ?_
          refine r_goto (i := 80) (v := 654) rfl ?_
          refine r_iinc (i := 654) (u := 10) (v := 4) (s := 10) (L1 := [some ((6, 0)), some ((2, 0)), some ((2, 43)), some ((2, 81)), some (vi (i + 10)), some (vi z46), some (vi z67)]) rfl rfl rfl rfl rfl ?_
          refine r_goto (i := 655) (v := 13) rfl ?_
          refine yT_drop (L1 := [some ((6, 0)), some ((2, 0)), some ((2, 43)), some ((2, 81)), some (vi (i + 10)), none, none]) rfl ?_
          exact ih S65 hI71 e75 e76 rt9 e74 e78 e79 rk8 (i + 10) ⟨by omega, by omega⟩ (by exact wRM_le e77 (by omega)) (by omega)
        · refine r_const (i := 32) (u := 1) (z := 1) rfl rfl ?_
          refine r_goto (i := 33) (v := 35) rfl ?_
          refine r_load (i := 35) (u := 0) (w := 2) rfl rfl rfl ?_
          refine r_load (i := 36) (u := 4) (w := 0) rfl rfl rfl ?_
          refine r_const (i := 37) (u := 2) (z := 2) rfl rfl ?_
          refine r_iadd (i := 38) rfl ?_
          refine r_scA (i := 39) hG rfl (by omega) (by omega) fun h80 => ?_
          have h80 : Rg (sc (i + 2).toNat) := h80
          refine r_load (i := 40) (u := 0) (w := 2) rfl rfl rfl ?_
          refine r_load (i := 41) (u := 4) (w := 0) rfl rfl rfl ?_
          refine r_const (i := 42) (u := 3) (z := 3) rfl rfl ?_
          refine r_iadd (i := 43) rfl ?_
          refine r_scA (i := 44) hG rfl (by omega) (by omega) fun h81 => ?_
          have h81 : Rg (sc (i + 3).toNat) := h81
          refine r_load (i := 45) (u := 0) (w := 2) rfl rfl rfl ?_
          refine r_load (i := 46) (u := 4) (w := 0) rfl rfl rfl ?_
          refine r_const (i := 47) (u := 4) (z := 4) rfl rfl ?_
          refine r_iadd (i := 48) rfl ?_
          refine r_scA (i := 49) hG rfl (by omega) (by omega) fun h82 => ?_
          have h82 : Rg (sc (i + 4).toNat) := h82
          refine r_load (i := 50) (u := 3) (w := 2) rfl rfl rfl ?_
          refine r_call (i := 51) (u := 65535) (v := 179) (w := 0) (b := 2) (na := 1798) (C2 := xC179) (as := [(2, 0), vi 1, vi (sc (i + 2).toNat), vi (sc (i + 3).toNat), vi (sc (i + 4).toNat), (2, 81)]) (s := []) rfl rfl rfl rfl rfl rfl rfl (sp179 (p0 := 1) (p1 := sc (i + 2).toNat) (p2 := sc (i + 3).toNat) (p3 := sc (i + 4).toNat) (kR := 5199 - i) hI ⟨by omega, by omega⟩ ⟨by omega, by omega⟩ ⟨by omega, by omega⟩ ⟨by omega, by omega⟩ (by exact wRM_le q_0 (by omega)) (by omega) e_N23 e_CR (by omega)) (fun r83 S84 hq85 => ?_)
          obtain ⟨z86, rfl, h87, h88, rm89, ht90, c6h91, e92, e93, hI94, hF95⟩ := hq85
          have e96 := RMex.fr e_RMe hF95 rfl rfl
          have e97 := RKx.fr e_RK hF95 rfl rfl
          refine Or.inr (Or.inl ⟨rfl, ?_⟩)
          have rs9 := RS_type e_RS (hI.f tf1_7).1 (by omega) ht90 c6h91 hF95 rfl
          have ri9 := RI_type e_RI e_RS.1 (hI.f tf1_7).1 ht90 hF95 rfl
          refine r_store (i := 52) (u := 5) (w := 0) (L1 := [some ((6, 0)), some ((2, 0)), some ((2, 43)), some ((2, 81)), some (vi i), some (vi z86), none]) rfl rfl rfl rfl ?_
          refine r_load (i := 53) (u := 2) (w := 2) rfl rfl rfl ?_
          refine r_load (i := 54) (u := 0) (w := 2) rfl rfl rfl ?_
          refine r_load (i := 55) (u := 4) (w := 0) rfl rfl rfl ?_
          refine r_const (i := 56) (u := 1) (z := 1) rfl rfl ?_
          refine r_iadd (i := 57) rfl ?_
          refine r_scA (i := 58) hG rfl (by omega) (by omega) fun h98 => ?_
          have h98 : Rg (sc (i + 1).toNat) := h98
          refine z_eq (i := 59) (v := 62) rfl ⟨by omega, by omega⟩ (fun h99 => absurd h99 (by omega)) (fun h100 => ?_)
          refine r_const (i := 60) (u := 1) (z := 1) rfl rfl ?_
          refine r_goto (i := 61) (v := 63) rfl ?_
          refine r_load (i := 63) (u := 0) (w := 2) rfl rfl rfl ?_
          refine r_load (i := 64) (u := 4) (w := 0) rfl rfl rfl ?_
          refine r_const (i := 65) (u := 2) (z := 2) rfl rfl ?_
          refine r_iadd (i := 66) rfl ?_
          refine r_scA (i := 67) hG rfl (by omega) (by omega) fun h101 => ?_
          have h101 : Rg (sc (i + 2).toNat) := h101
          refine r_load (i := 68) (u := 0) (w := 2) rfl rfl rfl ?_
          refine r_load (i := 69) (u := 4) (w := 0) rfl rfl rfl ?_
          refine r_const (i := 70) (u := 3) (z := 3) rfl rfl ?_
          refine r_iadd (i := 71) rfl ?_
          refine r_scA (i := 72) hG rfl (by omega) (by omega) fun h102 => ?_
          have h102 : Rg (sc (i + 3).toNat) := h102
          refine r_load (i := 73) (u := 0) (w := 2) rfl rfl rfl ?_
          refine r_load (i := 74) (u := 4) (w := 0) rfl rfl rfl ?_
          refine r_const (i := 75) (u := 4) (z := 4) rfl rfl ?_
          refine r_iadd (i := 76) rfl ?_
          refine r_scA (i := 77) hG rfl (by omega) (by omega) fun h103 => ?_
          have h103 : Rg (sc (i + 4).toNat) := h103
          refine r_call (i := 78) (u := 11) (v := 259) (w := 0) (b := 0) (na := 1541) (C2 := xC259) (as := [(2, 43), vi 1, vi (sc (i + 2).toNat), vi (sc (i + 3).toNat), vi (sc (i + 4).toNat)]) (s := []) rfl rfl rfl rfl rfl rfl rfl (sp259 (b := 1) (bits := sc (i + 2).toNat) (p := sc (i + 3).toNat) (up := sc (i + 4).toNat) hI94 ⟨by omega, by omega⟩ ⟨by omega, by omega⟩ ⟨by omega, by omega⟩ ⟨by omega, by omega⟩   (by omega)) (fun r104 S105 hq106 => ?_)
          obtain ⟨z107, rfl, h108, h109, mq110, hI111, hF112, hR113⟩ := hq106
          have e114 := RMex.fr e96 hF112 rfl rfl
          have e115 := N23x.fr e92 hF112 hR113 rfl rfl rfl
          have e116 := CRx.fr e93 hF112 rfl rfl
          have e117 := wRM_rm rm89 hR113
          have e118 := RSx.fr rs9 hF112 rfl rfl
          have e119 := RIx.fr ri9 hF112 rfl rfl
          refine Or.inr (Or.inl ⟨rfl, ?_⟩)
          have rt9 := (RT_type e_RT (by omega) (Int.le_trans (by decide) (hI.f tf1_7).1) ht90 hF95 rfl rfl mq110 hF112 rfl rfl).1
          have rk9 := (RT_type e_RT (by omega) (Int.le_trans (by decide) (hI.f tf1_7).1) ht90 hF95 rfl rfl mq110 hF112 rfl rfl).2.1
          have ro9 := (RT_type e_RT (by omega) (Int.le_trans (by decide) (hI.f tf1_7).1) ht90 hF95 rfl rfl mq110 hF112 rfl rfl).2.2
          have rk8 := RK_type (RKx.fr e_RK hF95 rfl rfl) mq110 hF112 rfl
          refine r_store (i := 79) (u := 6) (w := 0) (L1 := [some ((6, 0)), some ((2, 0)), some ((2, 43)), some ((2, 81)), some (vi i), some (vi z86), some (vi z107)]) rfl rfl rfl rfl ?_
          refine r_goto (i := 80) (v := 654) rfl ?_
          refine r_iinc (i := 654) (u := 10) (v := 4) (s := 10) (L1 := [some ((6, 0)), some ((2, 0)), some ((2, 43)), some ((2, 81)), some (vi (i + 10)), some (vi z86), some (vi z107)]) rfl rfl rfl rfl rfl ?_
          refine r_goto (i := 655) (v := 13) rfl ?_
          refine yT_drop (L1 := [some ((6, 0)), some ((2, 0)), some ((2, 43)), some ((2, 81)), some (vi (i + 10)), none, none]) rfl ?_
          exact ih S105 hI111 e115 e116 rt9 e114 e118 e119 rk8 (i + 10) ⟨by omega, by omega⟩ (by exact wRM_le e117 (by omega)) (by omega)
      · refine r_swK (i := 24) (u := 1) (v := 654) (k := 1) (t := 81) rfl rfl h6 (by decide) (by decide) rfl ?_
        refine r_load (i := 81) (u := 1) (w := 2) rfl rfl rfl ?_
        refine r_load (i := 82) (u := 0) (w := 2) rfl rfl rfl ?_
        refine r_load (i := 83) (u := 4) (w := 0) rfl rfl rfl ?_
        refine r_const (i := 84) (u := 1) (z := 1) rfl rfl ?_
        refine r_iadd (i := 85) rfl ?_
        refine r_scA (i := 86) hG rfl (by omega) (by omega) fun h120 => ?_
        have h120 : Rg (sc (i + 1).toNat) := h120
        refine r_load (i := 87) (u := 0) (w := 2) rfl rfl rfl ?_
        refine r_load (i := 88) (u := 4) (w := 0) rfl rfl rfl ?_
        refine r_const (i := 89) (u := 2) (z := 2) rfl rfl ?_
        refine r_iadd (i := 90) rfl ?_
        refine r_scA (i := 91) hG rfl (by omega) (by omega) fun h121 => ?_
        have h121 : Rg (sc (i + 2).toNat) := h121
        refine r_call (i := 92) (u := 65535) (v := 176) (w := 0) (b := 2) (na := 1027) (C2 := xC176) (as := [(2, 0), vi (sc (i + 1).toNat), vi (sc (i + 2).toNat)]) (s := []) rfl rfl rfl rfl rfl rfl rfl (sp176 (p0 := sc (i + 1).toNat) (p1 := sc (i + 2).toNat) (kR := 5199 - i) hI ⟨by omega, by omega⟩ ⟨by omega, by omega⟩ (by exact wRM_le q_0 (by omega)) (by omega) e_N23 e_CR (by omega)) (fun r122 S123 hq124 => ?_)
        obtain ⟨z125, rfl, h126, h127, rm128, him129, e130, e131, hI132, hF133⟩ := hq124
        have e134 := RTx.fr e_RT hF133 rfl rfl
        have e135 := RMex.fr e_RMe hF133 rfl rfl
        have e136 := RKx.fr e_RK hF133 rfl rfl
        refine Or.inr (Or.inl ⟨rfl, ?_⟩)
        have ri9 := RI_impl e_RI e_RS.2.2.2 (fun j => hI.a ta7 j) him129 hF133 rfl rfl
        refine r_store (i := 93) (u := 5) (w := 0) (L1 := [some ((6, 0)), some ((2, 0)), some ((2, 43)), some ((2, 81)), some (vi i), some (vi z125), none]) rfl rfl rfl rfl ?_
        refine r_load (i := 94) (u := 2) (w := 2) rfl rfl rfl ?_
        refine r_load (i := 95) (u := 0) (w := 2) rfl rfl rfl ?_
        refine r_load (i := 96) (u := 4) (w := 0) rfl rfl rfl ?_
        refine r_const (i := 97) (u := 1) (z := 1) rfl rfl ?_
        refine r_iadd (i := 98) rfl ?_
        refine r_scA (i := 99) hG rfl (by omega) (by omega) fun h137 => ?_
        have h137 : Rg (sc (i + 1).toNat) := h137
        refine r_load (i := 100) (u := 0) (w := 2) rfl rfl rfl ?_
        refine r_load (i := 101) (u := 4) (w := 0) rfl rfl rfl ?_
        refine r_const (i := 102) (u := 2) (z := 2) rfl rfl ?_
        refine r_iadd (i := 103) rfl ?_
        refine r_scA (i := 104) hG rfl (by omega) (by omega) fun h138 => ?_
        have h138 : Rg (sc (i + 2).toNat) := h138
        refine r_call (i := 105) (u := 11) (v := 206) (w := 0) (b := 0) (na := 1283) (C2 := xC206) (as := [(2, 43), vi (sc (i + 1).toNat), vi (sc (i + 2).toNat)]) (s := []) rfl rfl rfl rfl rfl rfl rfl (sp206 (t := sc (i + 1).toNat) (f := sc (i + 2).toNat) hI132 ⟨by omega, by omega⟩ ⟨by omega, by omega⟩   (by omega)) (fun r139 S140 hq141 => ?_)
        obtain ⟨rfl, mi142, hI143, hF144, hR145⟩ := hq141
        have e146 := RTx.fr e134 hF144 rfl rfl
        have e147 := RMex.fr e135 hF144 rfl rfl
        have e148 := RKx.fr e136 hF144 rfl rfl
        have e149 := N23x.fr e130 hF144 hR145 rfl rfl rfl
        have e150 := CRx.fr e131 hF144 rfl rfl
        have e151 := wRM_rm rm128 hR145
        have e152 := RIx.fr ri9 hF144 rfl rfl
        refine Or.inl ⟨rfl, ?_⟩
        have rs9 := (RS_impl e_RT e_RS hI.m3 (fun j => hI.a ta7 j) (hI.f tf1_7).2 him129 hF133 rfl rfl mi142 hF144 rfl rfl).1
        have rk9 := (RS_impl e_RT e_RS hI.m3 (fun j => hI.a ta7 j) (hI.f tf1_7).2 him129 hF133 rfl rfl mi142 hF144 rfl rfl).2
        refine r_goto (i := 106) (v := 654) rfl ?_
        refine r_iinc (i := 654) (u := 10) (v := 4) (s := 10) (L1 := [some ((6, 0)), some ((2, 0)), some ((2, 43)), some ((2, 81)), some (vi (i + 10)), some (vi z125), none]) rfl rfl rfl rfl rfl ?_
        refine r_goto (i := 655) (v := 13) rfl ?_
        refine yT_drop (L1 := [some ((6, 0)), some ((2, 0)), some ((2, 43)), some ((2, 81)), some (vi (i + 10)), none, none]) rfl ?_
        exact ih S140 hI143 e149 e150 e146 e147 rs9 e152 e148 (i + 10) ⟨by omega, by omega⟩ (by exact wRM_le e151 (by omega)) (by omega)
      · refine r_swK (i := 24) (u := 1) (v := 654) (k := 2) (t := 107) rfl rfl h7 (by decide) (by decide) rfl ?_
        refine r_load (i := 107) (u := 1) (w := 2) rfl rfl rfl ?_
        refine r_load (i := 108) (u := 0) (w := 2) rfl rfl rfl ?_
        refine r_load (i := 109) (u := 4) (w := 0) rfl rfl rfl ?_
        refine r_const (i := 110) (u := 1) (z := 1) rfl rfl ?_
        refine r_iadd (i := 111) rfl ?_
        refine r_scA (i := 112) hG rfl (by omega) (by omega) fun h153 => ?_
        have h153 : Rg (sc (i + 1).toNat) := h153
        refine r_load (i := 113) (u := 0) (w := 2) rfl rfl rfl ?_
        refine r_load (i := 114) (u := 4) (w := 0) rfl rfl rfl ?_
        refine r_const (i := 115) (u := 2) (z := 2) rfl rfl ?_
        refine r_iadd (i := 116) rfl ?_
        refine r_scA (i := 117) hG rfl (by omega) (by omega) fun h154 => ?_
        have h154 : Rg (sc (i + 2).toNat) := h154
        refine r_load (i := 118) (u := 0) (w := 2) rfl rfl rfl ?_
        refine r_load (i := 119) (u := 4) (w := 0) rfl rfl rfl ?_
        refine r_const (i := 120) (u := 3) (z := 3) rfl rfl ?_
        refine r_iadd (i := 121) rfl ?_
        refine r_scA (i := 122) hG rfl (by omega) (by omega) fun h155 => ?_
        have h155 : Rg (sc (i + 3).toNat) := h155
        refine r_load (i := 123) (u := 0) (w := 2) rfl rfl rfl ?_
        refine r_load (i := 124) (u := 4) (w := 0) rfl rfl rfl ?_
        refine r_const (i := 125) (u := 4) (z := 4) rfl rfl ?_
        refine r_iadd (i := 126) rfl ?_
        refine r_scA (i := 127) hG rfl (by omega) (by omega) fun h156 => ?_
        have h156 : Rg (sc (i + 4).toNat) := h156
        refine r_load (i := 128) (u := 0) (w := 2) rfl rfl rfl ?_
        refine r_load (i := 129) (u := 4) (w := 0) rfl rfl rfl ?_
        refine r_const (i := 130) (u := 5) (z := 5) rfl rfl ?_
        refine r_iadd (i := 131) rfl ?_
        refine r_scA (i := 132) hG rfl (by omega) (by omega) fun h157 => ?_
        have h157 : Rg (sc (i + 5).toNat) := h157
        refine r_load (i := 133) (u := 3) (w := 2) rfl rfl rfl ?_
        refine r_call (i := 134) (u := 65535) (v := 177) (w := 0) (b := 2) (na := 2055) (C2 := xC177) (as := [(2, 0), vi (sc (i + 1).toNat), vi (sc (i + 2).toNat), vi (sc (i + 3).toNat), vi (sc (i + 4).toNat), vi (sc (i + 5).toNat), (2, 81)]) (s := []) rfl rfl rfl rfl rfl rfl rfl (sp177 (p0 := sc (i + 1).toNat) (p1 := sc (i + 2).toNat) (p2 := sc (i + 3).toNat) (p3 := sc (i + 4).toNat) (p4 := sc (i + 5).toNat) (kR := 5199 - i) hI ⟨by omega, by omega⟩ ⟨by omega, by omega⟩ ⟨by omega, by omega⟩ ⟨by omega, by omega⟩ ⟨by omega, by omega⟩ (by exact wRM_le q_0 (by omega)) (by omega) e_N23 e_CR (by omega)) (fun r158 S159 hq160 => ?_)
        obtain ⟨z161, rfl, h162, h163, rm164, hme165, e166, e167, hI168, hF169⟩ := hq160
        have e170 := RTx.fr e_RT hF169 rfl rfl
        have e171 := RSx.fr e_RS hF169 rfl rfl
        have e172 := RIx.fr e_RI hF169 rfl rfl
        have e173 := RKx.fr e_RK hF169 rfl rfl
        refine Or.inr (Or.inl ⟨rfl, ?_⟩)
        refine r_store (i := 135) (u := 5) (w := 0) (L1 := [some ((6, 0)), some ((2, 0)), some ((2, 43)), some ((2, 81)), some (vi i), some (vi z161), none]) rfl rfl rfl rfl ?_
        refine r_load (i := 136) (u := 2) (w := 2) rfl rfl rfl ?_
        refine r_load (i := 137) (u := 0) (w := 2) rfl rfl rfl ?_
        refine r_load (i := 138) (u := 4) (w := 0) rfl rfl rfl ?_
        refine r_const (i := 139) (u := 1) (z := 1) rfl rfl ?_
        refine r_iadd (i := 140) rfl ?_
        refine r_scA (i := 141) hG rfl (by omega) (by omega) fun h174 => ?_
        have h174 : Rg (sc (i + 1).toNat) := h174
        refine r_load (i := 142) (u := 0) (w := 2) rfl rfl rfl ?_
        refine r_load (i := 143) (u := 4) (w := 0) rfl rfl rfl ?_
        refine r_const (i := 144) (u := 2) (z := 2) rfl rfl ?_
        refine r_iadd (i := 145) rfl ?_
        refine r_scA (i := 146) hG rfl (by omega) (by omega) fun h175 => ?_
        have h175 : Rg (sc (i + 2).toNat) := h175
        refine r_load (i := 147) (u := 0) (w := 2) rfl rfl rfl ?_
        refine r_load (i := 148) (u := 4) (w := 0) rfl rfl rfl ?_
        refine r_const (i := 149) (u := 3) (z := 3) rfl rfl ?_
        refine r_iadd (i := 150) rfl ?_
        refine r_scA (i := 151) hG rfl (by omega) (by omega) fun h176 => ?_
        have h176 : Rg (sc (i + 3).toNat) := h176
        refine r_load (i := 152) (u := 0) (w := 2) rfl rfl rfl ?_
        refine r_load (i := 153) (u := 4) (w := 0) rfl rfl rfl ?_
        refine r_const (i := 154) (u := 4) (z := 4) rfl rfl ?_
        refine r_iadd (i := 155) rfl ?_
        refine r_scA (i := 156) hG rfl (by omega) (by omega) fun h177 => ?_
        have h177 : Rg (sc (i + 4).toNat) := h177
        refine r_load (i := 157) (u := 0) (w := 2) rfl rfl rfl ?_
        refine r_load (i := 158) (u := 4) (w := 0) rfl rfl rfl ?_
        refine r_const (i := 159) (u := 5) (z := 5) rfl rfl ?_
        refine r_iadd (i := 160) rfl ?_
        refine r_scA (i := 161) hG rfl (by omega) (by omega) fun h178 => ?_
        have h178 : Rg (sc (i + 5).toNat) := h178
        refine r_call (i := 162) (u := 11) (v := 220) (w := 0) (b := 0) (na := 1542) (C2 := xC220) (as := [(2, 43), vi (sc (i + 1).toNat), vi (sc (i + 2).toNat), vi (sc (i + 3).toNat), vi (sc (i + 4).toNat), vi (sc (i + 5).toNat)]) (s := []) rfl rfl rfl rfl rfl rfl rfl (sp220 (t := sc (i + 1).toNat) (w0 := sc (i + 2).toNat) (bits := sc (i + 3).toNat) (al := sc (i + 4).toNat) (back := sc (i + 5).toNat) hI168 ⟨by omega, by omega⟩ ⟨by omega, by omega⟩ ⟨by omega, by omega⟩ ⟨by omega, by omega⟩ ⟨by omega, by omega⟩  e167 (by omega)) (fun r179 S180 hq181 => ?_)
        obtain ⟨z182, rfl, h183, h184, mq185, e186, hI187, hF188, hR189⟩ := hq181
        have e190 := RTx.fr e170 hF188 rfl rfl
        have e191 := RSx.fr e171 hF188 rfl rfl
        have e192 := RIx.fr e172 hF188 rfl rfl
        have e193 := N23x.fr e166 hF188 hR189 rfl rfl rfl
        have e194 := wRM_rm rm164 hR189
        refine Or.inr (Or.inl ⟨rfl, ?_⟩)
        have rm9 := (RMe_method e_RT e_RMe hme165 hF169 rfl rfl mq185 hF188 rfl rfl).1
        have rk9 := (RMe_method e_RT e_RMe hme165 hF169 rfl rfl mq185 hF188 rfl rfl).2.1
        have ro9 := (RMe_method e_RT e_RMe hme165 hF169 rfl rfl mq185 hF188 rfl rfl).2.2
        have rk8 := RK_meth (RKx.fr e_RK hF169 rfl rfl) (Int.le_trans (hI.f tf43_1).1 (Int.le_of_eq (hF169.f rfl).symm)) mq185 hF188 rfl
        refine r_store (i := 163) (u := 6) (w := 0) (L1 := [some ((6, 0)), some ((2, 0)), some ((2, 43)), some ((2, 81)), some (vi i), some (vi z161), some (vi z182)]) rfl rfl rfl rfl ?_
        refine r_goto (i := 164) (v := 654) rfl ?_
        refine r_iinc (i := 654) (u := 10) (v := 4) (s := 10) (L1 := [some ((6, 0)), some ((2, 0)), some ((2, 43)), some ((2, 81)), some (vi (i + 10)), some (vi z161), some (vi z182)]) rfl rfl rfl rfl rfl ?_
        refine r_goto (i := 655) (v := 13) rfl ?_
        refine yT_drop (L1 := [some ((6, 0)), some ((2, 0)), some ((2, 43)), some ((2, 81)), some (vi (i + 10)), none, none]) rfl ?_
        exact ih S180 hI187 e193 e186 e190 rm9 e191 e192 rk8 (i + 10) ⟨by omega, by omega⟩ (by exact wRM_le e194 (by omega)) (by omega)
      · refine r_swK (i := 24) (u := 1) (v := 654) (k := 3) (t := 165) rfl rfl h8 (by decide) (by decide) rfl ?_
        refine r_load (i := 165) (u := 1) (w := 2) rfl rfl rfl ?_
        refine r_load (i := 166) (u := 0) (w := 2) rfl rfl rfl ?_
        refine r_load (i := 167) (u := 4) (w := 0) rfl rfl rfl ?_
        refine r_const (i := 168) (u := 1) (z := 1) rfl rfl ?_
        refine r_iadd (i := 169) rfl ?_
        refine r_scA (i := 170) hG rfl (by omega) (by omega) fun h195 => ?_
        have h195 : Rg (sc (i + 1).toNat) := h195
        refine r_load (i := 171) (u := 0) (w := 2) rfl rfl rfl ?_
        refine r_load (i := 172) (u := 4) (w := 0) rfl rfl rfl ?_
        refine r_const (i := 173) (u := 2) (z := 2) rfl rfl ?_
        refine r_iadd (i := 174) rfl ?_
        refine r_scA (i := 175) hG rfl (by omega) (by omega) fun h196 => ?_
        have h196 : Rg (sc (i + 2).toNat) := h196
        refine r_call (i := 176) (u := 65535) (v := 178) (w := 0) (b := 2) (na := 1027) (C2 := xC178) (as := [(2, 0), vi (sc (i + 1).toNat), vi (sc (i + 2).toNat)]) (s := []) rfl rfl rfl rfl rfl rfl rfl (sp178 (p0 := sc (i + 1).toNat) (p1 := sc (i + 2).toNat) (kR := 5199 - i) hI ⟨by omega, by omega⟩ ⟨by omega, by omega⟩ (by exact wRM_le q_0 (by omega)) (by omega) e_N23 e_CR (by omega)) (fun r197 S198 hq199 => ?_)
        obtain ⟨z200, rfl, h201, h202, rm203, e204, e205, hI206, hF207⟩ := hq199
        have e208 := RTx.fr e_RT hF207 rfl rfl
        have e209 := RMex.fr e_RMe hF207 rfl rfl
        have e210 := RSx.fr e_RS hF207 rfl rfl
        have e211 := RIx.fr e_RI hF207 rfl rfl
        have e212 := RKx.fr e_RK hF207 rfl rfl
        refine Or.inr (Or.inl ⟨rfl, ?_⟩)
        refine r_store (i := 177) (u := 5) (w := 0) (L1 := [some ((6, 0)), some ((2, 0)), some ((2, 43)), some ((2, 81)), some (vi i), some (vi z200), none]) rfl rfl rfl rfl ?_
        refine r_load (i := 178) (u := 2) (w := 2) rfl rfl rfl ?_
        refine r_load (i := 179) (u := 0) (w := 2) rfl rfl rfl ?_
        refine r_load (i := 180) (u := 4) (w := 0) rfl rfl rfl ?_
        refine r_const (i := 181) (u := 1) (z := 1) rfl rfl ?_
        refine r_iadd (i := 182) rfl ?_
        refine r_scA (i := 183) hG rfl (by omega) (by omega) fun h213 => ?_
        have h213 : Rg (sc (i + 1).toNat) := h213
        refine r_load (i := 184) (u := 0) (w := 2) rfl rfl rfl ?_
        refine r_load (i := 185) (u := 4) (w := 0) rfl rfl rfl ?_
        refine r_const (i := 186) (u := 2) (z := 2) rfl rfl ?_
        refine r_iadd (i := 187) rfl ?_
        refine r_scA (i := 188) hG rfl (by omega) (by omega) fun h214 => ?_
        have h214 : Rg (sc (i + 2).toNat) := h214
        refine r_call (i := 189) (u := 11) (v := 255) (w := 0) (b := 0) (na := 1283) (C2 := xC255) (as := [(2, 43), vi (sc (i + 1).toNat), vi (sc (i + 2).toNat)]) (s := []) rfl rfl rfl rfl rfl rfl rfl (sp255 (m := sc (i + 1).toNat) (t := sc (i + 2).toNat) hI206 ⟨by omega, by omega⟩ ⟨by omega, by omega⟩   (by omega)) (fun r215 S216 hq217 => ?_)
        obtain ⟨rfl, hI218, hF219, hR220⟩ := hq217
        have e221 := RTx.fr e208 hF219 rfl rfl
        have e222 := RMex.fr e209 hF219 rfl rfl
        have e223 := RSx.fr e210 hF219 rfl rfl
        have e224 := RIx.fr e211 hF219 rfl rfl
        have e225 := RKx.fr e212 hF219 rfl rfl
        have e226 := N23x.fr e204 hF219 hR220 rfl rfl rfl
        have e227 := CRx.fr e205 hF219 rfl rfl
        have e228 := wRM_rm rm203 hR220
        refine Or.inl ⟨rfl, ?_⟩
        refine r_goto (i := 190) (v := 654) rfl ?_
        refine r_iinc (i := 654) (u := 10) (v := 4) (s := 10) (L1 := [some ((6, 0)), some ((2, 0)), some ((2, 43)), some ((2, 81)), some (vi (i + 10)), some (vi z200), none]) rfl rfl rfl rfl rfl ?_
        refine r_goto (i := 655) (v := 13) rfl ?_
        refine yT_drop (L1 := [some ((6, 0)), some ((2, 0)), some ((2, 43)), some ((2, 81)), some (vi (i + 10)), none, none]) rfl ?_
        exact ih S216 hI218 e226 e227 e221 e222 e223 e224 e225 (i + 10) ⟨by omega, by omega⟩ (by exact wRM_le e228 (by omega)) (by omega)
      · refine r_swK (i := 24) (u := 1) (v := 654) (k := 4) (t := 191) rfl rfl h9 (by decide) (by decide) rfl ?_
        refine r_load (i := 191) (u := 1) (w := 2) rfl rfl rfl ?_
        refine r_load (i := 192) (u := 0) (w := 2) rfl rfl rfl ?_
        refine r_load (i := 193) (u := 4) (w := 0) rfl rfl rfl ?_
        refine r_const (i := 194) (u := 1) (z := 1) rfl rfl ?_
        refine r_iadd (i := 195) rfl ?_
        refine r_scA (i := 196) hG rfl (by omega) (by omega) fun h229 => ?_
        have h229 : Rg (sc (i + 1).toNat) := h229
        refine r_load (i := 197) (u := 0) (w := 2) rfl rfl rfl ?_
        refine r_load (i := 198) (u := 4) (w := 0) rfl rfl rfl ?_
        refine r_const (i := 199) (u := 2) (z := 2) rfl rfl ?_
        refine r_iadd (i := 200) rfl ?_
        refine r_scA (i := 201) hG rfl (by omega) (by omega) fun h230 => ?_
        have h230 : Rg (sc (i + 2).toNat) := h230
        have h231 := hI.f tf1_7
        refine r_call (i := 202) (u := 0) (v := 12) (w := 0) (b := 0) (na := 771) (C2 := xC12) (as := [(2, 0), vi (sc (i + 1).toNat), vi (sc (i + 2).toNat)]) (s := []) rfl rfl rfl rfl rfl rfl rfl (sp12 (t := sc (i + 1).toNat) (o := sc (i + 2).toNat) hI ⟨by omega, by omega⟩ ⟨by omega, by omega⟩   (by omega)) (fun r232 S233 hq234 => ?_)
        obtain ⟨z235, rfl, h236, h237, cs238, rfl⟩ := hq234
        refine Or.inr (Or.inl ⟨rfl, ?_⟩)
        refine r_pop (i := 203) rfl rfl ?_
        refine r_load (i := 204) (u := 2) (w := 2) rfl rfl rfl ?_
        refine r_load (i := 205) (u := 0) (w := 2) rfl rfl rfl ?_
        refine r_load (i := 206) (u := 4) (w := 0) rfl rfl rfl ?_
        refine r_const (i := 207) (u := 1) (z := 1) rfl rfl ?_
        refine r_iadd (i := 208) rfl ?_
        refine r_scA (i := 209) hG rfl (by omega) (by omega) fun h239 => ?_
        have h239 : Rg (sc (i + 1).toNat) := h239
        refine r_load (i := 210) (u := 0) (w := 2) rfl rfl rfl ?_
        refine r_load (i := 211) (u := 4) (w := 0) rfl rfl rfl ?_
        refine r_const (i := 212) (u := 2) (z := 2) rfl rfl ?_
        refine r_iadd (i := 213) rfl ?_
        refine r_scA (i := 214) hG rfl (by omega) (by omega) fun h240 => ?_
        have h240 : Rg (sc (i + 2).toNat) := h240
        have h241 := hI.f tf43_1
        refine r_call (i := 215) (u := 11) (v := 211) (w := 0) (b := 0) (na := 771) (C2 := xC211) (as := [(2, 43), vi (sc (i + 1).toNat), vi (sc (i + 2).toNat)]) (s := []) rfl rfl rfl rfl rfl rfl rfl (sp211 (t := sc (i + 1).toNat) (o := sc (i + 2).toNat) hI ⟨by omega, by omega⟩ ⟨by omega, by omega⟩   (by omega)) (fun r242 S243 hq244 => ?_)
        obtain ⟨z245, rfl, h246, h247, ms248, hI249, hF250, hR251⟩ := hq244
        have e252 := N23x.fr e_N23 hF250 hR251 rfl rfl rfl
        have e253 := CRx.fr e_CR hF250 rfl rfl
        have e254 := RTx.fr e_RT hF250 rfl rfl
        have e255 := RMex.fr e_RMe hF250 rfl rfl
        have e256 := RSx.fr e_RS hF250 rfl rfl
        have e257 := RIx.fr e_RI hF250 rfl rfl
        have e258 := RKx.fr e_RK hF250 rfl rfl
        have e259 := wRM_rm q_0 hR251
        refine Or.inr (Or.inl ⟨rfl, ?_⟩)
        have eq9 := RS_sub e_RT e_RS hI.m3 (hI.f tf1_7).2 cs238 ms248 rfl (fun _ => rfl) (fun _ => rfl) (fun _ => rfl)
        refine r_pop (i := 216) rfl rfl ?_
        refine r_goto (i := 217) (v := 654) rfl ?_
        refine r_iinc (i := 654) (u := 10) (v := 4) (s := 10) (L1 := [some ((6, 0)), some ((2, 0)), some ((2, 43)), some ((2, 81)), some (vi (i + 10)), none, none]) rfl rfl rfl rfl rfl ?_
        refine r_goto (i := 655) (v := 13) rfl ?_
        exact ih S243 hI249 e252 e253 e254 e255 e256 e257 e258 (i + 10) ⟨by omega, by omega⟩ (by exact wRM_le e259 (by omega)) (by omega)
      · refine r_swK (i := 24) (u := 1) (v := 654) (k := 5) (t := 218) rfl rfl h10 (by decide) (by decide) rfl ?_
        refine r_load (i := 218) (u := 1) (w := 2) rfl rfl rfl ?_
        refine r_load (i := 219) (u := 0) (w := 2) rfl rfl rfl ?_
        refine r_load (i := 220) (u := 4) (w := 0) rfl rfl rfl ?_
        refine r_const (i := 221) (u := 1) (z := 1) rfl rfl ?_
        refine r_iadd (i := 222) rfl ?_
        refine r_scA (i := 223) hG rfl (by omega) (by omega) fun h260 => ?_
        have h260 : Rg (sc (i + 1).toNat) := h260
        refine r_load (i := 224) (u := 0) (w := 2) rfl rfl rfl ?_
        refine r_load (i := 225) (u := 4) (w := 0) rfl rfl rfl ?_
        refine r_const (i := 226) (u := 2) (z := 2) rfl rfl ?_
        refine r_iadd (i := 227) rfl ?_
        refine r_scA (i := 228) hG rfl (by omega) (by omega) fun h261 => ?_
        have h261 : Rg (sc (i + 2).toNat) := h261
        refine r_call (i := 229) (u := 0) (v := 14) (w := 0) (b := 0) (na := 771) (C2 := xC14) (as := [(2, 0), vi (sc (i + 1).toNat), vi (sc (i + 2).toNat)]) (s := []) rfl rfl rfl rfl rfl rfl rfl (sp14 (w0 := sc (i + 1).toNat) (k := sc (i + 2).toNat) hI ⟨by omega, by omega⟩ ⟨by omega, by omega⟩   (by omega)) (fun r262 S263 hq264 => ?_)
        obtain ⟨z265, rfl, h266, h267, h268, hI269, hF270, hR271⟩ := hq264
        have e272 := N23x.fr e_N23 hF270 hR271 rfl rfl rfl
        have e273 := CRx.fr e_CR hF270 rfl rfl
        have e274 := RTx.fr e_RT hF270 rfl rfl
        have e275 := RMex.fr e_RMe hF270 rfl rfl
        have e276 := RSx.fr e_RS hF270 rfl rfl
        have e277 := RIx.fr e_RI hF270 rfl rfl
        have e278 := RKx.fr e_RK hF270 rfl rfl
        have e279 := wRM_rm q_0 hR271
        refine Or.inr (Or.inl ⟨rfl, ?_⟩)
        refine r_pop (i := 230) rfl rfl ?_
        refine r_load (i := 231) (u := 2) (w := 2) rfl rfl rfl ?_
        refine r_load (i := 232) (u := 0) (w := 2) rfl rfl rfl ?_
        refine r_load (i := 233) (u := 4) (w := 0) rfl rfl rfl ?_
        refine r_const (i := 234) (u := 1) (z := 1) rfl rfl ?_
        refine r_iadd (i := 235) rfl ?_
        refine r_scA (i := 236) hG rfl (by omega) (by omega) fun h280 => ?_
        have h280 : Rg (sc (i + 1).toNat) := h280
        refine r_load (i := 237) (u := 0) (w := 2) rfl rfl rfl ?_
        refine r_load (i := 238) (u := 4) (w := 0) rfl rfl rfl ?_
        refine r_const (i := 239) (u := 2) (z := 2) rfl rfl ?_
        refine r_iadd (i := 240) rfl ?_
        refine r_scA (i := 241) hG rfl (by omega) (by omega) fun h281 => ?_
        have h281 : Rg (sc (i + 2).toNat) := h281
        refine r_call (i := 242) (u := 11) (v := 232) (w := 0) (b := 0) (na := 771) (C2 := xC232) (as := [(2, 43), vi (sc (i + 1).toNat), vi (sc (i + 2).toNat)]) (s := []) rfl rfl rfl rfl rfl rfl rfl (sp232 (w0 := sc (i + 1).toNat) (k := sc (i + 2).toNat) hI269 ⟨by omega, by omega⟩ ⟨by omega, by omega⟩   (by omega)) (fun r282 S283 hq284 => ?_)
        obtain ⟨z285, rfl, h286, h287, h288, hI289, hF290, hR291⟩ := hq284
        have e292 := N23x.fr e272 hF290 hR291 rfl rfl rfl
        have e293 := CRx.fr e273 hF290 rfl rfl
        have e294 := RTx.fr e274 hF290 rfl rfl
        have e295 := RMex.fr e275 hF290 rfl rfl
        have e296 := RSx.fr e276 hF290 rfl rfl
        have e297 := RIx.fr e277 hF290 rfl rfl
        have e298 := RKx.fr e278 hF290 rfl rfl
        have e299 := wRM_rm e279 hR291
        refine Or.inr (Or.inl ⟨rfl, ?_⟩)
        refine r_pop (i := 243) rfl rfl ?_
        refine r_goto (i := 244) (v := 654) rfl ?_
        refine r_iinc (i := 654) (u := 10) (v := 4) (s := 10) (L1 := [some ((6, 0)), some ((2, 0)), some ((2, 43)), some ((2, 81)), some (vi (i + 10)), none, none]) rfl rfl rfl rfl rfl ?_
        refine r_goto (i := 655) (v := 13) rfl ?_
        exact ih S283 hI289 e292 e293 e294 e295 e296 e297 e298 (i + 10) ⟨by omega, by omega⟩ (by exact wRM_le e299 (by omega)) (by omega)
      · refine r_swK (i := 24) (u := 1) (v := 654) (k := 6) (t := 245) rfl rfl h11 (by decide) (by decide) rfl ?_
        refine r_load (i := 245) (u := 1) (w := 2) rfl rfl rfl ?_
        refine r_load (i := 246) (u := 0) (w := 2) rfl rfl rfl ?_
        refine r_load (i := 247) (u := 4) (w := 0) rfl rfl rfl ?_
        refine r_const (i := 248) (u := 1) (z := 1) rfl rfl ?_
        refine r_iadd (i := 249) rfl ?_
        refine r_scA (i := 250) hG rfl (by omega) (by omega) fun h300 => ?_
        have h300 : Rg (sc (i + 1).toNat) := h300
        refine r_load (i := 251) (u := 0) (w := 2) rfl rfl rfl ?_
        refine r_load (i := 252) (u := 4) (w := 0) rfl rfl rfl ?_
        refine r_const (i := 253) (u := 2) (z := 2) rfl rfl ?_
        refine r_iadd (i := 254) rfl ?_
        refine r_scA (i := 255) hG rfl (by omega) (by omega) fun h301 => ?_
        have h301 : Rg (sc (i + 2).toNat) := h301
        refine r_load (i := 256) (u := 0) (w := 2) rfl rfl rfl ?_
        refine r_load (i := 257) (u := 4) (w := 0) rfl rfl rfl ?_
        refine r_const (i := 258) (u := 3) (z := 3) rfl rfl ?_
        refine r_iadd (i := 259) rfl ?_
        refine r_scA (i := 260) hG rfl (by omega) (by omega) fun h302 => ?_
        have h302 : Rg (sc (i + 3).toNat) := h302
        refine r_load (i := 261) (u := 0) (w := 2) rfl rfl rfl ?_
        refine r_load (i := 262) (u := 4) (w := 0) rfl rfl rfl ?_
        refine r_const (i := 263) (u := 4) (z := 4) rfl rfl ?_
        refine r_iadd (i := 264) rfl ?_
        refine r_scA (i := 265) hG rfl (by omega) (by omega) fun h303 => ?_
        have h303 : Rg (sc (i + 4).toNat) := h303
        refine r_load (i := 266) (u := 3) (w := 2) rfl rfl rfl ?_
        refine r_call (i := 267) (u := 65535) (v := 175) (w := 0) (b := 2) (na := 1798) (C2 := xC175) (as := [(2, 0), vi (sc (i + 1).toNat), vi (sc (i + 2).toNat), vi (sc (i + 3).toNat), vi (sc (i + 4).toNat), (2, 81)]) (s := []) rfl rfl rfl rfl rfl rfl rfl (sp175 (p0 := sc (i + 1).toNat) (p1 := sc (i + 2).toNat) (p2 := sc (i + 3).toNat) (p3 := sc (i + 4).toNat) (kR := 5199 - i) hI ⟨by omega, by omega⟩ ⟨by omega, by omega⟩ ⟨by omega, by omega⟩ ⟨by omega, by omega⟩ (by exact wRM_le q_0 (by omega)) (by omega) e_N23 e_CR (by omega)) (fun r304 S305 hq306 => ?_)
        obtain ⟨z307, rfl, h308, h309, rm310, hfo311, e312, e313, hI314, hF315⟩ := hq306
        have e316 := RTx.fr e_RT hF315 rfl rfl
        have e317 := RMex.fr e_RMe hF315 rfl rfl
        have e318 := RSx.fr e_RS hF315 rfl rfl
        have e319 := RIx.fr e_RI hF315 rfl rfl
        have e320 := RKx.fr e_RK hF315 rfl rfl
        refine Or.inr (Or.inl ⟨rfl, ?_⟩)
        refine r_store (i := 268) (u := 5) (w := 0) (L1 := [some ((6, 0)), some ((2, 0)), some ((2, 43)), some ((2, 81)), some (vi i), some (vi z307), none]) rfl rfl rfl rfl ?_
        refine r_load (i := 269) (u := 2) (w := 2) rfl rfl rfl ?_
        refine r_load (i := 270) (u := 0) (w := 2) rfl rfl rfl ?_
        refine r_load (i := 271) (u := 4) (w := 0) rfl rfl rfl ?_
        refine r_const (i := 272) (u := 1) (z := 1) rfl rfl ?_
        refine r_iadd (i := 273) rfl ?_
        refine r_scA (i := 274) hG rfl (by omega) (by omega) fun h321 => ?_
        have h321 : Rg (sc (i + 1).toNat) := h321
        refine r_load (i := 275) (u := 0) (w := 2) rfl rfl rfl ?_
        refine r_load (i := 276) (u := 4) (w := 0) rfl rfl rfl ?_
        refine r_const (i := 277) (u := 2) (z := 2) rfl rfl ?_
        refine r_iadd (i := 278) rfl ?_
        refine r_scA (i := 279) hG rfl (by omega) (by omega) fun h322 => ?_
        have h322 : Rg (sc (i + 2).toNat) := h322
        refine r_load (i := 280) (u := 0) (w := 2) rfl rfl rfl ?_
        refine r_load (i := 281) (u := 4) (w := 0) rfl rfl rfl ?_
        refine r_const (i := 282) (u := 3) (z := 3) rfl rfl ?_
        refine r_iadd (i := 283) rfl ?_
        refine r_scA (i := 284) hG rfl (by omega) (by omega) fun h323 => ?_
        have h323 : Rg (sc (i + 3).toNat) := h323
        refine r_load (i := 285) (u := 0) (w := 2) rfl rfl rfl ?_
        refine r_load (i := 286) (u := 4) (w := 0) rfl rfl rfl ?_
        refine r_const (i := 287) (u := 4) (z := 4) rfl rfl ?_
        refine r_iadd (i := 288) rfl ?_
        refine r_scA (i := 289) hG rfl (by omega) (by omega) fun h324 => ?_
        have h324 : Rg (sc (i + 4).toNat) := h324
        refine r_call (i := 290) (u := 11) (v := 203) (w := 0) (b := 0) (na := 2565) (C2 := xC203) (as := [(2, 43), vi (sc (i + 1).toNat), vi (sc (i + 2).toNat), vi (sc (i + 3).toNat), vi (sc (i + 4).toNat)]) (s := []) rfl rfl rfl rfl rfl rfl rfl (sp203 (c := sc (i + 1).toNat) (a := sc (i + 2).toNat) (b := sc (i + 3).toNat) (e := sc (i + 4).toNat) hI314 ⟨by omega, by omega⟩ ⟨by omega, by omega⟩ ⟨by omega, by omega⟩ ⟨by omega, by omega⟩  e313 (by omega)) (fun r325 S326 hq327 => ?_)
        obtain ⟨z328, rfl, h329, h330, mf331, e332, hI333, hF334, hR335⟩ := hq327
        have e336 := RTx.fr e316 hF334 rfl rfl
        have e337 := RMex.fr e317 hF334 rfl rfl
        have e338 := RSx.fr e318 hF334 rfl rfl
        have e339 := RIx.fr e319 hF334 rfl rfl
        have e340 := RKx.fr e320 hF334 rfl rfl
        have e341 := N23x.fr e312 hF334 hR335 rfl rfl rfl
        have e342 := wRM_rm rm310 hR335
        refine Or.inr (Or.inl ⟨rfl, ?_⟩)
        have rk9 := (FO_eq e_RT e_RS e_RMe e_RI e_RK hI.m3 (hI.f tf1_7).2 hfo311 (sMa_fr hF315 rfl rfl) mf331).1
        have ro9 := (FO_eq e_RT e_RS e_RMe e_RI e_RK hI.m3 (hI.f tf1_7).2 hfo311 (sMa_fr hF315 rfl rfl) mf331).2
        refine r_store (i := 291) (u := 6) (w := 0) (L1 := [some ((6, 0)), some ((2, 0)), some ((2, 43)), some ((2, 81)), some (vi i), some (vi z307), some (vi z328)]) rfl rfl rfl rfl ?_
        refine r_load (i := 292) (u := 2) (w := 2) rfl rfl rfl ?_
        have h343 := hI333.f tf43_0
        refine r_call (i := 293) (u := 11) (v := 256) (w := 0) (b := 0) (na := 257) (C2 := xC256) (as := [(2, 43)]) (s := []) rfl rfl rfl rfl rfl rfl rfl (sp256  hI333    (by omega)) (fun r344 S345 hq346 => ?_)
        obtain ⟨z347, rfl, h348, h349, h350, rfl⟩ := hq346
        refine Or.inr (Or.inl ⟨rfl, ?_⟩)
        refine r_load (i := 294) (u := 5) (w := 0) rfl rfl rfl ?_
        refine c_eq (i := 295) (v := 298) rfl ⟨by omega, by omega⟩ ⟨by omega, by omega⟩ (fun h351 => ?_) (fun h352 => ?_)
        · refine r_load (i := 298) (u := 5) (w := 0) rfl rfl rfl ?_
          refine z_ne (i := 299) (v := 309) rfl ⟨by omega, by omega⟩ (fun h353 => ?_) (fun h354 => ?_)
          · refine r_goto (i := 309) (v := 654) rfl ?_
            refine r_iinc (i := 654) (u := 10) (v := 4) (s := 10) (L1 := [some ((6, 0)), some ((2, 0)), some ((2, 43)), some ((2, 81)), some (vi (i + 10)), some (vi z307), some (vi z328)]) rfl rfl rfl rfl rfl ?_
            refine r_goto (i := 655) (v := 13) rfl ?_
            refine yT_drop (L1 := [some ((6, 0)), some ((2, 0)), some ((2, 43)), some ((2, 81)), some (vi (i + 10)), none, none]) rfl ?_
            exact ih S326 hI333 e341 e332 e336 e337 e338 e339 e340 (i + 10) ⟨by omega, by omega⟩ (by exact wRM_le e342 (by omega)) (by omega)
          · refine r_load (i := 300) (u := 3) (w := 2) rfl rfl rfl ?_
            refine r_const (i := 301) (u := 0) (z := 0) rfl rfl ?_
            refine r_laload (i := 302) rfl ly81 (by decide) (by omega) (by omega) fun h355 => ?_
            have h356 : S326.a 81 (0 : Int).toNat = S305.a 81 (0 : Int).toNat := hF334.a rfl _
            refine r_load (i := 303) (u := 6) (w := 0) rfl rfl rfl ?_
            refine r_i2l (i := 304) rfl ⟨by omega, by omega⟩ ?_
            refine r_lcmp (i := 305) rfl ⟨by omega, by omega⟩ ⟨by omega, by omega⟩ (fun h357 => ?_) (fun h358 => ?_) (fun h359 => ?_)
            · refine z_eq (i := 306) (v := 309) rfl ⟨by omega, by omega⟩ (fun h360 => absurd h360 (by omega)) (fun h361 => ?_)
              refine r_const (i := 307) (u := 0) (z := 0) rfl rfl ?_
              exact r_retZ (i := 308) rfl (by omega) (by omega) ⟨0, rfl, by omega, by omega⟩
            · refine z_eq (i := 306) (v := 309) rfl ⟨by omega, by omega⟩ (fun h362 => ?_) (fun h363 => absurd h363 (by omega))
              refine r_goto (i := 309) (v := 654) rfl ?_
              refine r_iinc (i := 654) (u := 10) (v := 4) (s := 10) (L1 := [some ((6, 0)), some ((2, 0)), some ((2, 43)), some ((2, 81)), some (vi (i + 10)), some (vi z307), some (vi z328)]) rfl rfl rfl rfl rfl ?_
              refine r_goto (i := 655) (v := 13) rfl ?_
              refine yT_drop (L1 := [some ((6, 0)), some ((2, 0)), some ((2, 43)), some ((2, 81)), some (vi (i + 10)), none, none]) rfl ?_
              exact ih S326 hI333 e341 e332 e336 e337 e338 e339 e340 (i + 10) ⟨by omega, by omega⟩ (by exact wRM_le e342 (by omega)) (by omega)
            · refine z_eq (i := 306) (v := 309) rfl ⟨by omega, by omega⟩ (fun h364 => absurd h364 (by omega)) (fun h365 => ?_)
              refine r_const (i := 307) (u := 0) (z := 0) rfl rfl ?_
              exact r_retZ (i := 308) rfl (by omega) (by omega) ⟨0, rfl, by omega, by omega⟩
        · refine r_const (i := 296) (u := 0) (z := 0) rfl rfl ?_
          exact r_retZ (i := 297) rfl (by omega) (by omega) ⟨0, rfl, by omega, by omega⟩
      · refine r_swK (i := 24) (u := 1) (v := 654) (k := 7) (t := 310) rfl rfl h12 (by decide) (by decide) rfl ?_
        refine r_load (i := 310) (u := 1) (w := 2) rfl rfl rfl ?_
        refine r_call (i := 311) (u := 0) (v := 19) (w := 0) (b := 0) (na := 257) (C2 := xC19) (as := [(2, 0)]) (s := []) rfl rfl rfl rfl rfl rfl rfl (sp19  hI    (by omega)) (fun r366 S367 hq368 => ?_)
        obtain ⟨z369, rfl, h370, h371, rfl⟩ := hq368
        refine Or.inr (Or.inl ⟨rfl, ?_⟩)
        refine r_pop (i := 312) rfl rfl ?_
        refine r_load (i := 313) (u := 2) (w := 2) rfl rfl rfl ?_
        refine r_call (i := 314) (u := 11) (v := 244) (w := 0) (b := 0) (na := 257) (C2 := xC244) (as := [(2, 43)]) (s := []) rfl rfl rfl rfl rfl rfl rfl (sp244  hI    (by omega)) (fun r372 S373 hq374 => ?_)
        obtain ⟨z375, rfl, h376, h377, hI378, hF379, hR380⟩ := hq374
        have e381 := N23x.fr e_N23 hF379 hR380 rfl rfl rfl
        have e382 := CRx.fr e_CR hF379 rfl rfl
        have e383 := RTx.fr e_RT hF379 rfl rfl
        have e384 := RMex.fr e_RMe hF379 rfl rfl
        have e385 := RSx.fr e_RS hF379 rfl rfl
        have e386 := RIx.fr e_RI hF379 rfl rfl
        have e387 := RKx.fr e_RK hF379 rfl rfl
        have e388 := wRM_rm q_0 hR380
        refine Or.inr (Or.inl ⟨rfl, ?_⟩)
        refine r_pop (i := 315) rfl rfl ?_
        refine r_goto (i := 316) (v := 654) rfl ?_
        refine r_iinc (i := 654) (u := 10) (v := 4) (s := 10) (L1 := [some ((6, 0)), some ((2, 0)), some ((2, 43)), some ((2, 81)), some (vi (i + 10)), none, none]) rfl rfl rfl rfl rfl ?_
        refine r_goto (i := 655) (v := 13) rfl ?_
        exact ih S373 hI378 e381 e382 e383 e384 e385 e386 e387 (i + 10) ⟨by omega, by omega⟩ (by exact wRM_le e388 (by omega)) (by omega)
      · refine r_swK (i := 24) (u := 1) (v := 654) (k := 8) (t := 317) rfl rfl h13 (by decide) (by decide) rfl ?_
        refine r_load (i := 317) (u := 1) (w := 2) rfl rfl rfl ?_
        refine r_load (i := 318) (u := 0) (w := 2) rfl rfl rfl ?_
        refine r_load (i := 319) (u := 4) (w := 0) rfl rfl rfl ?_
        refine r_const (i := 320) (u := 1) (z := 1) rfl rfl ?_
        refine r_iadd (i := 321) rfl ?_
        refine r_scA (i := 322) hG rfl (by omega) (by omega) fun h389 => ?_
        have h389 : Rg (sc (i + 1).toNat) := h389
        refine r_call (i := 323) (u := 0) (v := 18) (w := 0) (b := 0) (na := 514) (C2 := xC18) (as := [(2, 0), vi (sc (i + 1).toNat)]) (s := []) rfl rfl rfl rfl rfl rfl rfl (sp18 (k := sc (i + 1).toNat) hI ⟨by omega, by omega⟩   (by omega)) (fun r390 S391 hq392 => ?_)
        obtain ⟨z393, rfl, h394, h395, rfl⟩ := hq392
        refine Or.inr (Or.inl ⟨rfl, ?_⟩)
        refine r_pop (i := 324) rfl rfl ?_
        refine r_load (i := 325) (u := 2) (w := 2) rfl rfl rfl ?_
        refine r_load (i := 326) (u := 0) (w := 2) rfl rfl rfl ?_
        refine r_load (i := 327) (u := 4) (w := 0) rfl rfl rfl ?_
        refine r_const (i := 328) (u := 1) (z := 1) rfl rfl ?_
        refine r_iadd (i := 329) rfl ?_
        refine r_scA (i := 330) hG rfl (by omega) (by omega) fun h396 => ?_
        have h396 : Rg (sc (i + 1).toNat) := h396
        refine r_call (i := 331) (u := 11) (v := 243) (w := 0) (b := 0) (na := 514) (C2 := xC243) (as := [(2, 43), vi (sc (i + 1).toNat)]) (s := []) rfl rfl rfl rfl rfl rfl rfl (sp243 (k := sc (i + 1).toNat) hI ⟨by omega, by omega⟩   (by omega)) (fun r397 S398 hq399 => ?_)
        obtain ⟨z400, rfl, h401, h402, hI403, hF404, hR405⟩ := hq399
        have e406 := N23x.fr e_N23 hF404 hR405 rfl rfl rfl
        have e407 := CRx.fr e_CR hF404 rfl rfl
        have e408 := RTx.fr e_RT hF404 rfl rfl
        have e409 := RMex.fr e_RMe hF404 rfl rfl
        have e410 := RSx.fr e_RS hF404 rfl rfl
        have e411 := RIx.fr e_RI hF404 rfl rfl
        have e412 := RKx.fr e_RK hF404 rfl rfl
        have e413 := wRM_rm q_0 hR405
        refine Or.inr (Or.inl ⟨rfl, ?_⟩)
        refine r_pop (i := 332) rfl rfl ?_
        refine r_goto (i := 333) (v := 654) rfl ?_
        refine r_iinc (i := 654) (u := 10) (v := 4) (s := 10) (L1 := [some ((6, 0)), some ((2, 0)), some ((2, 43)), some ((2, 81)), some (vi (i + 10)), none, none]) rfl rfl rfl rfl rfl ?_
        refine r_goto (i := 655) (v := 13) rfl ?_
        exact ih S398 hI403 e406 e407 e408 e409 e410 e411 e412 (i + 10) ⟨by omega, by omega⟩ (by exact wRM_le e413 (by omega)) (by omega)
      · refine r_swK (i := 24) (u := 1) (v := 654) (k := 9) (t := 334) rfl rfl h14 (by decide) (by decide) rfl ?_
        refine r_load (i := 334) (u := 1) (w := 2) rfl rfl rfl ?_
        refine r_load (i := 335) (u := 0) (w := 2) rfl rfl rfl ?_
        refine r_load (i := 336) (u := 4) (w := 0) rfl rfl rfl ?_
        refine r_const (i := 337) (u := 1) (z := 1) rfl rfl ?_
        refine r_iadd (i := 338) rfl ?_
        refine r_scA (i := 339) hG rfl (by omega) (by omega) fun h414 => ?_
        have h414 : Rg (sc (i + 1).toNat) := h414
        refine r_load (i := 340) (u := 0) (w := 2) rfl rfl rfl ?_
        refine r_load (i := 341) (u := 4) (w := 0) rfl rfl rfl ?_
        refine r_const (i := 342) (u := 2) (z := 2) rfl rfl ?_
        refine r_iadd (i := 343) rfl ?_
        refine r_scA (i := 344) hG rfl (by omega) (by omega) fun h415 => ?_
        have h415 : Rg (sc (i + 2).toNat) := h415
        refine r_i2l (i := 345) rfl ⟨by omega, by omega⟩ ?_
        refine r_const (i := 346) (u := 32) (z := 32) rfl rfl ?_
        refine r_lshl (i := 347) rfl ?_
        refine r_load (i := 348) (u := 0) (w := 2) rfl rfl rfl ?_
        refine r_load (i := 349) (u := 4) (w := 0) rfl rfl rfl ?_
        refine r_const (i := 350) (u := 3) (z := 3) rfl rfl ?_
        refine r_iadd (i := 351) rfl ?_
        refine r_scA (i := 352) hG rfl (by omega) (by omega) fun h416 => ?_
        have h416 : Rg (sc (i + 3).toNat) := h416
        refine r_i2l (i := 353) rfl ⟨by omega, by omega⟩ ?_
        refine r_lconst (i := 354) (u := 4294967295) (z := 4294967295) rfl rfl ?_
        refine r_land (i := 355) rfl ?_
        have h417 := @yland_c (sc (i + 3).toNat) 4294967295 (by decide) (by decide)
        refine r_lor (i := 356) rfl ?_
        have h418 := ylor_rl ((sc (i + 2).toNat) * 4294967296) (yland (sc (i + 3).toNat) 4294967295)
        refine r_call (i := 357) (u := 65535) (v := 173) (w := 0) (b := 2) (na := 1283) (C2 := xC173) (as := [(2, 0), vi (sc (i + 1).toNat), vl (ylor ((sc (i + 2).toNat) * 4294967296) (yland (sc (i + 3).toNat) 4294967295))]) (s := []) rfl rfl rfl rfl rfl rfl rfl (sp173 (p0 := sc (i + 1).toNat) (p1 := ylor ((sc (i + 2).toNat) * 4294967296) (yland (sc (i + 3).toNat) 4294967295)) (kR := 5199 - i) hI ⟨by omega, by omega⟩ ⟨by omega, by omega⟩ (by exact wRM_le q_0 (by omega)) (by omega) e_N23 e_CR (by omega)) (fun r419 S420 hq421 => ?_)
        obtain ⟨z422, rfl, h423, h424, rm425, e426, e427, hI428, hF429⟩ := hq421
        have e430 := RTx.fr e_RT hF429 rfl rfl
        have e431 := RMex.fr e_RMe hF429 rfl rfl
        have e432 := RSx.fr e_RS hF429 rfl rfl
        have e433 := RIx.fr e_RI hF429 rfl rfl
        have e434 := RKx.fr e_RK hF429 rfl rfl
        refine Or.inr (Or.inl ⟨rfl, ?_⟩)
        refine r_store (i := 358) (u := 5) (w := 0) (L1 := [some ((6, 0)), some ((2, 0)), some ((2, 43)), some ((2, 81)), some (vi i), some (vi z422), none]) rfl rfl rfl rfl ?_
        refine r_load (i := 359) (u := 2) (w := 2) rfl rfl rfl ?_
        refine r_load (i := 360) (u := 0) (w := 2) rfl rfl rfl ?_
        refine r_load (i := 361) (u := 4) (w := 0) rfl rfl rfl ?_
        refine r_const (i := 362) (u := 1) (z := 1) rfl rfl ?_
        refine r_iadd (i := 363) rfl ?_
        refine r_scA (i := 364) hG rfl (by omega) (by omega) fun h435 => ?_
        have h435 : Rg (sc (i + 1).toNat) := h435
        refine r_load (i := 365) (u := 0) (w := 2) rfl rfl rfl ?_
        refine r_load (i := 366) (u := 4) (w := 0) rfl rfl rfl ?_
        refine r_const (i := 367) (u := 2) (z := 2) rfl rfl ?_
        refine r_iadd (i := 368) rfl ?_
        refine r_scA (i := 369) hG rfl (by omega) (by omega) fun h436 => ?_
        have h436 : Rg (sc (i + 2).toNat) := h436
        refine r_i2l (i := 370) rfl ⟨by omega, by omega⟩ ?_
        refine r_const (i := 371) (u := 32) (z := 32) rfl rfl ?_
        refine r_lshl (i := 372) rfl ?_
        refine r_load (i := 373) (u := 0) (w := 2) rfl rfl rfl ?_
        refine r_load (i := 374) (u := 4) (w := 0) rfl rfl rfl ?_
        refine r_const (i := 375) (u := 3) (z := 3) rfl rfl ?_
        refine r_iadd (i := 376) rfl ?_
        refine r_scA (i := 377) hG rfl (by omega) (by omega) fun h437 => ?_
        have h437 : Rg (sc (i + 3).toNat) := h437
        refine r_i2l (i := 378) rfl ⟨by omega, by omega⟩ ?_
        refine r_lconst (i := 379) (u := 4294967295) (z := 4294967295) rfl rfl ?_
        refine r_land (i := 380) rfl ?_
        have h438 := @yland_c (sc (i + 3).toNat) 4294967295 (by decide) (by decide)
        refine r_lor (i := 381) rfl ?_
        have h439 := ylor_rl ((sc (i + 2).toNat) * 4294967296) (yland (sc (i + 3).toNat) 4294967295)
        refine r_call (i := 382) (u := 11) (v := 181) (w := 0) (b := 0) (na := 1539) (C2 := xC181) (as := [(2, 43), vi (sc (i + 1).toNat), vl (ylor ((sc (i + 2).toNat) * 4294967296) (yland (sc (i + 3).toNat) 4294967295))]) (s := []) rfl rfl rfl rfl rfl rfl rfl (sp181 (w0 := sc (i + 1).toNat) (v := ylor ((sc (i + 2).toNat) * 4294967296) (yland (sc (i + 3).toNat) 4294967295)) hI428 ⟨by omega, by omega⟩ ⟨by omega, by omega⟩   (by omega)) (fun r440 S441 hq442 => ?_)
        obtain ⟨rfl, hI443, hF444, hR445⟩ := hq442
        have e446 := RTx.fr e430 hF444 rfl rfl
        have e447 := RMex.fr e431 hF444 rfl rfl
        have e448 := RSx.fr e432 hF444 rfl rfl
        have e449 := RIx.fr e433 hF444 rfl rfl
        have e450 := RKx.fr e434 hF444 rfl rfl
        have e451 := N23x.fr e426 hF444 hR445 rfl rfl rfl
        have e452 := CRx.fr e427 hF444 rfl rfl
        have e453 := wRM_rm rm425 hR445
        refine Or.inl ⟨rfl, ?_⟩
        refine r_goto (i := 383) (v := 654) rfl ?_
        refine r_iinc (i := 654) (u := 10) (v := 4) (s := 10) (L1 := [some ((6, 0)), some ((2, 0)), some ((2, 43)), some ((2, 81)), some (vi (i + 10)), some (vi z422), none]) rfl rfl rfl rfl rfl ?_
        refine r_goto (i := 655) (v := 13) rfl ?_
        refine yT_drop (L1 := [some ((6, 0)), some ((2, 0)), some ((2, 43)), some ((2, 81)), some (vi (i + 10)), none, none]) rfl ?_
        exact ih S441 hI443 e451 e452 e446 e447 e448 e449 e450 (i + 10) ⟨by omega, by omega⟩ (by exact wRM_le e453 (by omega)) (by omega)
      · refine r_swK (i := 24) (u := 1) (v := 654) (k := 10) (t := 384) rfl rfl h15 (by decide) (by decide) rfl ?_
        refine r_load (i := 384) (u := 1) (w := 2) rfl rfl rfl ?_
        refine r_load (i := 385) (u := 0) (w := 2) rfl rfl rfl ?_
        refine r_load (i := 386) (u := 4) (w := 0) rfl rfl rfl ?_
        refine r_const (i := 387) (u := 1) (z := 1) rfl rfl ?_
        refine r_iadd (i := 388) rfl ?_
        refine r_scA (i := 389) hG rfl (by omega) (by omega) fun h454 => ?_
        have h454 : Rg (sc (i + 1).toNat) := h454
        refine r_load (i := 390) (u := 0) (w := 2) rfl rfl rfl ?_
        refine r_load (i := 391) (u := 4) (w := 0) rfl rfl rfl ?_
        refine r_const (i := 392) (u := 2) (z := 2) rfl rfl ?_
        refine r_iadd (i := 393) rfl ?_
        refine r_scA (i := 394) hG rfl (by omega) (by omega) fun h455 => ?_
        have h455 : Rg (sc (i + 2).toNat) := h455
        refine r_i2l (i := 395) rfl ⟨by omega, by omega⟩ ?_
        refine r_const (i := 396) (u := 32) (z := 32) rfl rfl ?_
        refine r_lshl (i := 397) rfl ?_
        refine r_load (i := 398) (u := 0) (w := 2) rfl rfl rfl ?_
        refine r_load (i := 399) (u := 4) (w := 0) rfl rfl rfl ?_
        refine r_const (i := 400) (u := 3) (z := 3) rfl rfl ?_
        refine r_iadd (i := 401) rfl ?_
        refine r_scA (i := 402) hG rfl (by omega) (by omega) fun h456 => ?_
        have h456 : Rg (sc (i + 3).toNat) := h456
        refine r_i2l (i := 403) rfl ⟨by omega, by omega⟩ ?_
        refine r_lconst (i := 404) (u := 4294967295) (z := 4294967295) rfl rfl ?_
        refine r_land (i := 405) rfl ?_
        have h457 := @yland_c (sc (i + 3).toNat) 4294967295 (by decide) (by decide)
        refine r_lor (i := 406) rfl ?_
        have h458 := ylor_rl ((sc (i + 2).toNat) * 4294967296) (yland (sc (i + 3).toNat) 4294967295)
        refine r_load (i := 407) (u := 0) (w := 2) rfl rfl rfl ?_
        refine r_load (i := 408) (u := 4) (w := 0) rfl rfl rfl ?_
        refine r_const (i := 409) (u := 4) (z := 4) rfl rfl ?_
        refine r_iadd (i := 410) rfl ?_
        refine r_scA (i := 411) hG rfl (by omega) (by omega) fun h459 => ?_
        have h459 : Rg (sc (i + 4).toNat) := h459
        refine r_i2l (i := 412) rfl ⟨by omega, by omega⟩ ?_
        refine r_const (i := 413) (u := 32) (z := 32) rfl rfl ?_
        refine r_lshl (i := 414) rfl ?_
        refine r_load (i := 415) (u := 0) (w := 2) rfl rfl rfl ?_
        refine r_load (i := 416) (u := 4) (w := 0) rfl rfl rfl ?_
        refine r_const (i := 417) (u := 5) (z := 5) rfl rfl ?_
        refine r_iadd (i := 418) rfl ?_
        refine r_scA (i := 419) hG rfl (by omega) (by omega) fun h460 => ?_
        have h460 : Rg (sc (i + 5).toNat) := h460
        refine r_i2l (i := 420) rfl ⟨by omega, by omega⟩ ?_
        refine r_lconst (i := 421) (u := 4294967295) (z := 4294967295) rfl rfl ?_
        refine r_land (i := 422) rfl ?_
        have h461 := @yland_c (sc (i + 5).toNat) 4294967295 (by decide) (by decide)
        refine r_lor (i := 423) rfl ?_
        have h462 := ylor_rl ((sc (i + 4).toNat) * 4294967296) (yland (sc (i + 5).toNat) 4294967295)
        refine r_load (i := 424) (u := 0) (w := 2) rfl rfl rfl ?_
        refine r_load (i := 425) (u := 4) (w := 0) rfl rfl rfl ?_
        refine r_const (i := 426) (u := 6) (z := 6) rfl rfl ?_
        refine r_iadd (i := 427) rfl ?_
        refine r_scA (i := 428) hG rfl (by omega) (by omega) fun h463 => ?_
        have h463 : Rg (sc (i + 6).toNat) := h463
        refine r_i2l (i := 429) rfl ⟨by omega, by omega⟩ ?_
        refine r_const (i := 430) (u := 32) (z := 32) rfl rfl ?_
        refine r_lshl (i := 431) rfl ?_
        refine r_load (i := 432) (u := 0) (w := 2) rfl rfl rfl ?_
        refine r_load (i := 433) (u := 4) (w := 0) rfl rfl rfl ?_
        refine r_const (i := 434) (u := 7) (z := 7) rfl rfl ?_
        refine r_iadd (i := 435) rfl ?_
        refine r_scA (i := 436) hG rfl (by omega) (by omega) fun h464 => ?_
        have h464 : Rg (sc (i + 7).toNat) := h464
        refine r_i2l (i := 437) rfl ⟨by omega, by omega⟩ ?_
        refine r_lconst (i := 438) (u := 4294967295) (z := 4294967295) rfl rfl ?_
        refine r_land (i := 439) rfl ?_
        have h465 := @yland_c (sc (i + 7).toNat) 4294967295 (by decide) (by decide)
        refine r_lor (i := 440) rfl ?_
        have h466 := ylor_rl ((sc (i + 6).toNat) * 4294967296) (yland (sc (i + 7).toNat) 4294967295)
        refine r_load (i := 441) (u := 0) (w := 2) rfl rfl rfl ?_
        refine r_load (i := 442) (u := 4) (w := 0) rfl rfl rfl ?_
        refine r_const (i := 443) (u := 8) (z := 8) rfl rfl ?_
        refine r_iadd (i := 444) rfl ?_
        refine r_scA (i := 445) hG rfl (by omega) (by omega) fun h467 => ?_
        have h467 : Rg (sc (i + 8).toNat) := h467
        refine r_i2l (i := 446) rfl ⟨by omega, by omega⟩ ?_
        refine r_const (i := 447) (u := 32) (z := 32) rfl rfl ?_
        refine r_lshl (i := 448) rfl ?_
        refine r_load (i := 449) (u := 0) (w := 2) rfl rfl rfl ?_
        refine r_load (i := 450) (u := 4) (w := 0) rfl rfl rfl ?_
        refine r_const (i := 451) (u := 9) (z := 9) rfl rfl ?_
        refine r_iadd (i := 452) rfl ?_
        refine r_scA (i := 453) hG rfl (by omega) (by omega) fun h468 => ?_
        have h468 : Rg (sc (i + 9).toNat) := h468
        refine r_i2l (i := 454) rfl ⟨by omega, by omega⟩ ?_
        refine r_lconst (i := 455) (u := 4294967295) (z := 4294967295) rfl rfl ?_
        refine r_land (i := 456) rfl ?_
        have h469 := @yland_c (sc (i + 9).toNat) 4294967295 (by decide) (by decide)
        refine r_lor (i := 457) rfl ?_
        have h470 := ylor_rl ((sc (i + 8).toNat) * 4294967296) (yland (sc (i + 9).toNat) 4294967295)
        refine r_load (i := 458) (u := 3) (w := 2) rfl rfl rfl ?_
        refine r_call (i := 459) (u := 65535) (v := 174) (w := 0) (b := 2) (na := 3079) (C2 := xC174) (as := [(2, 0), vi (sc (i + 1).toNat), vl (ylor ((sc (i + 2).toNat) * 4294967296) (yland (sc (i + 3).toNat) 4294967295)), vl (ylor ((sc (i + 4).toNat) * 4294967296) (yland (sc (i + 5).toNat) 4294967295)), vl (ylor ((sc (i + 6).toNat) * 4294967296) (yland (sc (i + 7).toNat) 4294967295)), vl (ylor ((sc (i + 8).toNat) * 4294967296) (yland (sc (i + 9).toNat) 4294967295)), (2, 81)]) (s := []) rfl rfl rfl rfl rfl rfl rfl (sp174 (p0 := sc (i + 1).toNat) (p1 := ylor ((sc (i + 2).toNat) * 4294967296) (yland (sc (i + 3).toNat) 4294967295)) (p2 := ylor ((sc (i + 4).toNat) * 4294967296) (yland (sc (i + 5).toNat) 4294967295)) (p3 := ylor ((sc (i + 6).toNat) * 4294967296) (yland (sc (i + 7).toNat) 4294967295)) (p4 := ylor ((sc (i + 8).toNat) * 4294967296) (yland (sc (i + 9).toNat) 4294967295)) (kR := 5199 - i) hI ⟨by omega, by omega⟩ ⟨by omega, by omega⟩ ⟨by omega, by omega⟩ ⟨by omega, by omega⟩ ⟨by omega, by omega⟩ (by exact wRM_le q_0 (by omega)) (by omega) e_N23 e_CR (by omega)) (fun r471 S472 hq473 => ?_)
        obtain ⟨z474, rfl, h475, h476, rm477, e478, e479, hI480, hF481⟩ := hq473
        have e482 := RTx.fr e_RT hF481 rfl rfl
        have e483 := RMex.fr e_RMe hF481 rfl rfl
        have e484 := RSx.fr e_RS hF481 rfl rfl
        have e485 := RIx.fr e_RI hF481 rfl rfl
        have e486 := RKx.fr e_RK hF481 rfl rfl
        refine Or.inr (Or.inl ⟨rfl, ?_⟩)
        refine r_store (i := 460) (u := 5) (w := 0) (L1 := [some ((6, 0)), some ((2, 0)), some ((2, 43)), some ((2, 81)), some (vi i), some (vi z474), none]) rfl rfl rfl rfl ?_
        refine r_load (i := 461) (u := 2) (w := 2) rfl rfl rfl ?_
        refine r_load (i := 462) (u := 0) (w := 2) rfl rfl rfl ?_
        refine r_load (i := 463) (u := 4) (w := 0) rfl rfl rfl ?_
        refine r_const (i := 464) (u := 1) (z := 1) rfl rfl ?_
        refine r_iadd (i := 465) rfl ?_
        refine r_scA (i := 466) hG rfl (by omega) (by omega) fun h487 => ?_
        have h487 : Rg (sc (i + 1).toNat) := h487
        refine r_load (i := 467) (u := 0) (w := 2) rfl rfl rfl ?_
        refine r_load (i := 468) (u := 4) (w := 0) rfl rfl rfl ?_
        refine r_const (i := 469) (u := 2) (z := 2) rfl rfl ?_
        refine r_iadd (i := 470) rfl ?_
        refine r_scA (i := 471) hG rfl (by omega) (by omega) fun h488 => ?_
        have h488 : Rg (sc (i + 2).toNat) := h488
        refine r_i2l (i := 472) rfl ⟨by omega, by omega⟩ ?_
        refine r_const (i := 473) (u := 32) (z := 32) rfl rfl ?_
        refine r_lshl (i := 474) rfl ?_
        refine r_load (i := 475) (u := 0) (w := 2) rfl rfl rfl ?_
        refine r_load (i := 476) (u := 4) (w := 0) rfl rfl rfl ?_
        refine r_const (i := 477) (u := 3) (z := 3) rfl rfl ?_
        refine r_iadd (i := 478) rfl ?_
        refine r_scA (i := 479) hG rfl (by omega) (by omega) fun h489 => ?_
        have h489 : Rg (sc (i + 3).toNat) := h489
        refine r_i2l (i := 480) rfl ⟨by omega, by omega⟩ ?_
        refine r_lconst (i := 481) (u := 4294967295) (z := 4294967295) rfl rfl ?_
        refine r_land (i := 482) rfl ?_
        have h490 := @yland_c (sc (i + 3).toNat) 4294967295 (by decide) (by decide)
        refine r_lor (i := 483) rfl ?_
        have h491 := ylor_rl ((sc (i + 2).toNat) * 4294967296) (yland (sc (i + 3).toNat) 4294967295)
        refine r_load (i := 484) (u := 0) (w := 2) rfl rfl rfl ?_
        refine r_load (i := 485) (u := 4) (w := 0) rfl rfl rfl ?_
        refine r_const (i := 486) (u := 4) (z := 4) rfl rfl ?_
        refine r_iadd (i := 487) rfl ?_
        refine r_scA (i := 488) hG rfl (by omega) (by omega) fun h492 => ?_
        have h492 : Rg (sc (i + 4).toNat) := h492
        refine r_i2l (i := 489) rfl ⟨by omega, by omega⟩ ?_
        refine r_const (i := 490) (u := 32) (z := 32) rfl rfl ?_
        refine r_lshl (i := 491) rfl ?_
        refine r_load (i := 492) (u := 0) (w := 2) rfl rfl rfl ?_
        refine r_load (i := 493) (u := 4) (w := 0) rfl rfl rfl ?_
        refine r_const (i := 494) (u := 5) (z := 5) rfl rfl ?_
        refine r_iadd (i := 495) rfl ?_
        refine r_scA (i := 496) hG rfl (by omega) (by omega) fun h493 => ?_
        have h493 : Rg (sc (i + 5).toNat) := h493
        refine r_i2l (i := 497) rfl ⟨by omega, by omega⟩ ?_
        refine r_lconst (i := 498) (u := 4294967295) (z := 4294967295) rfl rfl ?_
        refine r_land (i := 499) rfl ?_
        have h494 := @yland_c (sc (i + 5).toNat) 4294967295 (by decide) (by decide)
        refine r_lor (i := 500) rfl ?_
        have h495 := ylor_rl ((sc (i + 4).toNat) * 4294967296) (yland (sc (i + 5).toNat) 4294967295)
        refine r_load (i := 501) (u := 0) (w := 2) rfl rfl rfl ?_
        refine r_load (i := 502) (u := 4) (w := 0) rfl rfl rfl ?_
        refine r_const (i := 503) (u := 6) (z := 6) rfl rfl ?_
        refine r_iadd (i := 504) rfl ?_
        refine r_scA (i := 505) hG rfl (by omega) (by omega) fun h496 => ?_
        have h496 : Rg (sc (i + 6).toNat) := h496
        refine r_i2l (i := 506) rfl ⟨by omega, by omega⟩ ?_
        refine r_const (i := 507) (u := 32) (z := 32) rfl rfl ?_
        refine r_lshl (i := 508) rfl ?_
        refine r_load (i := 509) (u := 0) (w := 2) rfl rfl rfl ?_
        refine r_load (i := 510) (u := 4) (w := 0) rfl rfl rfl ?_
        refine r_const (i := 511) (u := 7) (z := 7) rfl rfl ?_
        refine r_iadd (i := 512) rfl ?_
        refine r_scA (i := 513) hG rfl (by omega) (by omega) fun h497 => ?_
        have h497 : Rg (sc (i + 7).toNat) := h497
        refine r_i2l (i := 514) rfl ⟨by omega, by omega⟩ ?_
        refine r_lconst (i := 515) (u := 4294967295) (z := 4294967295) rfl rfl ?_
        refine r_land (i := 516) rfl ?_
        have h498 := @yland_c (sc (i + 7).toNat) 4294967295 (by decide) (by decide)
        refine r_lor (i := 517) rfl ?_
        have h499 := ylor_rl ((sc (i + 6).toNat) * 4294967296) (yland (sc (i + 7).toNat) 4294967295)
        refine r_load (i := 518) (u := 0) (w := 2) rfl rfl rfl ?_
        refine r_load (i := 519) (u := 4) (w := 0) rfl rfl rfl ?_
        refine r_const (i := 520) (u := 8) (z := 8) rfl rfl ?_
        refine r_iadd (i := 521) rfl ?_
        refine r_scA (i := 522) hG rfl (by omega) (by omega) fun h500 => ?_
        have h500 : Rg (sc (i + 8).toNat) := h500
        refine r_i2l (i := 523) rfl ⟨by omega, by omega⟩ ?_
        refine r_const (i := 524) (u := 32) (z := 32) rfl rfl ?_
        refine r_lshl (i := 525) rfl ?_
        refine r_load (i := 526) (u := 0) (w := 2) rfl rfl rfl ?_
        refine r_load (i := 527) (u := 4) (w := 0) rfl rfl rfl ?_
        refine r_const (i := 528) (u := 9) (z := 9) rfl rfl ?_
        refine r_iadd (i := 529) rfl ?_
        refine r_scA (i := 530) hG rfl (by omega) (by omega) fun h501 => ?_
        have h501 : Rg (sc (i + 9).toNat) := h501
        refine r_i2l (i := 531) rfl ⟨by omega, by omega⟩ ?_
        refine r_lconst (i := 532) (u := 4294967295) (z := 4294967295) rfl rfl ?_
        refine r_land (i := 533) rfl ?_
        have h502 := @yland_c (sc (i + 9).toNat) 4294967295 (by decide) (by decide)
        refine r_lor (i := 534) rfl ?_
        have h503 := ylor_rl ((sc (i + 8).toNat) * 4294967296) (yland (sc (i + 9).toNat) 4294967295)
        refine r_call (i := 535) (u := 11) (v := 188) (w := 0) (b := 0) (na := 4102) (C2 := xC188) (as := [(2, 43), vi (sc (i + 1).toNat), vl (ylor ((sc (i + 2).toNat) * 4294967296) (yland (sc (i + 3).toNat) 4294967295)), vl (ylor ((sc (i + 4).toNat) * 4294967296) (yland (sc (i + 5).toNat) 4294967295)), vl (ylor ((sc (i + 6).toNat) * 4294967296) (yland (sc (i + 7).toNat) 4294967295)), vl (ylor ((sc (i + 8).toNat) * 4294967296) (yland (sc (i + 9).toNat) 4294967295))]) (s := []) rfl rfl rfl rfl rfl rfl rfl (sp188 (k := sc (i + 1).toNat) (a := ylor ((sc (i + 2).toNat) * 4294967296) (yland (sc (i + 3).toNat) 4294967295)) (b := ylor ((sc (i + 4).toNat) * 4294967296) (yland (sc (i + 5).toNat) 4294967295)) (c := ylor ((sc (i + 6).toNat) * 4294967296) (yland (sc (i + 7).toNat) 4294967295)) (e := ylor ((sc (i + 8).toNat) * 4294967296) (yland (sc (i + 9).toNat) 4294967295)) hI480 ⟨by omega, by omega⟩ ⟨by omega, by omega⟩ ⟨by omega, by omega⟩ ⟨by omega, by omega⟩ ⟨by omega, by omega⟩   (by omega)) (fun r504 S505 hq506 => ?_)
        obtain ⟨z507, rfl, h508, h509, hI510, hF511, hR512⟩ := hq506
        have e513 := RTx.fr e482 hF511 rfl rfl
        have e514 := RMex.fr e483 hF511 rfl rfl
        have e515 := RSx.fr e484 hF511 rfl rfl
        have e516 := RIx.fr e485 hF511 rfl rfl
        have e517 := RKx.fr e486 hF511 rfl rfl
        have e518 := N23x.fr e478 hF511 hR512 rfl rfl rfl
        have e519 := CRx.fr e479 hF511 rfl rfl
        have e520 := wRM_rm rm477 hR512
        refine Or.inr (Or.inl ⟨rfl, ?_⟩)
        refine r_store (i := 536) (u := 6) (w := 0) (L1 := [some ((6, 0)), some ((2, 0)), some ((2, 43)), some ((2, 81)), some (vi i), some (vi z474), some (vi z507)]) rfl rfl rfl rfl ?_
        refine r_goto (i := 537) (v := 654) rfl ?_
        refine r_iinc (i := 654) (u := 10) (v := 4) (s := 10) (L1 := [some ((6, 0)), some ((2, 0)), some ((2, 43)), some ((2, 81)), some (vi (i + 10)), some (vi z474), some (vi z507)]) rfl rfl rfl rfl rfl ?_
        refine r_goto (i := 655) (v := 13) rfl ?_
        refine yT_drop (L1 := [some ((6, 0)), some ((2, 0)), some ((2, 43)), some ((2, 81)), some (vi (i + 10)), none, none]) rfl ?_
        exact ih S505 hI510 e518 e519 e513 e514 e515 e516 e517 (i + 10) ⟨by omega, by omega⟩ (by exact wRM_le e520 (by omega)) (by omega)
      · refine r_swK (i := 24) (u := 1) (v := 654) (k := 11) (t := 538) rfl rfl h16 (by decide) (by decide) rfl ?_
        refine r_load (i := 538) (u := 1) (w := 2) rfl rfl rfl ?_
        refine r_call (i := 539) (u := 0) (v := 16) (w := 0) (b := 0) (na := 257) (C2 := xC16) (as := [(2, 0)]) (s := []) rfl rfl rfl rfl rfl rfl rfl (sp16  hI    (by omega)) (fun r521 S522 hq523 => ?_)
        obtain ⟨z524, rfl, h525, rfl⟩ := hq523
        refine Or.inr (Or.inl ⟨rfl, ?_⟩)
        refine r_pop2 (i := 540) rfl rfl ?_
        refine r_load (i := 541) (u := 2) (w := 2) rfl rfl rfl ?_
        refine r_call (i := 542) (u := 11) (v := 239) (w := 0) (b := 0) (na := 257) (C2 := xC239) (as := [(2, 43)]) (s := []) rfl rfl rfl rfl rfl rfl rfl (sp239  hI    (by omega)) (fun r526 S527 hq528 => ?_)
        obtain ⟨z529, rfl, h530, hI531, hF532, hR533⟩ := hq528
        have e534 := N23x.fr e_N23 hF532 hR533 rfl rfl rfl
        have e535 := CRx.fr e_CR hF532 rfl rfl
        have e536 := RTx.fr e_RT hF532 rfl rfl
        have e537 := RMex.fr e_RMe hF532 rfl rfl
        have e538 := RSx.fr e_RS hF532 rfl rfl
        have e539 := RIx.fr e_RI hF532 rfl rfl
        have e540 := RKx.fr e_RK hF532 rfl rfl
        have e541 := wRM_rm q_0 hR533
        refine Or.inr (Or.inl ⟨rfl, ?_⟩)
        refine r_pop2 (i := 543) rfl rfl ?_
        refine r_goto (i := 544) (v := 654) rfl ?_
        refine r_iinc (i := 654) (u := 10) (v := 4) (s := 10) (L1 := [some ((6, 0)), some ((2, 0)), some ((2, 43)), some ((2, 81)), some (vi (i + 10)), none, none]) rfl rfl rfl rfl rfl ?_
        refine r_goto (i := 655) (v := 13) rfl ?_
        exact ih S527 hI531 e534 e535 e536 e537 e538 e539 e540 (i + 10) ⟨by omega, by omega⟩ (by exact wRM_le e541 (by omega)) (by omega)
      · refine r_swK (i := 24) (u := 1) (v := 654) (k := 12) (t := 545) rfl rfl h17 (by decide) (by decide) rfl ?_
        refine r_load (i := 545) (u := 1) (w := 2) rfl rfl rfl ?_
        refine r_call (i := 546) (u := 0) (v := 3) (w := 0) (b := 0) (na := 257) (C2 := xC3) (as := [(2, 0)]) (s := []) rfl rfl rfl rfl rfl rfl rfl (sp3  hI    (by omega)) (fun r542 S543 hq544 => ?_)
        obtain ⟨z545, rfl, h546, h547, rfl⟩ := hq544
        refine Or.inr (Or.inl ⟨rfl, ?_⟩)
        refine r_pop (i := 547) rfl rfl ?_
        refine r_load (i := 548) (u := 2) (w := 2) rfl rfl rfl ?_
        refine r_call (i := 549) (u := 11) (v := 184) (w := 0) (b := 0) (na := 257) (C2 := xC184) (as := [(2, 43)]) (s := []) rfl rfl rfl rfl rfl rfl rfl (sp184  hI    (by omega)) (fun r548 S549 hq550 => ?_)
        obtain ⟨z551, rfl, h552, h553, hI554, hF555, hR556⟩ := hq550
        have e557 := N23x.fr e_N23 hF555 hR556 rfl rfl rfl
        have e558 := CRx.fr e_CR hF555 rfl rfl
        have e559 := RTx.fr e_RT hF555 rfl rfl
        have e560 := RMex.fr e_RMe hF555 rfl rfl
        have e561 := RSx.fr e_RS hF555 rfl rfl
        have e562 := RIx.fr e_RI hF555 rfl rfl
        have e563 := RKx.fr e_RK hF555 rfl rfl
        have e564 := wRM_rm q_0 hR556
        refine Or.inr (Or.inl ⟨rfl, ?_⟩)
        refine r_pop (i := 550) rfl rfl ?_
        refine r_goto (i := 551) (v := 654) rfl ?_
        refine r_iinc (i := 654) (u := 10) (v := 4) (s := 10) (L1 := [some ((6, 0)), some ((2, 0)), some ((2, 43)), some ((2, 81)), some (vi (i + 10)), none, none]) rfl rfl rfl rfl rfl ?_
        refine r_goto (i := 655) (v := 13) rfl ?_
        exact ih S549 hI554 e557 e558 e559 e560 e561 e562 e563 (i + 10) ⟨by omega, by omega⟩ (by exact wRM_le e564 (by omega)) (by omega)
      · refine r_swK (i := 24) (u := 1) (v := 654) (k := 13) (t := 552) rfl rfl h18 (by decide) (by decide) rfl ?_
        refine r_load (i := 552) (u := 1) (w := 2) rfl rfl rfl ?_
        refine r_load (i := 553) (u := 0) (w := 2) rfl rfl rfl ?_
        refine r_load (i := 554) (u := 4) (w := 0) rfl rfl rfl ?_
        refine r_const (i := 555) (u := 1) (z := 1) rfl rfl ?_
        refine r_iadd (i := 556) rfl ?_
        refine r_scA (i := 557) hG rfl (by omega) (by omega) fun h565 => ?_
        have h565 : Rg (sc (i + 1).toNat) := h565
        refine r_load (i := 558) (u := 0) (w := 2) rfl rfl rfl ?_
        refine r_load (i := 559) (u := 4) (w := 0) rfl rfl rfl ?_
        refine r_const (i := 560) (u := 2) (z := 2) rfl rfl ?_
        refine r_iadd (i := 561) rfl ?_
        refine r_scA (i := 562) hG rfl (by omega) (by omega) fun h566 => ?_
        have h566 : Rg (sc (i + 2).toNat) := h566
        refine r_call (i := 563) (u := 0) (v := 9) (w := 0) (b := 0) (na := 771) (C2 := xC9) (as := [(2, 0), vi (sc (i + 1).toNat), vi (sc (i + 2).toNat)]) (s := []) rfl rfl rfl rfl rfl rfl rfl (sp9 (i0 := sc (i + 1).toNat) (w0 := sc (i + 2).toNat) hI ⟨by omega, by omega⟩ ⟨by omega, by omega⟩   (by omega)) (fun r567 S568 hq569 => ?_)
        obtain ⟨z570, rfl, h571, rfl⟩ := hq569
        refine Or.inr (Or.inl ⟨rfl, ?_⟩)
        refine r_pop2 (i := 564) rfl rfl ?_
        refine r_load (i := 565) (u := 2) (w := 2) rfl rfl rfl ?_
        refine r_load (i := 566) (u := 0) (w := 2) rfl rfl rfl ?_
        refine r_load (i := 567) (u := 4) (w := 0) rfl rfl rfl ?_
        refine r_const (i := 568) (u := 1) (z := 1) rfl rfl ?_
        refine r_iadd (i := 569) rfl ?_
        refine r_scA (i := 570) hG rfl (by omega) (by omega) fun h572 => ?_
        have h572 : Rg (sc (i + 1).toNat) := h572
        refine r_load (i := 571) (u := 0) (w := 2) rfl rfl rfl ?_
        refine r_load (i := 572) (u := 4) (w := 0) rfl rfl rfl ?_
        refine r_const (i := 573) (u := 2) (z := 2) rfl rfl ?_
        refine r_iadd (i := 574) rfl ?_
        refine r_scA (i := 575) hG rfl (by omega) (by omega) fun h573 => ?_
        have h573 : Rg (sc (i + 2).toNat) := h573
        refine r_call (i := 576) (u := 11) (v := 205) (w := 0) (b := 0) (na := 771) (C2 := xC205) (as := [(2, 43), vi (sc (i + 1).toNat), vi (sc (i + 2).toNat)]) (s := []) rfl rfl rfl rfl rfl rfl rfl (sp205 (i0 := sc (i + 1).toNat) (w0 := sc (i + 2).toNat) hI ⟨by omega, by omega⟩ ⟨by omega, by omega⟩   (by omega)) (fun r574 S575 hq576 => ?_)
        obtain ⟨z577, rfl, h578, hI579, hF580, hR581⟩ := hq576
        have e582 := N23x.fr e_N23 hF580 hR581 rfl rfl rfl
        have e583 := CRx.fr e_CR hF580 rfl rfl
        have e584 := RTx.fr e_RT hF580 rfl rfl
        have e585 := RMex.fr e_RMe hF580 rfl rfl
        have e586 := RSx.fr e_RS hF580 rfl rfl
        have e587 := RIx.fr e_RI hF580 rfl rfl
        have e588 := RKx.fr e_RK hF580 rfl rfl
        have e589 := wRM_rm q_0 hR581
        refine Or.inr (Or.inl ⟨rfl, ?_⟩)
        refine r_pop2 (i := 577) rfl rfl ?_
        refine r_goto (i := 578) (v := 654) rfl ?_
        refine r_iinc (i := 654) (u := 10) (v := 4) (s := 10) (L1 := [some ((6, 0)), some ((2, 0)), some ((2, 43)), some ((2, 81)), some (vi (i + 10)), none, none]) rfl rfl rfl rfl rfl ?_
        refine r_goto (i := 655) (v := 13) rfl ?_
        exact ih S575 hI579 e582 e583 e584 e585 e586 e587 e588 (i + 10) ⟨by omega, by omega⟩ (by exact wRM_le e589 (by omega)) (by omega)
      · refine r_swK (i := 24) (u := 1) (v := 654) (k := 14) (t := 579) rfl rfl h19 (by decide) (by decide) rfl ?_
        refine r_load (i := 579) (u := 1) (w := 2) rfl rfl rfl ?_
        refine r_call (i := 580) (u := 0) (v := 17) (w := 0) (b := 0) (na := 257) (C2 := xC17) (as := [(2, 0)]) (s := []) rfl rfl rfl rfl rfl rfl rfl (sp17  hI    (by omega)) (fun r590 S591 hq592 => ?_)
        obtain ⟨z593, rfl, h594, h595, rfl⟩ := hq592
        refine Or.inr (Or.inl ⟨rfl, ?_⟩)
        refine r_pop (i := 581) rfl rfl ?_
        refine r_load (i := 582) (u := 2) (w := 2) rfl rfl rfl ?_
        refine r_call (i := 583) (u := 11) (v := 242) (w := 0) (b := 0) (na := 257) (C2 := xC242) (as := [(2, 43)]) (s := []) rfl rfl rfl rfl rfl rfl rfl (sp242  hI    (by omega)) (fun r596 S597 hq598 => ?_)
        obtain ⟨z599, rfl, h600, h601, hI602, hF603, hR604⟩ := hq598
        have e605 := N23x.fr e_N23 hF603 hR604 rfl rfl rfl
        have e606 := CRx.fr e_CR hF603 rfl rfl
        have e607 := RTx.fr e_RT hF603 rfl rfl
        have e608 := RMex.fr e_RMe hF603 rfl rfl
        have e609 := RSx.fr e_RS hF603 rfl rfl
        have e610 := RIx.fr e_RI hF603 rfl rfl
        have e611 := RKx.fr e_RK hF603 rfl rfl
        have e612 := wRM_rm q_0 hR604
        refine Or.inr (Or.inl ⟨rfl, ?_⟩)
        refine r_pop (i := 584) rfl rfl ?_
        refine r_goto (i := 585) (v := 654) rfl ?_
        refine r_iinc (i := 654) (u := 10) (v := 4) (s := 10) (L1 := [some ((6, 0)), some ((2, 0)), some ((2, 43)), some ((2, 81)), some (vi (i + 10)), none, none]) rfl rfl rfl rfl rfl ?_
        refine r_goto (i := 655) (v := 13) rfl ?_
        exact ih S597 hI602 e605 e606 e607 e608 e609 e610 e611 (i + 10) ⟨by omega, by omega⟩ (by exact wRM_le e612 (by omega)) (by omega)
      · refine r_swK (i := 24) (u := 1) (v := 654) (k := 15) (t := 586) rfl rfl h20 (by decide) (by decide) rfl ?_
        refine r_load (i := 586) (u := 1) (w := 2) rfl rfl rfl ?_
        refine r_load (i := 587) (u := 0) (w := 2) rfl rfl rfl ?_
        refine r_load (i := 588) (u := 4) (w := 0) rfl rfl rfl ?_
        refine r_const (i := 589) (u := 1) (z := 1) rfl rfl ?_
        refine r_iadd (i := 590) rfl ?_
        refine r_scA (i := 591) hG rfl (by omega) (by omega) fun h613 => ?_
        have h613 : Rg (sc (i + 1).toNat) := h613
        refine r_call (i := 592) (u := 0) (v := 4) (w := 0) (b := 0) (na := 514) (C2 := xC4) (as := [(2, 0), vi (sc (i + 1).toNat)]) (s := []) rfl rfl rfl rfl rfl rfl rfl (sp4 (k := sc (i + 1).toNat) hI ⟨by omega, by omega⟩   (by omega)) (fun r614 S615 hq616 => ?_)
        obtain ⟨z617, rfl, h618, h619, rfl⟩ := hq616
        refine Or.inr (Or.inl ⟨rfl, ?_⟩)
        refine r_pop (i := 593) rfl rfl ?_
        refine r_load (i := 594) (u := 2) (w := 2) rfl rfl rfl ?_
        refine r_load (i := 595) (u := 0) (w := 2) rfl rfl rfl ?_
        refine r_load (i := 596) (u := 4) (w := 0) rfl rfl rfl ?_
        refine r_const (i := 597) (u := 1) (z := 1) rfl rfl ?_
        refine r_iadd (i := 598) rfl ?_
        refine r_scA (i := 599) hG rfl (by omega) (by omega) fun h620 => ?_
        have h620 : Rg (sc (i + 1).toNat) := h620
        refine r_call (i := 600) (u := 11) (v := 187) (w := 0) (b := 0) (na := 514) (C2 := xC187) (as := [(2, 43), vi (sc (i + 1).toNat)]) (s := []) rfl rfl rfl rfl rfl rfl rfl (sp187 (k := sc (i + 1).toNat) hI ⟨by omega, by omega⟩   (by omega)) (fun r621 S622 hq623 => ?_)
        obtain ⟨z624, rfl, h625, h626, hI627, hF628, hR629⟩ := hq623
        have e630 := N23x.fr e_N23 hF628 hR629 rfl rfl rfl
        have e631 := CRx.fr e_CR hF628 rfl rfl
        have e632 := RTx.fr e_RT hF628 rfl rfl
        have e633 := RMex.fr e_RMe hF628 rfl rfl
        have e634 := RSx.fr e_RS hF628 rfl rfl
        have e635 := RIx.fr e_RI hF628 rfl rfl
        have e636 := RKx.fr e_RK hF628 rfl rfl
        have e637 := wRM_rm q_0 hR629
        refine Or.inr (Or.inl ⟨rfl, ?_⟩)
        refine r_pop (i := 601) rfl rfl ?_
        refine r_goto (i := 602) (v := 654) rfl ?_
        refine r_iinc (i := 654) (u := 10) (v := 4) (s := 10) (L1 := [some ((6, 0)), some ((2, 0)), some ((2, 43)), some ((2, 81)), some (vi (i + 10)), none, none]) rfl rfl rfl rfl rfl ?_
        refine r_goto (i := 655) (v := 13) rfl ?_
        exact ih S622 hI627 e630 e631 e632 e633 e634 e635 e636 (i + 10) ⟨by omega, by omega⟩ (by exact wRM_le e637 (by omega)) (by omega)
      · refine r_swK (i := 24) (u := 1) (v := 654) (k := 16) (t := 603) rfl rfl h21 (by decide) (by decide) rfl ?_
        refine r_load (i := 603) (u := 1) (w := 2) rfl rfl rfl ?_
        refine r_load (i := 604) (u := 0) (w := 2) rfl rfl rfl ?_
        refine r_load (i := 605) (u := 4) (w := 0) rfl rfl rfl ?_
        refine r_const (i := 606) (u := 1) (z := 1) rfl rfl ?_
        refine r_iadd (i := 607) rfl ?_
        refine r_scA (i := 608) hG rfl (by omega) (by omega) fun h638 => ?_
        have h638 : Rg (sc (i + 1).toNat) := h638
        refine r_load (i := 609) (u := 0) (w := 2) rfl rfl rfl ?_
        refine r_load (i := 610) (u := 4) (w := 0) rfl rfl rfl ?_
        refine r_const (i := 611) (u := 2) (z := 2) rfl rfl ?_
        refine r_iadd (i := 612) rfl ?_
        refine r_scA (i := 613) hG rfl (by omega) (by omega) fun h639 => ?_
        have h639 : Rg (sc (i + 2).toNat) := h639
        refine r_call (i := 614) (u := 0) (v := 6) (w := 0) (b := 0) (na := 771) (C2 := xC6) (as := [(2, 0), vi (sc (i + 1).toNat), vi (sc (i + 2).toNat)]) (s := []) rfl rfl rfl rfl rfl rfl rfl (sp6 (k := sc (i + 1).toNat) (b := sc (i + 2).toNat) hI ⟨by omega, by omega⟩ ⟨by omega, by omega⟩   (by omega)) (fun r640 S641 hq642 => ?_)
        obtain ⟨z643, rfl, h644, h645, hI646, hF647, hR648⟩ := hq642
        have e649 := N23x.fr e_N23 hF647 hR648 rfl rfl rfl
        have e650 := CRx.fr e_CR hF647 rfl rfl
        have e651 := RTx.fr e_RT hF647 rfl rfl
        have e652 := RMex.fr e_RMe hF647 rfl rfl
        have e653 := RSx.fr e_RS hF647 rfl rfl
        have e654 := RIx.fr e_RI hF647 rfl rfl
        have e655 := RKx.fr e_RK hF647 rfl rfl
        have e656 := wRM_rm q_0 hR648
        refine Or.inr (Or.inl ⟨rfl, ?_⟩)
        refine r_pop (i := 615) rfl rfl ?_
        refine r_load (i := 616) (u := 2) (w := 2) rfl rfl rfl ?_
        refine r_load (i := 617) (u := 0) (w := 2) rfl rfl rfl ?_
        refine r_load (i := 618) (u := 4) (w := 0) rfl rfl rfl ?_
        refine r_const (i := 619) (u := 1) (z := 1) rfl rfl ?_
        refine r_iadd (i := 620) rfl ?_
        refine r_scA (i := 621) hG rfl (by omega) (by omega) fun h657 => ?_
        have h657 : Rg (sc (i + 1).toNat) := h657
        refine r_load (i := 622) (u := 0) (w := 2) rfl rfl rfl ?_
        refine r_load (i := 623) (u := 4) (w := 0) rfl rfl rfl ?_
        refine r_const (i := 624) (u := 2) (z := 2) rfl rfl ?_
        refine r_iadd (i := 625) rfl ?_
        refine r_scA (i := 626) hG rfl (by omega) (by omega) fun h658 => ?_
        have h658 : Rg (sc (i + 2).toNat) := h658
        refine r_call (i := 627) (u := 11) (v := 191) (w := 0) (b := 0) (na := 771) (C2 := xC191) (as := [(2, 43), vi (sc (i + 1).toNat), vi (sc (i + 2).toNat)]) (s := []) rfl rfl rfl rfl rfl rfl rfl (sp191 (k := sc (i + 1).toNat) (b := sc (i + 2).toNat) hI646 ⟨by omega, by omega⟩ ⟨by omega, by omega⟩   (by omega)) (fun r659 S660 hq661 => ?_)
        obtain ⟨z662, rfl, h663, h664, hI665, hF666, hR667⟩ := hq661
        have e668 := N23x.fr e649 hF666 hR667 rfl rfl rfl
        have e669 := CRx.fr e650 hF666 rfl rfl
        have e670 := RTx.fr e651 hF666 rfl rfl
        have e671 := RMex.fr e652 hF666 rfl rfl
        have e672 := RSx.fr e653 hF666 rfl rfl
        have e673 := RIx.fr e654 hF666 rfl rfl
        have e674 := RKx.fr e655 hF666 rfl rfl
        have e675 := wRM_rm e656 hR667
        refine Or.inr (Or.inl ⟨rfl, ?_⟩)
        refine r_pop (i := 628) rfl rfl ?_
        refine r_goto (i := 629) (v := 654) rfl ?_
        refine r_iinc (i := 654) (u := 10) (v := 4) (s := 10) (L1 := [some ((6, 0)), some ((2, 0)), some ((2, 43)), some ((2, 81)), some (vi (i + 10)), none, none]) rfl rfl rfl rfl rfl ?_
        refine r_goto (i := 655) (v := 13) rfl ?_
        exact ih S660 hI665 e668 e669 e670 e671 e672 e673 e674 (i + 10) ⟨by omega, by omega⟩ (by exact wRM_le e675 (by omega)) (by omega)
      · refine r_swK (i := 24) (u := 1) (v := 654) (k := 17) (t := 630) rfl rfl h22 (by decide) (by decide) rfl ?_
        refine r_load (i := 630) (u := 1) (w := 2) rfl rfl rfl ?_
        refine r_load (i := 631) (u := 0) (w := 2) rfl rfl rfl ?_
        refine r_load (i := 632) (u := 4) (w := 0) rfl rfl rfl ?_
        refine r_const (i := 633) (u := 1) (z := 1) rfl rfl ?_
        refine r_iadd (i := 634) rfl ?_
        refine r_scA (i := 635) hG rfl (by omega) (by omega) fun h676 => ?_
        have h676 : Rg (sc (i + 1).toNat) := h676
        refine r_call (i := 636) (u := 0) (v := 7) (w := 0) (b := 0) (na := 514) (C2 := xC7) (as := [(2, 0), vi (sc (i + 1).toNat)]) (s := []) rfl rfl rfl rfl rfl rfl rfl (sp7 (k := sc (i + 1).toNat) hI ⟨by omega, by omega⟩   (by omega)) (fun r677 S678 hq679 => ?_)
        obtain ⟨z680, rfl, h681, h682, hI683, hF684, hR685⟩ := hq679
        have e686 := N23x.fr e_N23 hF684 hR685 rfl rfl rfl
        have e687 := CRx.fr e_CR hF684 rfl rfl
        have e688 := RTx.fr e_RT hF684 rfl rfl
        have e689 := RMex.fr e_RMe hF684 rfl rfl
        have e690 := RSx.fr e_RS hF684 rfl rfl
        have e691 := RIx.fr e_RI hF684 rfl rfl
        have e692 := RKx.fr e_RK hF684 rfl rfl
        have e693 := wRM_rm q_0 hR685
        refine Or.inr (Or.inl ⟨rfl, ?_⟩)
        refine r_pop (i := 637) rfl rfl ?_
        refine r_load (i := 638) (u := 2) (w := 2) rfl rfl rfl ?_
        refine r_load (i := 639) (u := 0) (w := 2) rfl rfl rfl ?_
        refine r_load (i := 640) (u := 4) (w := 0) rfl rfl rfl ?_
        refine r_const (i := 641) (u := 1) (z := 1) rfl rfl ?_
        refine r_iadd (i := 642) rfl ?_
        refine r_scA (i := 643) hG rfl (by omega) (by omega) fun h694 => ?_
        have h694 : Rg (sc (i + 1).toNat) := h694
        refine r_call (i := 644) (u := 11) (v := 197) (w := 0) (b := 0) (na := 514) (C2 := xC197) (as := [(2, 43), vi (sc (i + 1).toNat)]) (s := []) rfl rfl rfl rfl rfl rfl rfl (sp197 (k := sc (i + 1).toNat) hI683 ⟨by omega, by omega⟩   (by omega)) (fun r695 S696 hq697 => ?_)
        obtain ⟨z698, rfl, h699, h700, hI701, hF702, hR703⟩ := hq697
        have e704 := N23x.fr e686 hF702 hR703 rfl rfl rfl
        have e705 := CRx.fr e687 hF702 rfl rfl
        have e706 := RTx.fr e688 hF702 rfl rfl
        have e707 := RMex.fr e689 hF702 rfl rfl
        have e708 := RSx.fr e690 hF702 rfl rfl
        have e709 := RIx.fr e691 hF702 rfl rfl
        have e710 := RKx.fr e692 hF702 rfl rfl
        have e711 := wRM_rm e693 hR703
        refine Or.inr (Or.inl ⟨rfl, ?_⟩)
        refine r_pop (i := 645) rfl rfl ?_
        refine r_goto (i := 646) (v := 654) rfl ?_
        refine r_iinc (i := 654) (u := 10) (v := 4) (s := 10) (L1 := [some ((6, 0)), some ((2, 0)), some ((2, 43)), some ((2, 81)), some (vi (i + 10)), none, none]) rfl rfl rfl rfl rfl ?_
        refine r_goto (i := 655) (v := 13) rfl ?_
        exact ih S696 hI701 e704 e705 e706 e707 e708 e709 e710 (i + 10) ⟨by omega, by omega⟩ (by exact wRM_le e711 (by omega)) (by omega)
      · refine r_swK (i := 24) (u := 1) (v := 654) (k := 18) (t := 647) rfl rfl h23 (by decide) (by decide) rfl ?_
        refine r_load (i := 647) (u := 1) (w := 2) rfl rfl rfl ?_
        refine r_call (i := 648) (u := 0) (v := 15) (w := 0) (b := 0) (na := 257) (C2 := xC15) (as := [(2, 0)]) (s := []) rfl rfl rfl rfl rfl rfl rfl (sp15  hI    (by omega)) (fun r712 S713 hq714 => ?_)
        obtain ⟨z715, rfl, h716, h717, hI718, hF719, hR720⟩ := hq714
        have e721 := N23x.fr e_N23 hF719 hR720 rfl rfl rfl
        have e722 := CRx.fr e_CR hF719 rfl rfl
        have e723 := RTx.fr e_RT hF719 rfl rfl
        have e724 := RMex.fr e_RMe hF719 rfl rfl
        have e725 := RSx.fr e_RS hF719 rfl rfl
        have e726 := RIx.fr e_RI hF719 rfl rfl
        have e727 := RKx.fr e_RK hF719 rfl rfl
        have e728 := wRM_rm q_0 hR720
        refine Or.inr (Or.inl ⟨rfl, ?_⟩)
        refine r_pop (i := 649) rfl rfl ?_
        refine r_load (i := 650) (u := 2) (w := 2) rfl rfl rfl ?_
        refine r_call (i := 651) (u := 11) (v := 235) (w := 0) (b := 0) (na := 1025) (C2 := xC235) (as := [(2, 43)]) (s := []) rfl rfl rfl rfl rfl rfl rfl (sp235  hI718    (by omega)) (fun r729 S730 hq731 => ?_)
        obtain ⟨z732, rfl, h733, h734, hI735, hF736, hR737⟩ := hq731
        have e738 := N23x.fr e721 hF736 hR737 rfl rfl rfl
        have e739 := CRx.fr e722 hF736 rfl rfl
        have e740 := RTx.fr e723 hF736 rfl rfl
        have e741 := RMex.fr e724 hF736 rfl rfl
        have e742 := RSx.fr e725 hF736 rfl rfl
        have e743 := RIx.fr e726 hF736 rfl rfl
        have e744 := RKx.fr e727 hF736 rfl rfl
        have e745 := wRM_rm e728 hR737
        refine Or.inr (Or.inl ⟨rfl, ?_⟩)
        refine r_pop (i := 652) rfl rfl ?_
        refine r_goto (i := 653) (v := 654) rfl ?_
        refine r_iinc (i := 654) (u := 10) (v := 4) (s := 10) (L1 := [some ((6, 0)), some ((2, 0)), some ((2, 43)), some ((2, 81)), some (vi (i + 10)), none, none]) rfl rfl rfl rfl rfl ?_
        refine r_goto (i := 655) (v := 13) rfl ?_
        exact ih S730 hI735 e738 e739 e740 e741 e742 e743 e744 (i + 10) ⟨by omega, by omega⟩ (by exact wRM_le e745 (by omega)) (by omega)
      · refine r_swK (i := 24) (u := 1) (v := 654) (k := 19) (t := 654) rfl rfl h24 (by decide) (by decide) rfl ?_
        refine r_iinc (i := 654) (u := 10) (v := 4) (s := 10) (L1 := [some ((6, 0)), some ((2, 0)), some ((2, 43)), some ((2, 81)), some (vi (i + 10)), none, none]) rfl rfl rfl rfl rfl ?_
        refine r_goto (i := 655) (v := 13) rfl ?_
        exact ih S hI e_N23 e_CR e_RT e_RMe e_RS e_RI e_RK (i + 10) ⟨by omega, by omega⟩ (by exact wRM_le q_0 (by omega)) (by omega)
      · refine r_swK (i := 24) (u := 1) (v := 654) (k := 20) (t := 654) rfl rfl h25 (by decide) (by decide) rfl ?_
        refine r_iinc (i := 654) (u := 10) (v := 4) (s := 10) (L1 := [some ((6, 0)), some ((2, 0)), some ((2, 43)), some ((2, 81)), some (vi (i + 10)), none, none]) rfl rfl rfl rfl rfl ?_
        refine r_goto (i := 655) (v := 13) rfl ?_
        exact ih S hI e_N23 e_CR e_RT e_RMe e_RS e_RI e_RK (i + 10) ⟨by omega, by omega⟩ (by exact wRM_le q_0 (by omega)) (by omega)
      · refine r_swK (i := 24) (u := 1) (v := 654) (k := 21) (t := 654) rfl rfl h26 (by decide) (by decide) rfl ?_
        refine r_iinc (i := 654) (u := 10) (v := 4) (s := 10) (L1 := [some ((6, 0)), some ((2, 0)), some ((2, 43)), some ((2, 81)), some (vi (i + 10)), none, none]) rfl rfl rfl rfl rfl ?_
        refine r_goto (i := 655) (v := 13) rfl ?_
        exact ih S hI e_N23 e_CR e_RT e_RMe e_RS e_RI e_RK (i + 10) ⟨by omega, by omega⟩ (by exact wRM_le q_0 (by omega)) (by omega)
      · refine r_swK (i := 24) (u := 1) (v := 654) (k := 22) (t := 654) rfl rfl h27 (by decide) (by decide) rfl ?_
        refine r_iinc (i := 654) (u := 10) (v := 4) (s := 10) (L1 := [some ((6, 0)), some ((2, 0)), some ((2, 43)), some ((2, 81)), some (vi (i + 10)), none, none]) rfl rfl rfl rfl rfl ?_
        refine r_goto (i := 655) (v := 13) rfl ?_
        exact ih S hI e_N23 e_CR e_RT e_RMe e_RS e_RI e_RK (i + 10) ⟨by omega, by omega⟩ (by exact wRM_le q_0 (by omega)) (by omega)
      · refine r_swK (i := 24) (u := 1) (v := 654) (k := 23) (t := 654) rfl rfl h28 (by decide) (by decide) rfl ?_
        refine r_iinc (i := 654) (u := 10) (v := 4) (s := 10) (L1 := [some ((6, 0)), some ((2, 0)), some ((2, 43)), some ((2, 81)), some (vi (i + 10)), none, none]) rfl rfl rfl rfl rfl ?_
        refine r_goto (i := 655) (v := 13) rfl ?_
        exact ih S hI e_N23 e_CR e_RT e_RMe e_RS e_RI e_RK (i + 10) ⟨by omega, by omega⟩ (by exact wRM_le q_0 (by omega)) (by omega)
      · refine r_swK (i := 24) (u := 1) (v := 654) (k := 24) (t := 654) rfl rfl h29 (by decide) (by decide) rfl ?_
        refine r_iinc (i := 654) (u := 10) (v := 4) (s := 10) (L1 := [some ((6, 0)), some ((2, 0)), some ((2, 43)), some ((2, 81)), some (vi (i + 10)), none, none]) rfl rfl rfl rfl rfl ?_
        refine r_goto (i := 655) (v := 13) rfl ?_
        exact ih S hI e_N23 e_CR e_RT e_RMe e_RS e_RI e_RK (i + 10) ⟨by omega, by omega⟩ (by exact wRM_le q_0 (by omega)) (by omega)
      · refine r_swK (i := 24) (u := 1) (v := 654) (k := 25) (t := 654) rfl rfl h30 (by decide) (by decide) rfl ?_
        refine r_iinc (i := 654) (u := 10) (v := 4) (s := 10) (L1 := [some ((6, 0)), some ((2, 0)), some ((2, 43)), some ((2, 81)), some (vi (i + 10)), none, none]) rfl rfl rfl rfl rfl ?_
        refine r_goto (i := 655) (v := 13) rfl ?_
        exact ih S hI e_N23 e_CR e_RT e_RMe e_RS e_RI e_RK (i + 10) ⟨by omega, by omega⟩ (by exact wRM_le q_0 (by omega)) (by omega)
      · refine r_swK (i := 24) (u := 1) (v := 654) (k := 26) (t := 654) rfl rfl h31 (by decide) (by decide) rfl ?_
        refine r_iinc (i := 654) (u := 10) (v := 4) (s := 10) (L1 := [some ((6, 0)), some ((2, 0)), some ((2, 43)), some ((2, 81)), some (vi (i + 10)), none, none]) rfl rfl rfl rfl rfl ?_
        refine r_goto (i := 655) (v := 13) rfl ?_
        exact ih S hI e_N23 e_CR e_RT e_RMe e_RS e_RI e_RK (i + 10) ⟨by omega, by omega⟩ (by exact wRM_le q_0 (by omega)) (by omega)
      · refine r_swK (i := 24) (u := 1) (v := 654) (k := 27) (t := 654) rfl rfl h32 (by decide) (by decide) rfl ?_
        refine r_iinc (i := 654) (u := 10) (v := 4) (s := 10) (L1 := [some ((6, 0)), some ((2, 0)), some ((2, 43)), some ((2, 81)), some (vi (i + 10)), none, none]) rfl rfl rfl rfl rfl ?_
        refine r_goto (i := 655) (v := 13) rfl ?_
        exact ih S hI e_N23 e_CR e_RT e_RMe e_RS e_RI e_RK (i + 10) ⟨by omega, by omega⟩ (by exact wRM_le q_0 (by omega)) (by omega)
      · refine r_swK (i := 24) (u := 1) (v := 654) (k := 28) (t := 654) rfl rfl h33 (by decide) (by decide) rfl ?_
        refine r_iinc (i := 654) (u := 10) (v := 4) (s := 10) (L1 := [some ((6, 0)), some ((2, 0)), some ((2, 43)), some ((2, 81)), some (vi (i + 10)), none, none]) rfl rfl rfl rfl rfl ?_
        refine r_goto (i := 655) (v := 13) rfl ?_
        exact ih S hI e_N23 e_CR e_RT e_RMe e_RS e_RI e_RK (i + 10) ⟨by omega, by omega⟩ (by exact wRM_le q_0 (by omega)) (by omega)
      · refine r_swK (i := 24) (u := 1) (v := 654) (k := 29) (t := 654) rfl rfl h34 (by decide) (by decide) rfl ?_
        refine r_iinc (i := 654) (u := 10) (v := 4) (s := 10) (L1 := [some ((6, 0)), some ((2, 0)), some ((2, 43)), some ((2, 81)), some (vi (i + 10)), none, none]) rfl rfl rfl rfl rfl ?_
        refine r_goto (i := 655) (v := 13) rfl ?_
        exact ih S hI e_N23 e_CR e_RT e_RMe e_RS e_RI e_RK (i + 10) ⟨by omega, by omega⟩ (by exact wRM_le q_0 (by omega)) (by omega)
      · refine r_swK (i := 24) (u := 1) (v := 654) (k := 30) (t := 654) rfl rfl h35 (by decide) (by decide) rfl ?_
        refine r_iinc (i := 654) (u := 10) (v := 4) (s := 10) (L1 := [some ((6, 0)), some ((2, 0)), some ((2, 43)), some ((2, 81)), some (vi (i + 10)), none, none]) rfl rfl rfl rfl rfl ?_
        refine r_goto (i := 655) (v := 13) rfl ?_
        exact ih S hI e_N23 e_CR e_RT e_RMe e_RS e_RI e_RK (i + 10) ⟨by omega, by omega⟩ (by exact wRM_le q_0 (by omega)) (by omega)
      · refine r_swK (i := 24) (u := 1) (v := 654) (k := 31) (t := 654) rfl rfl h36 (by decide) (by decide) rfl ?_
        refine r_iinc (i := 654) (u := 10) (v := 4) (s := 10) (L1 := [some ((6, 0)), some ((2, 0)), some ((2, 43)), some ((2, 81)), some (vi (i + 10)), none, none]) rfl rfl rfl rfl rfl ?_
        refine r_goto (i := 655) (v := 13) rfl ?_
        exact ih S hI e_N23 e_CR e_RT e_RMe e_RS e_RI e_RK (i + 10) ⟨by omega, by omega⟩ (by exact wRM_le q_0 (by omega)) (by omega)
end XNC
