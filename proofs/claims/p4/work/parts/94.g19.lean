set_option linter.unusedVariables false
set_option maxRecDepth 4000
noncomputable section XNC
/-- ProxyForgeLaw.type -/
theorem sp179 {G : xk} {S : yS} {d : Nat} (hI : yI S) {kR : Int} {p0 : Int} (h_p0 : 0 ≤ p0 ∧ p0 ≤ 1) {p1 : Int} (h_p1 : -2147483648 ≤ p1 ∧ p1 ≤ 2147483647) {p2 : Int} (h_p2 : -2147483648 ≤ p2 ∧ p2 ≤ 2147483647) {p3 : Int} (h_p3 : -2147483648 ≤ p3 ∧ p3 ≤ 2147483647) (p_0 : wRM (kR + 1) S) (p_1 : 0 ≤ kR) (e_N23 : N23 S) (e_CR : CR S) (hd : 7 ≤ d) : yT xPr G LY xC179 0 [some ((2, 0)), some (vi p0), some (vi p1), some (vi p2), some (vi p3), some ((2, 81))] [] S d (fun r S' => ∃ z : Int, r = (1, vi z) ∧ 0 ≤ z ∧ z ≤ 2 ∧ wRM kR S' ∧ hTy S S' p0 p1 p2 p3 z ∧ N23 S' ∧ CR S' ∧ yI S' ∧ yFr [(1, 7)] [2, 3, 4, 5, 6, 81] S S') := by
  refine yT_pad 1 ?_
  show yT xPr G LY xC179 0 [some ((2, 0)), some (vi p0), some (vi p1), some (vi p2), some (vi p3), some ((2, 81)), none] [] S d _
  obtain ⟨d, rfl⟩ : ∃ q, d = q + 1 := ⟨d - 1, by omega⟩
  have hF : yFr [(1, 7)] [2, 3, 4, 5, 6, 81] S S := yFr.refl S
  have e_RM := p_0
  refine r_load (i := 0) (u := 5) (w := 2) rfl rfl rfl ?_
  refine r_const (i := 1) (u := 0) (z := 0) rfl rfl ?_
  refine r_load (i := 2) (u := 0) (w := 2) rfl rfl rfl ?_
  refine r_load (i := 3) (u := 1) (w := 0) rfl rfl rfl ?_
  refine r_load (i := 4) (u := 2) (w := 0) rfl rfl rfl ?_
  refine r_load (i := 5) (u := 3) (w := 0) rfl rfl rfl ?_
  refine r_load (i := 6) (u := 4) (w := 0) rfl rfl rfl ?_
  have h1 := hI.f tf1_7
  refine r_call (i := 7) (u := 3940705509310464) (v := 21) (w := 11) (b := 0) (na := 1285) (C2 := xC21) (as := [(2, 0), vi p0, vi p1, vi p2, vi p3]) (s := [vi 0, (2, 81)]) rfl rfl rfl rfl rfl rfl rfl (sp21 (b := p0) (fl := p1) (p := p2) (up := p3) hI ⟨by omega, by omega⟩ ⟨by omega, by omega⟩ ⟨by omega, by omega⟩ ⟨by omega, by omega⟩   (by omega)) (fun r2 S3 hq4 => ?_)
  rcases hq4 with hq5 | ⟨a7, c9, rfl, hc6, rfl⟩
  · obtain ⟨z8, rfl, h9, h10, tc11, tl12, tz13, ct14, hI15, hF16, hR17⟩ := hq5
    have hF18 := hF.trans hF16 rfl rfl
    have e19 := N23x.fr e_N23 hF16 hR17 rfl rfl rfl
    have e20 := CRx.fr e_CR hF16 rfl rfl
    have e21 := wRM_rm e_RM hR17
    refine Or.inr (Or.inl ⟨rfl, ?_⟩)
    refine r_i2l (i := 8) rfl ⟨by omega, by omega⟩ ?_
    refine r_lastore (i := 9) rfl ly81 (by decide) (by omega) (by omega) ⟨by omega, by omega⟩ ?_
    have hI23 := hI15.seta0 (b := 81) (j := (0 : Int).toNat) (z := z8) rfl rfl
    have hF25 := hF18.seta (b := 81) (j := (0 : Int).toNat) (z := z8) rfl
    have e27 := N23x.seta e19 (b := 81) (j := (0 : Int).toNat) (z := z8) rfl
    have e28 := CRx.seta e20 (b := 81) (j := (0 : Int).toNat) (z := z8) rfl
    have e29 := wRM_a e21 (b := 81) (j := (0 : Int).toNat) (z := z8)
    refine yT_gen (fun S22 hS24 => ?_)
    rw [hS24] at hI23 hF25  e27 e28 e29
    refine r_goto (i := 10) (v := 17) rfl ?_
    refine r_const (i := 17) (u := 0) (z := 0) rfl rfl ?_
    exact r_retI (i := 18) rfl ⟨0, rfl, by omega, by omega, (by exact wRM_le e29 (by omega)), (by exact Or.inl ⟨rfl, tc11, tl12, by first | (subst hS24; exact ysa_eq.trans tz13) | (subst_vars; rfl), by subst hS24; exact cTy81 ct14⟩), e27, e28, hI23, hF25⟩
  · obtain ⟨hI30, rm31⟩ := wRM_cost e_RM hI (by omega)
    have e32 : N23 (ycost S 1 6) := e_N23
    have e33 : CR (ycost S 1 6) := e_CR
    have hF34 : yFr [(1, 7)] [2, 3, 4, 5, 6, 81] S (ycost S 1 6) := hF
    rcases hc6 with ⟨rfl, xphc6⟩ | ⟨rfl, xphc6⟩
    · refine Or.inr (Or.inr (Or.inl ⟨rfl, rfl, by decide, ?_⟩))
      refine r_store (i := 11) (u := 6) (w := 2) (L1 := [some ((2, 0)), some (vi p0), some (vi p1), some (vi p2), some (vi p3), some ((2, 81)), some ((2, a7))]) rfl rfl rfl rfl ?_
      refine r_const (i := 12) (u := 1) (z := 1) rfl rfl ?_
      exact r_retI (i := 13) rfl ⟨1, rfl, by omega, by omega, (by exact wRM_le rm31 (by omega)), (by first | exact Or.inr (Or.inl ⟨rfl, xphc6, rfl, rfl⟩) | exact Or.inr (Or.inr ⟨rfl, xphc6.1, xphc6.2, rfl, rfl⟩)), e32, e33, hI30, hF34⟩
    · refine Or.inr (Or.inr (Or.inr ⟨rfl, (show (13 : Nat) ≠ 3940705509310464 / 65536 % 65536 by decide), rfl, by decide, ?_⟩))
      refine r_store (i := 14) (u := 6) (w := 2) (L1 := [some ((2, 0)), some (vi p0), some (vi p1), some (vi p2), some (vi p3), some ((2, 81)), some ((2, a7))]) rfl rfl rfl rfl ?_
      refine r_const (i := 15) (u := 2) (z := 2) rfl rfl ?_
      exact r_retI (i := 16) rfl ⟨2, rfl, by omega, by omega, (by exact wRM_le rm31 (by omega)), (by first | exact Or.inr (Or.inl ⟨rfl, xphc6, rfl, rfl⟩) | exact Or.inr (Or.inr ⟨rfl, xphc6.1, xphc6.2, rfl, rfl⟩)), e32, e33, hI30, hF34⟩
/-- ProxyForgeLaw.implement -/
theorem sp176 {G : xk} {S : yS} {d : Nat} (hI : yI S) {kR : Int} {p0 : Int} (h_p0 : -2147483648 ≤ p0 ∧ p0 ≤ 2147483647) {p1 : Int} (h_p1 : -2147483648 ≤ p1 ∧ p1 ≤ 2147483647) (p_0 : wRM (kR + 1) S) (p_1 : 0 ≤ kR) (e_N23 : N23 S) (e_CR : CR S) (hd : 7 ≤ d) : yT xPr G LY xC176 0 [some ((2, 0)), some (vi p0), some (vi p1)] [] S d (fun r S' => ∃ z : Int, r = (1, vi z) ∧ 0 ≤ z ∧ z ≤ 2 ∧ wRM kR S' ∧ N23 S' ∧ CR S' ∧ yI S' ∧ yFr [] [6, 7, 8] S S') := by
  refine yT_pad 1 ?_
  show yT xPr G LY xC176 0 [some ((2, 0)), some (vi p0), some (vi p1), none] [] S d _
  obtain ⟨d, rfl⟩ : ∃ q, d = q + 1 := ⟨d - 1, by omega⟩
  have hF : yFr [] [6, 7, 8] S S := yFr.refl S
  have e_RM := p_0
  refine r_load (i := 0) (u := 0) (w := 2) rfl rfl rfl ?_
  refine r_load (i := 1) (u := 1) (w := 0) rfl rfl rfl ?_
  refine r_load (i := 2) (u := 2) (w := 0) rfl rfl rfl ?_
  refine r_call (i := 3) (u := 786432) (v := 10) (w := 5) (b := 0) (na := 771) (C2 := xC10) (as := [(2, 0), vi p0, vi p1]) (s := []) rfl rfl rfl rfl rfl rfl rfl (sp10 (t := p0) (f := p1) hI ⟨by omega, by omega⟩ ⟨by omega, by omega⟩   (by omega)) (fun r1 S2 hq3 => ?_)
  rcases hq3 with hq4 | ⟨a6, c9, rfl, hc5, rfl⟩
  · obtain ⟨rfl, hI7, hF8, hR9⟩ := hq4
    have hF10 := hF.trans hF8 rfl rfl
    have e11 := N23x.fr e_N23 hF8 hR9 rfl rfl rfl
    have e12 := CRx.fr e_CR hF8 rfl rfl
    have e13 := wRM_rm e_RM hR9
    refine Or.inl ⟨rfl, ?_⟩
    refine r_goto (i := 4) (v := 8) rfl ?_
    refine r_const (i := 8) (u := 0) (z := 0) rfl rfl ?_
    exact r_retI (i := 9) rfl ⟨0, rfl, by omega, by omega, (by exact wRM_le e13 (by omega)), e11, e12, hI7, hF10⟩
  · obtain ⟨hI14, rm15⟩ := wRM_cost e_RM hI (by omega)
    have e16 : N23 (ycost S 1 6) := e_N23
    have e17 : CR (ycost S 1 6) := e_CR
    have hF18 : yFr [] [6, 7, 8] S (ycost S 1 6) := hF
    obtain rfl := hc5
    · refine Or.inr (Or.inr (Or.inl ⟨rfl, rfl, by decide, ?_⟩))
      refine r_store (i := 5) (u := 3) (w := 2) (L1 := [some ((2, 0)), some (vi p0), some (vi p1), some ((2, a6))]) rfl rfl rfl rfl ?_
      refine r_const (i := 6) (u := 1) (z := 1) rfl rfl ?_
      exact r_retI (i := 7) rfl ⟨1, rfl, by omega, by omega, (by exact wRM_le rm15 (by omega)), e16, e17, hI14, hF18⟩
/-- ProxyForgeLaw.method -/
theorem sp177 {G : xk} {S : yS} {d : Nat} (hI : yI S) {kR : Int} {p0 : Int} (h_p0 : -2147483648 ≤ p0 ∧ p0 ≤ 2147483647) {p1 : Int} (h_p1 : -2147483648 ≤ p1 ∧ p1 ≤ 2147483647) {p2 : Int} (h_p2 : -2147483648 ≤ p2 ∧ p2 ≤ 2147483647) {p3 : Int} (h_p3 : -2147483648 ≤ p3 ∧ p3 ≤ 2147483647) {p4 : Int} (h_p4 : -2147483648 ≤ p4 ∧ p4 ≤ 2147483647) (p_0 : wRM (kR + 1) S) (p_1 : 0 ≤ kR) (e_N23 : N23 S) (e_CR : CR S) (hd : 7 ≤ d) : yT xPr G LY xC177 0 [some ((2, 0)), some (vi p0), some (vi p1), some (vi p2), some (vi p3), some (vi p4), some ((2, 81))] [] S d (fun r S' => ∃ z : Int, r = (1, vi z) ∧ 0 ≤ z ∧ z ≤ 2 ∧ wRM kR S' ∧ hMe S S' p0 p1 p2 p3 p4 z ∧ N23 S' ∧ CR S' ∧ yI S' ∧ yFr [(9, 8)] [10, 11, 12, 13, 14, 81] S S') := by
  refine yT_pad 1 ?_
  show yT xPr G LY xC177 0 [some ((2, 0)), some (vi p0), some (vi p1), some (vi p2), some (vi p3), some (vi p4), some ((2, 81)), none] [] S d _
  obtain ⟨d, rfl⟩ : ∃ q, d = q + 1 := ⟨d - 1, by omega⟩
  have hF : yFr [(9, 8)] [10, 11, 12, 13, 14, 81] S S := yFr.refl S
  have e_RM := p_0
  refine r_load (i := 0) (u := 6) (w := 2) rfl rfl rfl ?_
  refine r_const (i := 1) (u := 0) (z := 0) rfl rfl ?_
  refine r_load (i := 2) (u := 0) (w := 2) rfl rfl rfl ?_
  refine r_load (i := 3) (u := 1) (w := 0) rfl rfl rfl ?_
  refine r_load (i := 4) (u := 2) (w := 0) rfl rfl rfl ?_
  refine r_load (i := 5) (u := 3) (w := 0) rfl rfl rfl ?_
  refine r_load (i := 6) (u := 4) (w := 0) rfl rfl rfl ?_
  refine r_load (i := 7) (u := 5) (w := 0) rfl rfl rfl ?_
  have h1 := hI.f tf9_8
  refine r_call (i := 8) (u := 4222180486021120) (v := 13) (w := 12) (b := 0) (na := 1542) (C2 := xC13) (as := [(2, 0), vi p0, vi p1, vi p2, vi p3, vi p4]) (s := [vi 0, (2, 81)]) rfl rfl rfl rfl rfl rfl rfl (sp13 (t := p0) (w0 := p1) (fl := p2) (p := p3) (b := p4) hI ⟨by omega, by omega⟩ ⟨by omega, by omega⟩ ⟨by omega, by omega⟩ ⟨by omega, by omega⟩ ⟨by omega, by omega⟩   (by omega)) (fun r2 S3 hq4 => ?_)
  rcases hq4 with hq5 | ⟨a7, c9, rfl, hc6, rfl⟩
  · obtain ⟨z8, rfl, h9, h10, tc11, tl12, tz13, ct14, hI15, hF16, hR17⟩ := hq5
    have hF18 := hF.trans hF16 rfl rfl
    have e19 := N23x.fr e_N23 hF16 hR17 rfl rfl rfl
    have e20 := CRx.fr e_CR hF16 rfl rfl
    have e21 := wRM_rm e_RM hR17
    refine Or.inr (Or.inl ⟨rfl, ?_⟩)
    refine r_i2l (i := 9) rfl ⟨by omega, by omega⟩ ?_
    refine r_lastore (i := 10) rfl ly81 (by decide) (by omega) (by omega) ⟨by omega, by omega⟩ ?_
    have hI23 := hI15.seta0 (b := 81) (j := (0 : Int).toNat) (z := z8) rfl rfl
    have hF25 := hF18.seta (b := 81) (j := (0 : Int).toNat) (z := z8) rfl
    have e27 := N23x.seta e19 (b := 81) (j := (0 : Int).toNat) (z := z8) rfl
    have e28 := CRx.seta e20 (b := 81) (j := (0 : Int).toNat) (z := z8) rfl
    have e29 := wRM_a e21 (b := 81) (j := (0 : Int).toNat) (z := z8)
    refine yT_gen (fun S22 hS24 => ?_)
    rw [hS24] at hI23 hF25  e27 e28 e29
    refine r_goto (i := 11) (v := 18) rfl ?_
    refine r_const (i := 18) (u := 0) (z := 0) rfl rfl ?_
    exact r_retI (i := 19) rfl ⟨0, rfl, by omega, by omega, (by exact wRM_le e29 (by omega)), (by exact Or.inl ⟨rfl, tc11, tl12, by first | (subst hS24; exact ysa_eq.trans tz13) | (subst_vars; rfl), by subst hS24; exact cMe81 ct14⟩), e27, e28, hI23, hF25⟩
  · obtain ⟨hI30, rm31⟩ := wRM_cost e_RM hI (by omega)
    have e32 : N23 (ycost S 1 6) := e_N23
    have e33 : CR (ycost S 1 6) := e_CR
    have hF34 : yFr [(9, 8)] [10, 11, 12, 13, 14, 81] S (ycost S 1 6) := hF
    rcases hc6 with ⟨rfl, xphc6⟩ | ⟨rfl, xphc6⟩
    · refine Or.inr (Or.inr (Or.inl ⟨rfl, rfl, by decide, ?_⟩))
      refine r_store (i := 12) (u := 7) (w := 2) (L1 := [some ((2, 0)), some (vi p0), some (vi p1), some (vi p2), some (vi p3), some (vi p4), some ((2, 81)), some ((2, a7))]) rfl rfl rfl rfl ?_
      refine r_const (i := 13) (u := 1) (z := 1) rfl rfl ?_
      exact r_retI (i := 14) rfl ⟨1, rfl, by omega, by omega, (by exact wRM_le rm31 (by omega)), (by first | exact Or.inr (Or.inl ⟨rfl, xphc6, rfl, rfl⟩) | exact Or.inr (Or.inr ⟨rfl, xphc6.1, xphc6.2, rfl, rfl⟩)), e32, e33, hI30, hF34⟩
    · refine Or.inr (Or.inr (Or.inr ⟨rfl, (show (13 : Nat) ≠ 4222180486021120 / 65536 % 65536 by decide), rfl, by decide, ?_⟩))
      refine r_store (i := 15) (u := 7) (w := 2) (L1 := [some ((2, 0)), some (vi p0), some (vi p1), some (vi p2), some (vi p3), some (vi p4), some ((2, 81)), some ((2, a7))]) rfl rfl rfl rfl ?_
      refine r_const (i := 16) (u := 2) (z := 2) rfl rfl ?_
      exact r_retI (i := 17) rfl ⟨2, rfl, by omega, by omega, (by exact wRM_le rm31 (by omega)), (by first | exact Or.inr (Or.inl ⟨rfl, xphc6, rfl, rfl⟩) | exact Or.inr (Or.inr ⟨rfl, xphc6.1, xphc6.2, rfl, rfl⟩)), e32, e33, hI30, hF34⟩
/-- ProxyForgeLaw.throwing -/
theorem sp178 {G : xk} {S : yS} {d : Nat} (hI : yI S) {kR : Int} {p0 : Int} (h_p0 : -2147483648 ≤ p0 ∧ p0 ≤ 2147483647) {p1 : Int} (h_p1 : -2147483648 ≤ p1 ∧ p1 ≤ 2147483647) (p_0 : wRM (kR + 1) S) (p_1 : 0 ≤ kR) (e_N23 : N23 S) (e_CR : CR S) (hd : 7 ≤ d) : yT xPr G LY xC178 0 [some ((2, 0)), some (vi p0), some (vi p1)] [] S d (fun r S' => ∃ z : Int, r = (1, vi z) ∧ 0 ≤ z ∧ z ≤ 2 ∧ wRM kR S' ∧ N23 S' ∧ CR S' ∧ yI S' ∧ yFr [] [15, 16] S S') := by
  refine yT_pad 1 ?_
  show yT xPr G LY xC178 0 [some ((2, 0)), some (vi p0), some (vi p1), none] [] S d _
  obtain ⟨d, rfl⟩ : ∃ q, d = q + 1 := ⟨d - 1, by omega⟩
  have hF : yFr [] [15, 16] S S := yFr.refl S
  have e_RM := p_0
  refine r_load (i := 0) (u := 0) (w := 2) rfl rfl rfl ?_
  refine r_load (i := 1) (u := 1) (w := 0) rfl rfl rfl ?_
  refine r_load (i := 2) (u := 2) (w := 0) rfl rfl rfl ?_
  refine r_call (i := 3) (u := 786432) (v := 20) (w := 5) (b := 0) (na := 771) (C2 := xC20) (as := [(2, 0), vi p0, vi p1]) (s := []) rfl rfl rfl rfl rfl rfl rfl (sp20 (m := p0) (t := p1) hI ⟨by omega, by omega⟩ ⟨by omega, by omega⟩   (by omega)) (fun r1 S2 hq3 => ?_)
  rcases hq3 with hq4 | ⟨a6, c9, rfl, hc5, rfl⟩
  · obtain ⟨rfl, hI7, hF8, hR9⟩ := hq4
    have hF10 := hF.trans hF8 rfl rfl
    have e11 := N23x.fr e_N23 hF8 hR9 rfl rfl rfl
    have e12 := CRx.fr e_CR hF8 rfl rfl
    have e13 := wRM_rm e_RM hR9
    refine Or.inl ⟨rfl, ?_⟩
    refine r_goto (i := 4) (v := 8) rfl ?_
    refine r_const (i := 8) (u := 0) (z := 0) rfl rfl ?_
    exact r_retI (i := 9) rfl ⟨0, rfl, by omega, by omega, (by exact wRM_le e13 (by omega)), e11, e12, hI7, hF10⟩
  · obtain ⟨hI14, rm15⟩ := wRM_cost e_RM hI (by omega)
    have e16 : N23 (ycost S 1 6) := e_N23
    have e17 : CR (ycost S 1 6) := e_CR
    have hF18 : yFr [] [15, 16] S (ycost S 1 6) := hF
    obtain rfl := hc5
    · refine Or.inr (Or.inr (Or.inl ⟨rfl, rfl, by decide, ?_⟩))
      refine r_store (i := 5) (u := 3) (w := 2) (L1 := [some ((2, 0)), some (vi p0), some (vi p1), some ((2, a6))]) rfl rfl rfl rfl ?_
      refine r_const (i := 6) (u := 1) (z := 1) rfl rfl ?_
      exact r_retI (i := 7) rfl ⟨1, rfl, by omega, by omega, (by exact wRM_le rm15 (by omega)), e16, e17, hI14, hF18⟩
/-- ProxyForgeLaw.forge -/
theorem sp175 {G : xk} {S : yS} {d : Nat} (hI : yI S) {kR : Int} {p0 : Int} (h_p0 : -2147483648 ≤ p0 ∧ p0 ≤ 2147483647) {p1 : Int} (h_p1 : -2147483648 ≤ p1 ∧ p1 ≤ 2147483647) {p2 : Int} (h_p2 : -2147483648 ≤ p2 ∧ p2 ≤ 2147483647) {p3 : Int} (h_p3 : -2147483648 ≤ p3 ∧ p3 ≤ 2147483647) (p_0 : wRM (kR + 1) S) (p_1 : 0 ≤ kR) (e_N23 : N23 S) (e_CR : CR S) (hd : 26 ≤ d) : yT xPr G LY xC175 0 [some ((2, 0)), some (vi p0), some (vi p1), some (vi p2), some (vi p3), some ((2, 81))] [] S d (fun r S' => ∃ z : Int, r = (1, vi z) ∧ 0 ≤ z ∧ z ≤ 2 ∧ wRM kR S' ∧ N23 S' ∧ CR S' ∧ yI S' ∧ yFr [(17, 6), (17, 7), (17, 8), (17, 9), (17, 10), (17, 11), (17, 12), (22, 3), (31, 1), (33, 7), (33, 8), (33, 9), (33, 10), (33, 11), (33, 12), (33, 13), (33, 14), (33, 15), (34, 1), (36, 5)] [18, 19, 20, 21, 23, 24, 25, 37, 81, 100, 101, 102, 103, 105] S S') := by
  refine yT_pad 1 ?_
  show yT xPr G LY xC175 0 [some ((2, 0)), some (vi p0), some (vi p1), some (vi p2), some (vi p3), some ((2, 81)), none] [] S d _
  obtain ⟨d, rfl⟩ : ∃ q, d = q + 1 := ⟨d - 1, by omega⟩
  have hF : yFr [(17, 6), (17, 7), (17, 8), (17, 9), (17, 10), (17, 11), (17, 12), (22, 3), (31, 1), (33, 7), (33, 8), (33, 9), (33, 10), (33, 11), (33, 12), (33, 13), (33, 14), (33, 15), (34, 1), (36, 5)] [18, 19, 20, 21, 23, 24, 25, 37, 81, 100, 101, 102, 103, 105] S S := yFr.refl S
  have e_RM := p_0
  refine r_load (i := 0) (u := 5) (w := 2) rfl rfl rfl ?_
  refine r_const (i := 1) (u := 0) (z := 0) rfl rfl ?_
  refine r_load (i := 2) (u := 0) (w := 2) rfl rfl rfl ?_
  refine r_load (i := 3) (u := 1) (w := 0) rfl rfl rfl ?_
  refine r_load (i := 4) (u := 2) (w := 0) rfl rfl rfl ?_
  refine r_load (i := 5) (u := 3) (w := 0) rfl rfl rfl ?_
  refine r_load (i := 6) (u := 4) (w := 0) rfl rfl rfl ?_
  refine r_call (i := 7) (u := 786432) (v := 8) (w := 11) (b := 0) (na := 1797) (C2 := xC8) (as := [(2, 0), vi p0, vi p1, vi p2, vi p3]) (s := [vi 0, (2, 81)]) rfl rfl rfl rfl rfl rfl rfl (sp8 (t := p0) (a := p1) (b := p2) (c := p3) hI ⟨by omega, by omega⟩ ⟨by omega, by omega⟩ ⟨by omega, by omega⟩ ⟨by omega, by omega⟩  e_N23 (by omega)) (fun r1 S2 hq3 => ?_)
  rcases hq3 with hq4 | ⟨a6, c9, rfl, hc5, rfl⟩
  · obtain ⟨z7, rfl, h8, h9, e10, hI11, hF12, hR13⟩ := hq4
    have hF14 := hF.trans hF12 rfl rfl
    have e15 := CRx.fr e_CR hF12 rfl rfl
    have e16 := wRM_rm e_RM hR13
    refine Or.inr (Or.inl ⟨rfl, ?_⟩)
    refine r_i2l (i := 8) rfl ⟨by omega, by omega⟩ ?_
    refine r_lastore (i := 9) rfl ly81 (by decide) (by omega) (by omega) ⟨by omega, by omega⟩ ?_
    have hI18 := hI11.seta0 (b := 81) (j := (0 : Int).toNat) (z := z7) rfl rfl
    have hF20 := hF14.seta (b := 81) (j := (0 : Int).toNat) (z := z7) rfl
    have e22 := CRx.seta e15 (b := 81) (j := (0 : Int).toNat) (z := z7) rfl
    have e23 := wRM_a e16 (b := 81) (j := (0 : Int).toNat) (z := z7)
    have e24 := N23x.seta e10 (b := 81) (j := (0 : Int).toNat) (z := z7) rfl
    refine yT_gen (fun S17 hS19 => ?_)
    rw [hS19] at hI18 hF20  e22 e23 e24
    refine r_goto (i := 10) (v := 14) rfl ?_
    refine r_const (i := 14) (u := 0) (z := 0) rfl rfl ?_
    exact r_retI (i := 15) rfl ⟨0, rfl, by omega, by omega, (by exact wRM_le e23 (by omega)), e24, e22, hI18, hF20⟩
  · obtain ⟨hI25, rm26⟩ := wRM_cost e_RM hI (by omega)
    have e27 : N23 (ycost S 1 6) := e_N23
    have e28 : CR (ycost S 1 6) := e_CR
    have hF29 : yFr [(17, 6), (17, 7), (17, 8), (17, 9), (17, 10), (17, 11), (17, 12), (22, 3), (31, 1), (33, 7), (33, 8), (33, 9), (33, 10), (33, 11), (33, 12), (33, 13), (33, 14), (33, 15), (34, 1), (36, 5)] [18, 19, 20, 21, 23, 24, 25, 37, 81, 100, 101, 102, 103, 105] S (ycost S 1 6) := hF
    obtain rfl := hc5
    · refine Or.inr (Or.inr (Or.inl ⟨rfl, rfl, by decide, ?_⟩))
      refine r_store (i := 11) (u := 6) (w := 2) (L1 := [some ((2, 0)), some (vi p0), some (vi p1), some (vi p2), some (vi p3), some ((2, 81)), some ((2, a6))]) rfl rfl rfl rfl ?_
      refine r_const (i := 12) (u := 1) (z := 1) rfl rfl ?_
      exact r_retI (i := 13) rfl ⟨1, rfl, by omega, by omega, (by exact wRM_le rm26 (by omega)), e27, e28, hI25, hF29⟩
/-- ProxyForgeLaw.answer -/
theorem sp173 {G : xk} {S : yS} {d : Nat} (hI : yI S) {kR : Int} {p0 : Int} (h_p0 : -2147483648 ≤ p0 ∧ p0 ≤ 2147483647) {p1 : Int} (h_p1 : Rl p1) (p_0 : wRM (kR + 1) S) (p_1 : 0 ≤ kR) (e_N23 : N23 S) (e_CR : CR S) (hd : 7 ≤ d) : yT xPr G LY xC173 0 [some ((2, 0)), some (vi p0), some (vl p1), none] [] S d (fun r S' => ∃ z : Int, r = (1, vi z) ∧ 0 ≤ z ∧ z ≤ 2 ∧ wRM kR S' ∧ N23 S' ∧ CR S' ∧ yI S' ∧ yFr [(26, 4), (26, 5)] [] S S') := by
  refine yT_pad 1 ?_
  show yT xPr G LY xC173 0 [some ((2, 0)), some (vi p0), some (vl p1), none, none] [] S d _
  obtain ⟨d, rfl⟩ : ∃ q, d = q + 1 := ⟨d - 1, by omega⟩
  have hF : yFr [(26, 4), (26, 5)] [] S S := yFr.refl S
  have e_RM := p_0
  refine r_load (i := 0) (u := 0) (w := 2) rfl rfl rfl ?_
  refine r_load (i := 1) (u := 1) (w := 0) rfl rfl rfl ?_
  refine r_load (i := 2) (u := 2) (w := 1) rfl rfl rfl ?_
  refine r_call (i := 3) (u := 786432) (v := 1) (w := 5) (b := 0) (na := 1027) (C2 := xC1) (as := [(2, 0), vi p0, vl p1]) (s := []) rfl rfl rfl rfl rfl rfl rfl (sp1 (k := p0) (v := p1) hI ⟨by omega, by omega⟩ ⟨by omega, by omega⟩   (by omega)) (fun r1 S2 hq3 => ?_)
  rcases hq3 with hq4 | ⟨a6, c9, rfl, hc5, rfl⟩
  · obtain ⟨rfl, hI7, hF8, hR9⟩ := hq4
    have hF10 := hF.trans hF8 rfl rfl
    have e11 := N23x.fr e_N23 hF8 hR9 rfl rfl rfl
    have e12 := CRx.fr e_CR hF8 rfl rfl
    have e13 := wRM_rm e_RM hR9
    refine Or.inl ⟨rfl, ?_⟩
    refine r_goto (i := 4) (v := 8) rfl ?_
    refine r_const (i := 8) (u := 0) (z := 0) rfl rfl ?_
    exact r_retI (i := 9) rfl ⟨0, rfl, by omega, by omega, (by exact wRM_le e13 (by omega)), e11, e12, hI7, hF10⟩
  · obtain ⟨hI14, rm15⟩ := wRM_cost e_RM hI (by omega)
    have e16 : N23 (ycost S 1 6) := e_N23
    have e17 : CR (ycost S 1 6) := e_CR
    have hF18 : yFr [(26, 4), (26, 5)] [] S (ycost S 1 6) := hF
    obtain rfl := hc5
    · refine Or.inr (Or.inr (Or.inl ⟨rfl, rfl, by decide, ?_⟩))
      refine r_store (i := 5) (u := 4) (w := 2) (L1 := [some ((2, 0)), some (vi p0), some (vl p1), none, some ((2, a6))]) rfl rfl rfl rfl ?_
      refine r_const (i := 6) (u := 1) (z := 1) rfl rfl ?_
      exact r_retI (i := 7) rfl ⟨1, rfl, by omega, by omega, (by exact wRM_le rm15 (by omega)), e16, e17, hI14, hF18⟩
/-- ProxyForgeLaw.call -/
theorem sp174 {G : xk} {S : yS} {d : Nat} (hI : yI S) {kR : Int} {p0 : Int} (h_p0 : -2147483648 ≤ p0 ∧ p0 ≤ 2147483647) {p1 : Int} (h_p1 : Rl p1) {p2 : Int} (h_p2 : Rl p2) {p3 : Int} (h_p3 : Rl p3) {p4 : Int} (h_p4 : Rl p4) (p_0 : wRM (kR + 1) S) (p_1 : 0 ≤ kR) (e_N23 : N23 S) (e_CR : CR S) (hd : 7 ≤ d) : yT xPr G LY xC174 0 [some ((2, 0)), some (vi p0), some (vl p1), none, some (vl p2), none, some (vl p3), none, some (vl p4), none, some ((2, 81))] [] S d (fun r S' => ∃ z : Int, r = (1, vi z) ∧ 0 ≤ z ∧ z ≤ 2 ∧ wRM kR S' ∧ N23 S' ∧ CR S' ∧ yI S' ∧ yFr [(26, 2), (26, 3), (29, 5)] [27, 28, 30, 81] S S') := by
  refine yT_pad 1 ?_
  show yT xPr G LY xC174 0 [some ((2, 0)), some (vi p0), some (vl p1), none, some (vl p2), none, some (vl p3), none, some (vl p4), none, some ((2, 81)), none] [] S d _
  obtain ⟨d, rfl⟩ : ∃ q, d = q + 1 := ⟨d - 1, by omega⟩
  have hF : yFr [(26, 2), (26, 3), (29, 5)] [27, 28, 30, 81] S S := yFr.refl S
  have e_RM := p_0
  refine r_load (i := 0) (u := 10) (w := 2) rfl rfl rfl ?_
  refine r_const (i := 1) (u := 0) (z := 0) rfl rfl ?_
  refine r_load (i := 2) (u := 0) (w := 2) rfl rfl rfl ?_
  refine r_load (i := 3) (u := 1) (w := 0) rfl rfl rfl ?_
  refine r_load (i := 4) (u := 2) (w := 1) rfl rfl rfl ?_
  refine r_load (i := 5) (u := 4) (w := 1) rfl rfl rfl ?_
  refine r_load (i := 6) (u := 6) (w := 1) rfl rfl rfl ?_
  refine r_load (i := 7) (u := 8) (w := 1) rfl rfl rfl ?_
  refine r_call (i := 8) (u := 786432) (v := 5) (w := 12) (b := 0) (na := 2566) (C2 := xC5) (as := [(2, 0), vi p0, vl p1, vl p2, vl p3, vl p4]) (s := [vi 0, (2, 81)]) rfl rfl rfl rfl rfl rfl rfl (sp5 (k := p0) (a := p1) (b := p2) (c := p3) (e := p4) hI ⟨by omega, by omega⟩ ⟨by omega, by omega⟩ ⟨by omega, by omega⟩ ⟨by omega, by omega⟩ ⟨by omega, by omega⟩   (by omega)) (fun r1 S2 hq3 => ?_)
  rcases hq3 with hq4 | ⟨a6, c9, rfl, hc5, rfl⟩
  · obtain ⟨z7, rfl, h8, h9, hI10, hF11, hR12⟩ := hq4
    have hF13 := hF.trans hF11 rfl rfl
    have e14 := N23x.fr e_N23 hF11 hR12 rfl rfl rfl
    have e15 := CRx.fr e_CR hF11 rfl rfl
    have e16 := wRM_rm e_RM hR12
    refine Or.inr (Or.inl ⟨rfl, ?_⟩)
    refine r_i2l (i := 9) rfl ⟨by omega, by omega⟩ ?_
    refine r_lastore (i := 10) rfl ly81 (by decide) (by omega) (by omega) ⟨by omega, by omega⟩ ?_
    have hI18 := hI10.seta0 (b := 81) (j := (0 : Int).toNat) (z := z7) rfl rfl
    have hF20 := hF13.seta (b := 81) (j := (0 : Int).toNat) (z := z7) rfl
    have e22 := N23x.seta e14 (b := 81) (j := (0 : Int).toNat) (z := z7) rfl
    have e23 := CRx.seta e15 (b := 81) (j := (0 : Int).toNat) (z := z7) rfl
    have e24 := wRM_a e16 (b := 81) (j := (0 : Int).toNat) (z := z7)
    refine yT_gen (fun S17 hS19 => ?_)
    rw [hS19] at hI18 hF20  e22 e23 e24
    refine r_goto (i := 11) (v := 15) rfl ?_
    refine r_const (i := 15) (u := 0) (z := 0) rfl rfl ?_
    exact r_retI (i := 16) rfl ⟨0, rfl, by omega, by omega, (by exact wRM_le e24 (by omega)), e22, e23, hI18, hF20⟩
  · obtain ⟨hI25, rm26⟩ := wRM_cost e_RM hI (by omega)
    have e27 : N23 (ycost S 1 6) := e_N23
    have e28 : CR (ycost S 1 6) := e_CR
    have hF29 : yFr [(26, 2), (26, 3), (29, 5)] [27, 28, 30, 81] S (ycost S 1 6) := hF
    obtain rfl := hc5
    · refine Or.inr (Or.inr (Or.inl ⟨rfl, rfl, by decide, ?_⟩))
      refine r_store (i := 12) (u := 11) (w := 2) (L1 := [some ((2, 0)), some (vi p0), some (vl p1), none, some (vl p2), none, some (vl p3), none, some (vl p4), none, some ((2, 81)), some ((2, a6))]) rfl rfl rfl rfl ?_
      refine r_const (i := 13) (u := 1) (z := 1) rfl rfl ?_
      exact r_retI (i := 14) rfl ⟨1, rfl, by omega, by omega, (by exact wRM_le rm26 (by omega)), e27, e28, hI25, hF29⟩
set_option maxHeartbeats 4000000 in
theorem lp281_13 {G : xk} {d : Nat} {S0 : yS} {nS : Nat} {sc : Nat → Int} (hG : ySc G nS sc) (hn5 : nS ≤ 5120) (hd : 27 ≤ d + 1) : ∀ (n : Nat), ∀ (S : yS) (hI : yI S) (e_N23 : N23 S) (e_CR : CR S) (e_RT : RT S) (e_RMe : RMe S) (i : Int) (h_i : 0 ≤ i ∧ i ≤ 5120) (q_0 : wRM (5200 - i) S) (hn : 5120 - i < (n : Nat)), yT xPr G LY xC281 13 [some ((6, 0)), some ((2, 0)), some ((2, 43)), some ((2, 81)), some (vi i), none, none] [] S (d + 1) (fun r S' => ∃ z : Int, r = (1, vi z) ∧ 1 ≤ z ∧ z ≤ 1) := by
  intro n
  induction n with
  | zero => intro S hI e_N23 e_CR e_RT e_RMe i h_i q_0 hn; exact absurd hn (by omega)
  | succ n ih =>
    intro S hI e_N23 e_CR e_RT e_RMe i h_i q_0 hn
    refine r_load (i := 13) (u := 4) (w := 0) rfl rfl rfl ?_
    refine r_load (i := 14) (u := 0) (w := 2) rfl rfl rfl ?_
    refine r_scN (i := 15) hG rfl ?_
    refine r_const (i := 16) (u := 10) (z := 10) rfl rfl ?_
    refine r_isub (i := 17) rfl ?_
    refine c_gt (i := 18) (v := 656) rfl ⟨by omega, by omega⟩ ⟨by omega, by omega⟩ (fun h1 => ?_) (fun h2 => ?_)
    · refine r_const (i := 656) (u := 1) (z := 1) rfl rfl ?_
      exact r_retZ (i := 657) rfl (by omega) (by omega) ⟨1, rfl, by omega, by omega⟩
    · refine r_load (i := 19) (u := 0) (w := 2) rfl rfl rfl ?_
      refine r_load (i := 20) (u := 4) (w := 0) rfl rfl rfl ?_
      refine r_scA (i := 21) hG rfl (by omega) (by omega) fun h3 => ?_
      have h3 : Rg (sc i.toNat) := h3
      refine r_const (i := 22) (u := 31) (z := 31) rfl rfl ?_
      refine r_iand (i := 23) rfl ?_
      have h4 := @yand_c (sc i.toNat) 31 (by decide) (by decide)
      rcases (show (yand (sc i.toNat) 31) = 0 ∨ (yand (sc i.toNat) 31) = 1 ∨ (yand (sc i.toNat) 31) = 2 ∨ (yand (sc i.toNat) 31) = 3 ∨ (yand (sc i.toNat) 31) = 4 ∨ (yand (sc i.toNat) 31) = 5 ∨ (yand (sc i.toNat) 31) = 6 ∨ (yand (sc i.toNat) 31) = 7 ∨ (yand (sc i.toNat) 31) = 8 ∨ (yand (sc i.toNat) 31) = 9 ∨ (yand (sc i.toNat) 31) = 10 ∨ (yand (sc i.toNat) 31) = 11 ∨ (yand (sc i.toNat) 31) = 12 ∨ (yand (sc i.toNat) 31) = 13 ∨ (yand (sc i.toNat) 31) = 14 ∨ (yand (sc i.toNat) 31) = 15 ∨ (yand (sc i.toNat) 31) = 16 ∨ (yand (sc i.toNat) 31) = 17 ∨ (yand (sc i.toNat) 31) = 18 ∨ (yand (sc i.toNat) 31) = 19 ∨ (yand (sc i.toNat) 31) = 20 ∨ (yand (sc i.toNat) 31) = 21 ∨ (yand (sc i.toNat) 31) = 22 ∨ (yand (sc i.toNat) 31) = 23 ∨ (yand (sc i.toNat) 31) = 24 ∨ (yand (sc i.toNat) 31) = 25 ∨ (yand (sc i.toNat) 31) = 26 ∨ (yand (sc i.toNat) 31) = 27 ∨ (yand (sc i.toNat) 31) = 28 ∨ (yand (sc i.toNat) 31) = 29 ∨ (yand (sc i.toNat) 31) = 30 ∨ (yand (sc i.toNat) 31) = 31 by omega) with h5 | h6 | h7 | h8 | h9 | h10 | h11 | h12 | h13 | h14 | h15 | h16 | h17 | h18 | h19 | h20 | h21 | h22 | h23 | h24 | h25 | h26 | h27 | h28 | h29 | h30 | h31 | h32 | h33 | h34 | h35 | h36
      · refine r_swK (i := 24) (u := 1) (v := 654) (k := 0) (t := 25) rfl rfl h5 (by decide) (by decide) rfl ?_
        refine r_load (i := 25) (u := 1) (w := 2) rfl rfl rfl ?_
        refine r_load (i := 26) (u := 0) (w := 2) rfl rfl rfl ?_
        refine r_load (i := 27) (u := 4) (w := 0) rfl rfl rfl ?_
        refine r_const (i := 28) (u := 1) (z := 1) rfl rfl ?_
        refine r_iadd (i := 29) rfl ?_
        refine r_scA (i := 30) hG rfl (by omega) (by omega) fun h37 => ?_
        have h37 : Rg (sc (i + 1).toNat) := h37
        refine z_eq (i := 31) (v := 34) rfl ⟨by omega, by omega⟩ (fun h38 => ?_) (fun h39 => ?_)
        · refine r_const (i := 34) (u := 0) (z := 0) rfl rfl ?_
          refine r_load (i := 35) (u := 0) (w := 2) rfl rfl rfl ?_
          refine r_load (i := 36) (u := 4) (w := 0) rfl rfl rfl ?_
          refine r_const (i := 37) (u := 2) (z := 2) rfl rfl ?_
          refine r_iadd (i := 38) rfl ?_
          refine r_scA (i := 39) hG rfl (by omega) (by omega) fun h40 => ?_
          have h40 : Rg (sc (i + 2).toNat) := h40
          refine r_load (i := 40) (u := 0) (w := 2) rfl rfl rfl ?_
          refine r_load (i := 41) (u := 4) (w := 0) rfl rfl rfl ?_
          refine r_const (i := 42) (u := 3) (z := 3) rfl rfl ?_
          refine r_iadd (i := 43) rfl ?_
          refine r_scA (i := 44) hG rfl (by omega) (by omega) fun h41 => ?_
          have h41 : Rg (sc (i + 3).toNat) := h41
          refine r_load (i := 45) (u := 0) (w := 2) rfl rfl rfl ?_
          refine r_load (i := 46) (u := 4) (w := 0) rfl rfl rfl ?_
          refine r_const (i := 47) (u := 4) (z := 4) rfl rfl ?_
          refine r_iadd (i := 48) rfl ?_
          refine r_scA (i := 49) hG rfl (by omega) (by omega) fun h42 => ?_
          have h42 : Rg (sc (i + 4).toNat) := h42
          refine r_load (i := 50) (u := 3) (w := 2) rfl rfl rfl ?_
          refine r_call (i := 51) (u := 65535) (v := 179) (w := 0) (b := 2) (na := 1798) (C2 := xC179) (as := [(2, 0), vi 0, vi (sc (i + 2).toNat), vi (sc (i + 3).toNat), vi (sc (i + 4).toNat), (2, 81)]) (s := []) rfl rfl rfl rfl rfl rfl rfl (sp179 (p0 := 0) (p1 := sc (i + 2).toNat) (p2 := sc (i + 3).toNat) (p3 := sc (i + 4).toNat) (kR := 5199 - i) hI ⟨by omega, by omega⟩ ⟨by omega, by omega⟩ ⟨by omega, by omega⟩ ⟨by omega, by omega⟩ (by exact wRM_le q_0 (by omega)) (by omega) e_N23 e_CR (by omega)) (fun r43 S44 hq45 => ?_)
          obtain ⟨z46, rfl, h47, h48, rm49, ht50, e51, e52, hI53, hF54⟩ := hq45
          have e55 := RMex.fr e_RMe hF54 rfl rfl
          refine Or.inr (Or.inl ⟨rfl, ?_⟩)
          refine r_store (i := 52) (u := 5) (w := 0) (L1 := [some ((6, 0)), some ((2, 0)), some ((2, 43)), some ((2, 81)), some (vi i), some (vi z46), none]) rfl rfl rfl rfl ?_
          refine r_load (i := 53) (u := 2) (w := 2) rfl rfl rfl ?_
          refine r_load (i := 54) (u := 0) (w := 2) rfl rfl rfl ?_
          refine r_load (i := 55) (u := 4) (w := 0) rfl rfl rfl ?_
          refine r_const (i := 56) (u := 1) (z := 1) rfl rfl ?_
          refine r_iadd (i := 57) rfl ?_
          refine r_scA (i := 58) hG rfl (by omega) (by omega) fun h56 => ?_
          have h56 : Rg (sc (i + 1).toNat) := h56
          refine z_eq (i := 59) (v := 62) rfl ⟨by omega, by omega⟩ (fun h57 => ?_) (fun h58 => absurd h58 (by omega))
          refine r_const (i := 62) (u := 0) (z := 0) rfl rfl ?_
          refine r_load (i := 63) (u := 0) (w := 2) rfl rfl rfl ?_
          refine r_load (i := 64) (u := 4) (w := 0) rfl rfl rfl ?_
          refine r_const (i := 65) (u := 2) (z := 2) rfl rfl ?_
          refine r_iadd (i := 66) rfl ?_
          refine r_scA (i := 67) hG rfl (by omega) (by omega) fun h59 => ?_
          have h59 : Rg (sc (i + 2).toNat) := h59
          refine r_load (i := 68) (u := 0) (w := 2) rfl rfl rfl ?_
          refine r_load (i := 69) (u := 4) (w := 0) rfl rfl rfl ?_
          refine r_const (i := 70) (u := 3) (z := 3) rfl rfl ?_
          refine r_iadd (i := 71) rfl ?_
          refine r_scA (i := 72) hG rfl (by omega) (by omega) fun h60 => ?_
          have h60 : Rg (sc (i + 3).toNat) := h60
          refine r_load (i := 73) (u := 0) (w := 2) rfl rfl rfl ?_
          refine r_load (i := 74) (u := 4) (w := 0) rfl rfl rfl ?_
          refine r_const (i := 75) (u := 4) (z := 4) rfl rfl ?_
          refine r_iadd (i := 76) rfl ?_
          refine r_scA (i := 77) hG rfl (by omega) (by omega) fun h61 => ?_
          have h61 : Rg (sc (i + 4).toNat) := h61
          refine r_call (i := 78) (u := 11) (v := 259) (w := 0) (b := 0) (na := 1541) (C2 := xC259) (as := [(2, 43), vi 0, vi (sc (i + 2).toNat), vi (sc (i + 3).toNat), vi (sc (i + 4).toNat)]) (s := []) rfl rfl rfl rfl rfl rfl rfl (sp259 (b := 0) (bits := sc (i + 2).toNat) (p := sc (i + 3).toNat) (up := sc (i + 4).toNat) hI53 ⟨by omega, by omega⟩ ⟨by omega, by omega⟩ ⟨by omega, by omega⟩ ⟨by omega, by omega⟩   (by omega)) (fun r62 S63 hq64 => ?_)
          obtain ⟨z65, rfl, h66, h67, mq68, hI69, hF70, hR71⟩ := hq64
          have e72 := RMex.fr e55 hF70 rfl rfl
          have e73 := N23x.fr e51 hF70 hR71 rfl rfl rfl
          have e74 := CRx.fr e52 hF70 rfl rfl
          have e75 := wRM_rm rm49 hR71
          refine Or.inr (Or.inl ⟨rfl, ?_⟩)
          have rt9 := (RT_type e_RT (by omega) (Int.le_trans (by decide) (hI.f tf1_7).1) ht50 hF54 rfl rfl mq68 hF70 rfl rfl).1
          have rk9 := (RT_type e_RT (by omega) (Int.le_trans (by decide) (hI.f tf1_7).1) ht50 hF54 rfl rfl mq68 hF70 rfl rfl).2.1
          have ro9 := (RT_type e_RT (by omega) (Int.le_trans (by decide) (hI.f tf1_7).1) ht50 hF54 rfl rfl mq68 hF70 rfl rfl).2.2
          refine r_store (i := 79) (u := 6) (w := 0) (L1 := [some ((6, 0)), some ((2, 0)), some ((2, 43)), some ((2, 81)), some (vi i), some (vi z46), some (vi z65)]) rfl rfl rfl rfl ?_
          refine r_goto (i := 80) (v := 654) rfl ?_
          refine r_iinc (i := 654) (u := 10) (v := 4) (s := 10) (L1 := [some ((6, 0)), some ((2, 0)), some ((2, 43)), some ((2, 81)), some (vi (i + 10)), some (vi z46), some (vi z65)]) rfl rfl rfl rfl rfl ?_
          refine r_goto (i := 655) (v := 13) rfl ?_
          refine yT_drop (L1 := [some ((6, 0)), some ((2, 0)), some ((2, 43)), some ((2, 81)), some (vi (i + 10)), none, none]) rfl ?_
          exact ih S63 hI69 e73 e74 rt9 e72 (i + 10) ⟨by omega, by omega⟩ (by exact wRM_le e75 (by omega)) (by omega)
        · refine r_const (i := 32) (u := 1) (z := 1) rfl rfl ?_
          refine r_goto (i := 33) (v := 35) rfl ?_
          refine r_load (i := 35) (u := 0) (w := 2) rfl rfl rfl ?_
          refine r_load (i := 36) (u := 4) (w := 0) rfl rfl rfl ?_
          refine r_const (i := 37) (u := 2) (z := 2) rfl rfl ?_
          refine r_iadd (i := 38) rfl ?_
          refine r_scA (i := 39) hG rfl (by omega) (by omega) fun h76 => ?_
          have h76 : Rg (sc (i + 2).toNat) := h76
          refine r_load (i := 40) (u := 0) (w := 2) rfl rfl rfl ?_
          refine r_load (i := 41) (u := 4) (w := 0) rfl rfl rfl ?_
          refine r_const (i := 42) (u := 3) (z := 3) rfl rfl ?_
          refine r_iadd (i := 43) rfl ?_
          refine r_scA (i := 44) hG rfl (by omega) (by omega) fun h77 => ?_
          have h77 : Rg (sc (i + 3).toNat) := h77
          refine r_load (i := 45) (u := 0) (w := 2) rfl rfl rfl ?_
          refine r_load (i := 46) (u := 4) (w := 0) rfl rfl rfl ?_
          refine r_const (i := 47) (u := 4) (z := 4) rfl rfl ?_
          refine r_iadd (i := 48) rfl ?_
          refine r_scA (i := 49) hG rfl (by omega) (by omega) fun h78 => ?_
          have h78 : Rg (sc (i + 4).toNat) := h78
          refine r_load (i := 50) (u := 3) (w := 2) rfl rfl rfl ?_
          refine r_call (i := 51) (u := 65535) (v := 179) (w := 0) (b := 2) (na := 1798) (C2 := xC179) (as := [(2, 0), vi 1, vi (sc (i + 2).toNat), vi (sc (i + 3).toNat), vi (sc (i + 4).toNat), (2, 81)]) (s := []) rfl rfl rfl rfl rfl rfl rfl (sp179 (p0 := 1) (p1 := sc (i + 2).toNat) (p2 := sc (i + 3).toNat) (p3 := sc (i + 4).toNat) (kR := 5199 - i) hI ⟨by omega, by omega⟩ ⟨by omega, by omega⟩ ⟨by omega, by omega⟩ ⟨by omega, by omega⟩ (by exact wRM_le q_0 (by omega)) (by omega) e_N23 e_CR (by omega)) (fun r79 S80 hq81 => ?_)
          obtain ⟨z82, rfl, h83, h84, rm85, ht86, e87, e88, hI89, hF90⟩ := hq81
          have e91 := RMex.fr e_RMe hF90 rfl rfl
          refine Or.inr (Or.inl ⟨rfl, ?_⟩)
          refine r_store (i := 52) (u := 5) (w := 0) (L1 := [some ((6, 0)), some ((2, 0)), some ((2, 43)), some ((2, 81)), some (vi i), some (vi z82), none]) rfl rfl rfl rfl ?_
          refine r_load (i := 53) (u := 2) (w := 2) rfl rfl rfl ?_
          refine r_load (i := 54) (u := 0) (w := 2) rfl rfl rfl ?_
          refine r_load (i := 55) (u := 4) (w := 0) rfl rfl rfl ?_
          refine r_const (i := 56) (u := 1) (z := 1) rfl rfl ?_
          refine r_iadd (i := 57) rfl ?_
          refine r_scA (i := 58) hG rfl (by omega) (by omega) fun h92 => ?_
          have h92 : Rg (sc (i + 1).toNat) := h92
          refine z_eq (i := 59) (v := 62) rfl ⟨by omega, by omega⟩ (fun h93 => absurd h93 (by omega)) (fun h94 => ?_)
          refine r_const (i := 60) (u := 1) (z := 1) rfl rfl ?_
          refine r_goto (i := 61) (v := 63) rfl ?_
          refine r_load (i := 63) (u := 0) (w := 2) rfl rfl rfl ?_
          refine r_load (i := 64) (u := 4) (w := 0) rfl rfl rfl ?_
          refine r_const (i := 65) (u := 2) (z := 2) rfl rfl ?_
          refine r_iadd (i := 66) rfl ?_
          refine r_scA (i := 67) hG rfl (by omega) (by omega) fun h95 => ?_
          have h95 : Rg (sc (i + 2).toNat) := h95
          refine r_load (i := 68) (u := 0) (w := 2) rfl rfl rfl ?_
          refine r_load (i := 69) (u := 4) (w := 0) rfl rfl rfl ?_
          refine r_const (i := 70) (u := 3) (z := 3) rfl rfl ?_
          refine r_iadd (i := 71) rfl ?_
          refine r_scA (i := 72) hG rfl (by omega) (by omega) fun h96 => ?_
          have h96 : Rg (sc (i + 3).toNat) := h96
          refine r_load (i := 73) (u := 0) (w := 2) rfl rfl rfl ?_
          refine r_load (i := 74) (u := 4) (w := 0) rfl rfl rfl ?_
          refine r_const (i := 75) (u := 4) (z := 4) rfl rfl ?_
          refine r_iadd (i := 76) rfl ?_
          refine r_scA (i := 77) hG rfl (by omega) (by omega) fun h97 => ?_
          have h97 : Rg (sc (i + 4).toNat) := h97
          refine r_call (i := 78) (u := 11) (v := 259) (w := 0) (b := 0) (na := 1541) (C2 := xC259) (as := [(2, 43), vi 1, vi (sc (i + 2).toNat), vi (sc (i + 3).toNat), vi (sc (i + 4).toNat)]) (s := []) rfl rfl rfl rfl rfl rfl rfl (sp259 (b := 1) (bits := sc (i + 2).toNat) (p := sc (i + 3).toNat) (up := sc (i + 4).toNat) hI89 ⟨by omega, by omega⟩ ⟨by omega, by omega⟩ ⟨by omega, by omega⟩ ⟨by omega, by omega⟩   (by omega)) (fun r98 S99 hq100 => ?_)
          obtain ⟨z101, rfl, h102, h103, mq104, hI105, hF106, hR107⟩ := hq100
          have e108 := RMex.fr e91 hF106 rfl rfl
          have e109 := N23x.fr e87 hF106 hR107 rfl rfl rfl
          have e110 := CRx.fr e88 hF106 rfl rfl
          have e111 := wRM_rm rm85 hR107
          refine Or.inr (Or.inl ⟨rfl, ?_⟩)
          have rt9 := (RT_type e_RT (by omega) (Int.le_trans (by decide) (hI.f tf1_7).1) ht86 hF90 rfl rfl mq104 hF106 rfl rfl).1
          have rk9 := (RT_type e_RT (by omega) (Int.le_trans (by decide) (hI.f tf1_7).1) ht86 hF90 rfl rfl mq104 hF106 rfl rfl).2.1
          have ro9 := (RT_type e_RT (by omega) (Int.le_trans (by decide) (hI.f tf1_7).1) ht86 hF90 rfl rfl mq104 hF106 rfl rfl).2.2
          refine r_store (i := 79) (u := 6) (w := 0) (L1 := [some ((6, 0)), some ((2, 0)), some ((2, 43)), some ((2, 81)), some (vi i), some (vi z82), some (vi z101)]) rfl rfl rfl rfl ?_
          refine r_goto (i := 80) (v := 654) rfl ?_
          refine r_iinc (i := 654) (u := 10) (v := 4) (s := 10) (L1 := [some ((6, 0)), some ((2, 0)), some ((2, 43)), some ((2, 81)), some (vi (i + 10)), some (vi z82), some (vi z101)]) rfl rfl rfl rfl rfl ?_
          refine r_goto (i := 655) (v := 13) rfl ?_
          refine yT_drop (L1 := [some ((6, 0)), some ((2, 0)), some ((2, 43)), some ((2, 81)), some (vi (i + 10)), none, none]) rfl ?_
          exact ih S99 hI105 e109 e110 rt9 e108 (i + 10) ⟨by omega, by omega⟩ (by exact wRM_le e111 (by omega)) (by omega)
      · refine r_swK (i := 24) (u := 1) (v := 654) (k := 1) (t := 81) rfl rfl h6 (by decide) (by decide) rfl ?_
        refine r_load (i := 81) (u := 1) (w := 2) rfl rfl rfl ?_
        refine r_load (i := 82) (u := 0) (w := 2) rfl rfl rfl ?_
        refine r_load (i := 83) (u := 4) (w := 0) rfl rfl rfl ?_
        refine r_const (i := 84) (u := 1) (z := 1) rfl rfl ?_
        refine r_iadd (i := 85) rfl ?_
        refine r_scA (i := 86) hG rfl (by omega) (by omega) fun h112 => ?_
        have h112 : Rg (sc (i + 1).toNat) := h112
        refine r_load (i := 87) (u := 0) (w := 2) rfl rfl rfl ?_
        refine r_load (i := 88) (u := 4) (w := 0) rfl rfl rfl ?_
        refine r_const (i := 89) (u := 2) (z := 2) rfl rfl ?_
        refine r_iadd (i := 90) rfl ?_
        refine r_scA (i := 91) hG rfl (by omega) (by omega) fun h113 => ?_
        have h113 : Rg (sc (i + 2).toNat) := h113
        refine r_call (i := 92) (u := 65535) (v := 176) (w := 0) (b := 2) (na := 1027) (C2 := xC176) (as := [(2, 0), vi (sc (i + 1).toNat), vi (sc (i + 2).toNat)]) (s := []) rfl rfl rfl rfl rfl rfl rfl (sp176 (p0 := sc (i + 1).toNat) (p1 := sc (i + 2).toNat) (kR := 5199 - i) hI ⟨by omega, by omega⟩ ⟨by omega, by omega⟩ (by exact wRM_le q_0 (by omega)) (by omega) e_N23 e_CR (by omega)) (fun r114 S115 hq116 => ?_)
        obtain ⟨z117, rfl, h118, h119, rm120, e121, e122, hI123, hF124⟩ := hq116
        have e125 := RTx.fr e_RT hF124 rfl rfl
        have e126 := RMex.fr e_RMe hF124 rfl rfl
        refine Or.inr (Or.inl ⟨rfl, ?_⟩)
        refine r_store (i := 93) (u := 5) (w := 0) (L1 := [some ((6, 0)), some ((2, 0)), some ((2, 43)), some ((2, 81)), some (vi i), some (vi z117), none]) rfl rfl rfl rfl ?_
        refine r_load (i := 94) (u := 2) (w := 2) rfl rfl rfl ?_
        refine r_load (i := 95) (u := 0) (w := 2) rfl rfl rfl ?_
        refine r_load (i := 96) (u := 4) (w := 0) rfl rfl rfl ?_
        refine r_const (i := 97) (u := 1) (z := 1) rfl rfl ?_
        refine r_iadd (i := 98) rfl ?_
        refine r_scA (i := 99) hG rfl (by omega) (by omega) fun h127 => ?_
        have h127 : Rg (sc (i + 1).toNat) := h127
        refine r_load (i := 100) (u := 0) (w := 2) rfl rfl rfl ?_
        refine r_load (i := 101) (u := 4) (w := 0) rfl rfl rfl ?_
        refine r_const (i := 102) (u := 2) (z := 2) rfl rfl ?_
        refine r_iadd (i := 103) rfl ?_
        refine r_scA (i := 104) hG rfl (by omega) (by omega) fun h128 => ?_
        have h128 : Rg (sc (i + 2).toNat) := h128
        refine r_call (i := 105) (u := 11) (v := 206) (w := 0) (b := 0) (na := 1283) (C2 := xC206) (as := [(2, 43), vi (sc (i + 1).toNat), vi (sc (i + 2).toNat)]) (s := []) rfl rfl rfl rfl rfl rfl rfl (sp206 (t := sc (i + 1).toNat) (f := sc (i + 2).toNat) hI123 ⟨by omega, by omega⟩ ⟨by omega, by omega⟩   (by omega)) (fun r129 S130 hq131 => ?_)
        obtain ⟨rfl, hI132, hF133, hR134⟩ := hq131
        have e135 := RTx.fr e125 hF133 rfl rfl
        have e136 := RMex.fr e126 hF133 rfl rfl
        have e137 := N23x.fr e121 hF133 hR134 rfl rfl rfl
        have e138 := CRx.fr e122 hF133 rfl rfl
        have e139 := wRM_rm rm120 hR134
        refine Or.inl ⟨rfl, ?_⟩
        refine r_goto (i := 106) (v := 654) rfl ?_
        refine r_iinc (i := 654) (u := 10) (v := 4) (s := 10) (L1 := [some ((6, 0)), some ((2, 0)), some ((2, 43)), some ((2, 81)), some (vi (i + 10)), some (vi z117), none]) rfl rfl rfl rfl rfl ?_
        refine r_goto (i := 655) (v := 13) rfl ?_
        refine yT_drop (L1 := [some ((6, 0)), some ((2, 0)), some ((2, 43)), some ((2, 81)), some (vi (i + 10)), none, none]) rfl ?_
        exact ih S130 hI132 e137 e138 e135 e136 (i + 10) ⟨by omega, by omega⟩ (by exact wRM_le e139 (by omega)) (by omega)
      · refine r_swK (i := 24) (u := 1) (v := 654) (k := 2) (t := 107) rfl rfl h7 (by decide) (by decide) rfl ?_
        refine r_load (i := 107) (u := 1) (w := 2) rfl rfl rfl ?_
        refine r_load (i := 108) (u := 0) (w := 2) rfl rfl rfl ?_
        refine r_load (i := 109) (u := 4) (w := 0) rfl rfl rfl ?_
        refine r_const (i := 110) (u := 1) (z := 1) rfl rfl ?_
        refine r_iadd (i := 111) rfl ?_
        refine r_scA (i := 112) hG rfl (by omega) (by omega) fun h140 => ?_
        have h140 : Rg (sc (i + 1).toNat) := h140
        refine r_load (i := 113) (u := 0) (w := 2) rfl rfl rfl ?_
        refine r_load (i := 114) (u := 4) (w := 0) rfl rfl rfl ?_
        refine r_const (i := 115) (u := 2) (z := 2) rfl rfl ?_
        refine r_iadd (i := 116) rfl ?_
        refine r_scA (i := 117) hG rfl (by omega) (by omega) fun h141 => ?_
        have h141 : Rg (sc (i + 2).toNat) := h141
        refine r_load (i := 118) (u := 0) (w := 2) rfl rfl rfl ?_
        refine r_load (i := 119) (u := 4) (w := 0) rfl rfl rfl ?_
        refine r_const (i := 120) (u := 3) (z := 3) rfl rfl ?_
        refine r_iadd (i := 121) rfl ?_
        refine r_scA (i := 122) hG rfl (by omega) (by omega) fun h142 => ?_
        have h142 : Rg (sc (i + 3).toNat) := h142
        refine r_load (i := 123) (u := 0) (w := 2) rfl rfl rfl ?_
        refine r_load (i := 124) (u := 4) (w := 0) rfl rfl rfl ?_
        refine r_const (i := 125) (u := 4) (z := 4) rfl rfl ?_
        refine r_iadd (i := 126) rfl ?_
        refine r_scA (i := 127) hG rfl (by omega) (by omega) fun h143 => ?_
        have h143 : Rg (sc (i + 4).toNat) := h143
        refine r_load (i := 128) (u := 0) (w := 2) rfl rfl rfl ?_
        refine r_load (i := 129) (u := 4) (w := 0) rfl rfl rfl ?_
        refine r_const (i := 130) (u := 5) (z := 5) rfl rfl ?_
        refine r_iadd (i := 131) rfl ?_
        refine r_scA (i := 132) hG rfl (by omega) (by omega) fun h144 => ?_
        have h144 : Rg (sc (i + 5).toNat) := h144
        refine r_load (i := 133) (u := 3) (w := 2) rfl rfl rfl ?_
        refine r_call (i := 134) (u := 65535) (v := 177) (w := 0) (b := 2) (na := 2055) (C2 := xC177) (as := [(2, 0), vi (sc (i + 1).toNat), vi (sc (i + 2).toNat), vi (sc (i + 3).toNat), vi (sc (i + 4).toNat), vi (sc (i + 5).toNat), (2, 81)]) (s := []) rfl rfl rfl rfl rfl rfl rfl (sp177 (p0 := sc (i + 1).toNat) (p1 := sc (i + 2).toNat) (p2 := sc (i + 3).toNat) (p3 := sc (i + 4).toNat) (p4 := sc (i + 5).toNat) (kR := 5199 - i) hI ⟨by omega, by omega⟩ ⟨by omega, by omega⟩ ⟨by omega, by omega⟩ ⟨by omega, by omega⟩ ⟨by omega, by omega⟩ (by exact wRM_le q_0 (by omega)) (by omega) e_N23 e_CR (by omega)) (fun r145 S146 hq147 => ?_)
        obtain ⟨z148, rfl, h149, h150, rm151, hme152, e153, e154, hI155, hF156⟩ := hq147
        have e157 := RTx.fr e_RT hF156 rfl rfl
        refine Or.inr (Or.inl ⟨rfl, ?_⟩)
        refine r_store (i := 135) (u := 5) (w := 0) (L1 := [some ((6, 0)), some ((2, 0)), some ((2, 43)), some ((2, 81)), some (vi i), some (vi z148), none]) rfl rfl rfl rfl ?_
        refine r_load (i := 136) (u := 2) (w := 2) rfl rfl rfl ?_
        refine r_load (i := 137) (u := 0) (w := 2) rfl rfl rfl ?_
        refine r_load (i := 138) (u := 4) (w := 0) rfl rfl rfl ?_
        refine r_const (i := 139) (u := 1) (z := 1) rfl rfl ?_
        refine r_iadd (i := 140) rfl ?_
        refine r_scA (i := 141) hG rfl (by omega) (by omega) fun h158 => ?_
        have h158 : Rg (sc (i + 1).toNat) := h158
        refine r_load (i := 142) (u := 0) (w := 2) rfl rfl rfl ?_
        refine r_load (i := 143) (u := 4) (w := 0) rfl rfl rfl ?_
        refine r_const (i := 144) (u := 2) (z := 2) rfl rfl ?_
        refine r_iadd (i := 145) rfl ?_
        refine r_scA (i := 146) hG rfl (by omega) (by omega) fun h159 => ?_
        have h159 : Rg (sc (i + 2).toNat) := h159
        refine r_load (i := 147) (u := 0) (w := 2) rfl rfl rfl ?_
        refine r_load (i := 148) (u := 4) (w := 0) rfl rfl rfl ?_
        refine r_const (i := 149) (u := 3) (z := 3) rfl rfl ?_
        refine r_iadd (i := 150) rfl ?_
        refine r_scA (i := 151) hG rfl (by omega) (by omega) fun h160 => ?_
        have h160 : Rg (sc (i + 3).toNat) := h160
        refine r_load (i := 152) (u := 0) (w := 2) rfl rfl rfl ?_
        refine r_load (i := 153) (u := 4) (w := 0) rfl rfl rfl ?_
        refine r_const (i := 154) (u := 4) (z := 4) rfl rfl ?_
        refine r_iadd (i := 155) rfl ?_
        refine r_scA (i := 156) hG rfl (by omega) (by omega) fun h161 => ?_
        have h161 : Rg (sc (i + 4).toNat) := h161
        refine r_load (i := 157) (u := 0) (w := 2) rfl rfl rfl ?_
        refine r_load (i := 158) (u := 4) (w := 0) rfl rfl rfl ?_
        refine r_const (i := 159) (u := 5) (z := 5) rfl rfl ?_
        refine r_iadd (i := 160) rfl ?_
        refine r_scA (i := 161) hG rfl (by omega) (by omega) fun h162 => ?_
        have h162 : Rg (sc (i + 5).toNat) := h162
        refine r_call (i := 162) (u := 11) (v := 220) (w := 0) (b := 0) (na := 1542) (C2 := xC220) (as := [(2, 43), vi (sc (i + 1).toNat), vi (sc (i + 2).toNat), vi (sc (i + 3).toNat), vi (sc (i + 4).toNat), vi (sc (i + 5).toNat)]) (s := []) rfl rfl rfl rfl rfl rfl rfl (sp220 (t := sc (i + 1).toNat) (w0 := sc (i + 2).toNat) (bits := sc (i + 3).toNat) (al := sc (i + 4).toNat) (back := sc (i + 5).toNat) hI155 ⟨by omega, by omega⟩ ⟨by omega, by omega⟩ ⟨by omega, by omega⟩ ⟨by omega, by omega⟩ ⟨by omega, by omega⟩  e154 (by omega)) (fun r163 S164 hq165 => ?_)
        obtain ⟨z166, rfl, h167, h168, mq169, e170, hI171, hF172, hR173⟩ := hq165
        have e174 := RTx.fr e157 hF172 rfl rfl
        have e175 := N23x.fr e153 hF172 hR173 rfl rfl rfl
        have e176 := wRM_rm rm151 hR173
        refine Or.inr (Or.inl ⟨rfl, ?_⟩)
        have rm9 := (RMe_method e_RT e_RMe hme152 hF156 rfl rfl mq169 hF172 rfl rfl).1
        have rk9 := (RMe_method e_RT e_RMe hme152 hF156 rfl rfl mq169 hF172 rfl rfl).2.1
        have ro9 := (RMe_method e_RT e_RMe hme152 hF156 rfl rfl mq169 hF172 rfl rfl).2.2
        refine r_store (i := 163) (u := 6) (w := 0) (L1 := [some ((6, 0)), some ((2, 0)), some ((2, 43)), some ((2, 81)), some (vi i), some (vi z148), some (vi z166)]) rfl rfl rfl rfl ?_
        refine r_load (i := 164) (u := 2) (w := 2) rfl rfl rfl ?_
        have h177 := hI171.f tf43_0
        refine r_call (i := 165) (u := 11) (v := 256) (w := 0) (b := 0) (na := 257) (C2 := xC256) (as := [(2, 43)]) (s := []) rfl rfl rfl rfl rfl rfl rfl (sp256  hI171    (by omega)) (fun r178 S179 hq180 => ?_)
        obtain ⟨z181, rfl, h182, h183, h184, rfl⟩ := hq180
        refine Or.inr (Or.inl ⟨rfl, ?_⟩)
        refine r_load (i := 166) (u := 5) (w := 0) rfl rfl rfl ?_
        refine c_eq (i := 167) (v := 170) rfl ⟨by omega, by omega⟩ ⟨by omega, by omega⟩ (fun h185 => ?_) (fun h186 => ?_)
        · refine r_load (i := 170) (u := 5) (w := 0) rfl rfl rfl ?_
          refine z_ne (i := 171) (v := 181) rfl ⟨by omega, by omega⟩ (fun h187 => ?_) (fun h188 => ?_)
          · refine r_goto (i := 181) (v := 654) rfl ?_
            refine r_iinc (i := 654) (u := 10) (v := 4) (s := 10) (L1 := [some ((6, 0)), some ((2, 0)), some ((2, 43)), some ((2, 81)), some (vi (i + 10)), some (vi z148), some (vi z166)]) rfl rfl rfl rfl rfl ?_
            refine r_goto (i := 655) (v := 13) rfl ?_
            refine yT_drop (L1 := [some ((6, 0)), some ((2, 0)), some ((2, 43)), some ((2, 81)), some (vi (i + 10)), none, none]) rfl ?_
            exact ih S164 hI171 e175 e170 e174 rm9 (i + 10) ⟨by omega, by omega⟩ (by exact wRM_le e176 (by omega)) (by omega)
          · refine r_load (i := 172) (u := 3) (w := 2) rfl rfl rfl ?_
            refine r_const (i := 173) (u := 0) (z := 0) rfl rfl ?_
            refine r_laload (i := 174) rfl ly81 (by decide) (by omega) (by omega) fun h189 => ?_
            have h190 : S164.a 81 (0 : Int).toNat = S146.a 81 (0 : Int).toNat := hF172.a rfl _
            refine r_load (i := 175) (u := 6) (w := 0) rfl rfl rfl ?_
            refine r_i2l (i := 176) rfl ⟨by omega, by omega⟩ ?_
            refine r_lcmp (i := 177) rfl ⟨by omega, by omega⟩ ⟨by omega, by omega⟩ (fun h191 => ?_) (fun h192 => ?_) (fun h193 => ?_)
            · refine z_eq (i := 178) (v := 181) rfl ⟨by omega, by omega⟩ (fun h194 => absurd h194 (by omega)) (fun h195 => ?_)
              refine r_const (i := 179) (u := 0) (z := 0) rfl rfl ?_
              exact r_retZ (i := 180) rfl (by omega) (by omega) ⟨0, rfl, by omega, by omega⟩
            · refine z_eq (i := 178) (v := 181) rfl ⟨by omega, by omega⟩ (fun h196 => ?_) (fun h197 => absurd h197 (by omega))
              refine r_goto (i := 181) (v := 654) rfl ?_
              refine r_iinc (i := 654) (u := 10) (v := 4) (s := 10) (L1 := [some ((6, 0)), some ((2, 0)), some ((2, 43)), some ((2, 81)), some (vi (i + 10)), some (vi z148), some (vi z166)]) rfl rfl rfl rfl rfl ?_
              refine r_goto (i := 655) (v := 13) rfl ?_
              refine yT_drop (L1 := [some ((6, 0)), some ((2, 0)), some ((2, 43)), some ((2, 81)), some (vi (i + 10)), none, none]) rfl ?_
              exact ih S164 hI171 e175 e170 e174 rm9 (i + 10) ⟨by omega, by omega⟩ (by exact wRM_le e176 (by omega)) (by omega)
            · refine z_eq (i := 178) (v := 181) rfl ⟨by omega, by omega⟩ (fun h198 => absurd h198 (by omega)) (fun h199 => ?_)
              refine r_const (i := 179) (u := 0) (z := 0) rfl rfl ?_
              exact r_retZ (i := 180) rfl (by omega) (by omega) ⟨0, rfl, by omega, by omega⟩
        · refine r_const (i := 168) (u := 0) (z := 0) rfl rfl ?_
          exact r_retZ (i := 169) rfl (by omega) (by omega) ⟨0, rfl, by omega, by omega⟩
      · refine r_swK (i := 24) (u := 1) (v := 654) (k := 3) (t := 182) rfl rfl h8 (by decide) (by decide) rfl ?_
        refine r_load (i := 182) (u := 1) (w := 2) rfl rfl rfl ?_
        refine r_load (i := 183) (u := 0) (w := 2) rfl rfl rfl ?_
        refine r_load (i := 184) (u := 4) (w := 0) rfl rfl rfl ?_
        refine r_const (i := 185) (u := 1) (z := 1) rfl rfl ?_
        refine r_iadd (i := 186) rfl ?_
        refine r_scA (i := 187) hG rfl (by omega) (by omega) fun h200 => ?_
        have h200 : Rg (sc (i + 1).toNat) := h200
        refine r_load (i := 188) (u := 0) (w := 2) rfl rfl rfl ?_
        refine r_load (i := 189) (u := 4) (w := 0) rfl rfl rfl ?_
        refine r_const (i := 190) (u := 2) (z := 2) rfl rfl ?_
        refine r_iadd (i := 191) rfl ?_
        refine r_scA (i := 192) hG rfl (by omega) (by omega) fun h201 => ?_
        have h201 : Rg (sc (i + 2).toNat) := h201
        refine r_call (i := 193) (u := 65535) (v := 178) (w := 0) (b := 2) (na := 1027) (C2 := xC178) (as := [(2, 0), vi (sc (i + 1).toNat), vi (sc (i + 2).toNat)]) (s := []) rfl rfl rfl rfl rfl rfl rfl (sp178 (p0 := sc (i + 1).toNat) (p1 := sc (i + 2).toNat) (kR := 5199 - i) hI ⟨by omega, by omega⟩ ⟨by omega, by omega⟩ (by exact wRM_le q_0 (by omega)) (by omega) e_N23 e_CR (by omega)) (fun r202 S203 hq204 => ?_)
        obtain ⟨z205, rfl, h206, h207, rm208, e209, e210, hI211, hF212⟩ := hq204
        have e213 := RTx.fr e_RT hF212 rfl rfl
        have e214 := RMex.fr e_RMe hF212 rfl rfl
        refine Or.inr (Or.inl ⟨rfl, ?_⟩)
        refine r_store (i := 194) (u := 5) (w := 0) (L1 := [some ((6, 0)), some ((2, 0)), some ((2, 43)), some ((2, 81)), some (vi i), some (vi z205), none]) rfl rfl rfl rfl ?_
        refine r_load (i := 195) (u := 2) (w := 2) rfl rfl rfl ?_
        refine r_load (i := 196) (u := 0) (w := 2) rfl rfl rfl ?_
        refine r_load (i := 197) (u := 4) (w := 0) rfl rfl rfl ?_
        refine r_const (i := 198) (u := 1) (z := 1) rfl rfl ?_
        refine r_iadd (i := 199) rfl ?_
        refine r_scA (i := 200) hG rfl (by omega) (by omega) fun h215 => ?_
        have h215 : Rg (sc (i + 1).toNat) := h215
        refine r_load (i := 201) (u := 0) (w := 2) rfl rfl rfl ?_
        refine r_load (i := 202) (u := 4) (w := 0) rfl rfl rfl ?_
        refine r_const (i := 203) (u := 2) (z := 2) rfl rfl ?_
        refine r_iadd (i := 204) rfl ?_
        refine r_scA (i := 205) hG rfl (by omega) (by omega) fun h216 => ?_
        have h216 : Rg (sc (i + 2).toNat) := h216
        refine r_call (i := 206) (u := 11) (v := 255) (w := 0) (b := 0) (na := 1283) (C2 := xC255) (as := [(2, 43), vi (sc (i + 1).toNat), vi (sc (i + 2).toNat)]) (s := []) rfl rfl rfl rfl rfl rfl rfl (sp255 (m := sc (i + 1).toNat) (t := sc (i + 2).toNat) hI211 ⟨by omega, by omega⟩ ⟨by omega, by omega⟩   (by omega)) (fun r217 S218 hq219 => ?_)
        obtain ⟨rfl, hI220, hF221, hR222⟩ := hq219
        have e223 := RTx.fr e213 hF221 rfl rfl
        have e224 := RMex.fr e214 hF221 rfl rfl
        have e225 := N23x.fr e209 hF221 hR222 rfl rfl rfl
        have e226 := CRx.fr e210 hF221 rfl rfl
        have e227 := wRM_rm rm208 hR222
        refine Or.inl ⟨rfl, ?_⟩
        refine r_goto (i := 207) (v := 654) rfl ?_
        refine r_iinc (i := 654) (u := 10) (v := 4) (s := 10) (L1 := [some ((6, 0)), some ((2, 0)), some ((2, 43)), some ((2, 81)), some (vi (i + 10)), some (vi z205), none]) rfl rfl rfl rfl rfl ?_
        refine r_goto (i := 655) (v := 13) rfl ?_
        refine yT_drop (L1 := [some ((6, 0)), some ((2, 0)), some ((2, 43)), some ((2, 81)), some (vi (i + 10)), none, none]) rfl ?_
        exact ih S218 hI220 e225 e226 e223 e224 (i + 10) ⟨by omega, by omega⟩ (by exact wRM_le e227 (by omega)) (by omega)
      · refine r_swK (i := 24) (u := 1) (v := 654) (k := 4) (t := 208) rfl rfl h9 (by decide) (by decide) rfl ?_
        refine r_load (i := 208) (u := 1) (w := 2) rfl rfl rfl ?_
        refine r_load (i := 209) (u := 0) (w := 2) rfl rfl rfl ?_
        refine r_load (i := 210) (u := 4) (w := 0) rfl rfl rfl ?_
        refine r_const (i := 211) (u := 1) (z := 1) rfl rfl ?_
        refine r_iadd (i := 212) rfl ?_
        refine r_scA (i := 213) hG rfl (by omega) (by omega) fun h228 => ?_
        have h228 : Rg (sc (i + 1).toNat) := h228
        refine r_load (i := 214) (u := 0) (w := 2) rfl rfl rfl ?_
        refine r_load (i := 215) (u := 4) (w := 0) rfl rfl rfl ?_
        refine r_const (i := 216) (u := 2) (z := 2) rfl rfl ?_
        refine r_iadd (i := 217) rfl ?_
        refine r_scA (i := 218) hG rfl (by omega) (by omega) fun h229 => ?_
        have h229 : Rg (sc (i + 2).toNat) := h229
        refine r_call (i := 219) (u := 0) (v := 12) (w := 0) (b := 0) (na := 771) (C2 := xC12) (as := [(2, 0), vi (sc (i + 1).toNat), vi (sc (i + 2).toNat)]) (s := []) rfl rfl rfl rfl rfl rfl rfl (sp12 (t := sc (i + 1).toNat) (o := sc (i + 2).toNat) hI ⟨by omega, by omega⟩ ⟨by omega, by omega⟩   (by omega)) (fun r230 S231 hq232 => ?_)
        obtain ⟨z233, rfl, h234, h235, rfl⟩ := hq232
        refine Or.inr (Or.inl ⟨rfl, ?_⟩)
        refine r_pop (i := 220) rfl rfl ?_
        refine r_load (i := 221) (u := 2) (w := 2) rfl rfl rfl ?_
        refine r_load (i := 222) (u := 0) (w := 2) rfl rfl rfl ?_
        refine r_load (i := 223) (u := 4) (w := 0) rfl rfl rfl ?_
        refine r_const (i := 224) (u := 1) (z := 1) rfl rfl ?_
        refine r_iadd (i := 225) rfl ?_
        refine r_scA (i := 226) hG rfl (by omega) (by omega) fun h236 => ?_
        have h236 : Rg (sc (i + 1).toNat) := h236
        refine r_load (i := 227) (u := 0) (w := 2) rfl rfl rfl ?_
        refine r_load (i := 228) (u := 4) (w := 0) rfl rfl rfl ?_
        refine r_const (i := 229) (u := 2) (z := 2) rfl rfl ?_
        refine r_iadd (i := 230) rfl ?_
        refine r_scA (i := 231) hG rfl (by omega) (by omega) fun h237 => ?_
        have h237 : Rg (sc (i + 2).toNat) := h237
        refine r_call (i := 232) (u := 11) (v := 211) (w := 0) (b := 0) (na := 771) (C2 := xC211) (as := [(2, 43), vi (sc (i + 1).toNat), vi (sc (i + 2).toNat)]) (s := []) rfl rfl rfl rfl rfl rfl rfl (sp211 (t := sc (i + 1).toNat) (o := sc (i + 2).toNat) hI ⟨by omega, by omega⟩ ⟨by omega, by omega⟩   (by omega)) (fun r238 S239 hq240 => ?_)
        obtain ⟨z241, rfl, h242, h243, hI244, hF245, hR246⟩ := hq240
        have e247 := N23x.fr e_N23 hF245 hR246 rfl rfl rfl
        have e248 := CRx.fr e_CR hF245 rfl rfl
        have e249 := RTx.fr e_RT hF245 rfl rfl
        have e250 := RMex.fr e_RMe hF245 rfl rfl
        have e251 := wRM_rm q_0 hR246
        refine Or.inr (Or.inl ⟨rfl, ?_⟩)
        refine r_pop (i := 233) rfl rfl ?_
        refine r_goto (i := 234) (v := 654) rfl ?_
        refine r_iinc (i := 654) (u := 10) (v := 4) (s := 10) (L1 := [some ((6, 0)), some ((2, 0)), some ((2, 43)), some ((2, 81)), some (vi (i + 10)), none, none]) rfl rfl rfl rfl rfl ?_
        refine r_goto (i := 655) (v := 13) rfl ?_
        exact ih S239 hI244 e247 e248 e249 e250 (i + 10) ⟨by omega, by omega⟩ (by exact wRM_le e251 (by omega)) (by omega)
      · refine r_swK (i := 24) (u := 1) (v := 654) (k := 5) (t := 235) rfl rfl h10 (by decide) (by decide) rfl ?_
        refine r_load (i := 235) (u := 1) (w := 2) rfl rfl rfl ?_
        refine r_load (i := 236) (u := 0) (w := 2) rfl rfl rfl ?_
        refine r_load (i := 237) (u := 4) (w := 0) rfl rfl rfl ?_
        refine r_const (i := 238) (u := 1) (z := 1) rfl rfl ?_
        refine r_iadd (i := 239) rfl ?_
        refine r_scA (i := 240) hG rfl (by omega) (by omega) fun h252 => ?_
        have h252 : Rg (sc (i + 1).toNat) := h252
        refine r_load (i := 241) (u := 0) (w := 2) rfl rfl rfl ?_
        refine r_load (i := 242) (u := 4) (w := 0) rfl rfl rfl ?_
        refine r_const (i := 243) (u := 2) (z := 2) rfl rfl ?_
        refine r_iadd (i := 244) rfl ?_
        refine r_scA (i := 245) hG rfl (by omega) (by omega) fun h253 => ?_
        have h253 : Rg (sc (i + 2).toNat) := h253
        refine r_call (i := 246) (u := 0) (v := 14) (w := 0) (b := 0) (na := 771) (C2 := xC14) (as := [(2, 0), vi (sc (i + 1).toNat), vi (sc (i + 2).toNat)]) (s := []) rfl rfl rfl rfl rfl rfl rfl (sp14 (w0 := sc (i + 1).toNat) (k := sc (i + 2).toNat) hI ⟨by omega, by omega⟩ ⟨by omega, by omega⟩   (by omega)) (fun r254 S255 hq256 => ?_)
        obtain ⟨z257, rfl, h258, h259, h260, hI261, hF262, hR263⟩ := hq256
        have e264 := N23x.fr e_N23 hF262 hR263 rfl rfl rfl
        have e265 := CRx.fr e_CR hF262 rfl rfl
        have e266 := RTx.fr e_RT hF262 rfl rfl
        have e267 := RMex.fr e_RMe hF262 rfl rfl
        have e268 := wRM_rm q_0 hR263
        refine Or.inr (Or.inl ⟨rfl, ?_⟩)
        refine r_pop (i := 247) rfl rfl ?_
        refine r_load (i := 248) (u := 2) (w := 2) rfl rfl rfl ?_
        refine r_load (i := 249) (u := 0) (w := 2) rfl rfl rfl ?_
        refine r_load (i := 250) (u := 4) (w := 0) rfl rfl rfl ?_
        refine r_const (i := 251) (u := 1) (z := 1) rfl rfl ?_
        refine r_iadd (i := 252) rfl ?_
        refine r_scA (i := 253) hG rfl (by omega) (by omega) fun h269 => ?_
        have h269 : Rg (sc (i + 1).toNat) := h269
        refine r_load (i := 254) (u := 0) (w := 2) rfl rfl rfl ?_
        refine r_load (i := 255) (u := 4) (w := 0) rfl rfl rfl ?_
        refine r_const (i := 256) (u := 2) (z := 2) rfl rfl ?_
        refine r_iadd (i := 257) rfl ?_
        refine r_scA (i := 258) hG rfl (by omega) (by omega) fun h270 => ?_
        have h270 : Rg (sc (i + 2).toNat) := h270
        refine r_call (i := 259) (u := 11) (v := 232) (w := 0) (b := 0) (na := 771) (C2 := xC232) (as := [(2, 43), vi (sc (i + 1).toNat), vi (sc (i + 2).toNat)]) (s := []) rfl rfl rfl rfl rfl rfl rfl (sp232 (w0 := sc (i + 1).toNat) (k := sc (i + 2).toNat) hI261 ⟨by omega, by omega⟩ ⟨by omega, by omega⟩   (by omega)) (fun r271 S272 hq273 => ?_)
        obtain ⟨z274, rfl, h275, h276, h277, hI278, hF279, hR280⟩ := hq273
        have e281 := N23x.fr e264 hF279 hR280 rfl rfl rfl
        have e282 := CRx.fr e265 hF279 rfl rfl
        have e283 := RTx.fr e266 hF279 rfl rfl
        have e284 := RMex.fr e267 hF279 rfl rfl
        have e285 := wRM_rm e268 hR280
        refine Or.inr (Or.inl ⟨rfl, ?_⟩)
        refine r_pop (i := 260) rfl rfl ?_
        refine r_goto (i := 261) (v := 654) rfl ?_
        refine r_iinc (i := 654) (u := 10) (v := 4) (s := 10) (L1 := [some ((6, 0)), some ((2, 0)), some ((2, 43)), some ((2, 81)), some (vi (i + 10)), none, none]) rfl rfl rfl rfl rfl ?_
        refine r_goto (i := 655) (v := 13) rfl ?_
        exact ih S272 hI278 e281 e282 e283 e284 (i + 10) ⟨by omega, by omega⟩ (by exact wRM_le e285 (by omega)) (by omega)
      · refine r_swK (i := 24) (u := 1) (v := 654) (k := 6) (t := 262) rfl rfl h11 (by decide) (by decide) rfl ?_
        refine r_load (i := 262) (u := 1) (w := 2) rfl rfl rfl ?_
        refine r_load (i := 263) (u := 0) (w := 2) rfl rfl rfl ?_
        refine r_load (i := 264) (u := 4) (w := 0) rfl rfl rfl ?_
        refine r_const (i := 265) (u := 1) (z := 1) rfl rfl ?_
        refine r_iadd (i := 266) rfl ?_
        refine r_scA (i := 267) hG rfl (by omega) (by omega) fun h286 => ?_
        have h286 : Rg (sc (i + 1).toNat) := h286
        refine r_load (i := 268) (u := 0) (w := 2) rfl rfl rfl ?_
        refine r_load (i := 269) (u := 4) (w := 0) rfl rfl rfl ?_
        refine r_const (i := 270) (u := 2) (z := 2) rfl rfl ?_
        refine r_iadd (i := 271) rfl ?_
        refine r_scA (i := 272) hG rfl (by omega) (by omega) fun h287 => ?_
        have h287 : Rg (sc (i + 2).toNat) := h287
        refine r_load (i := 273) (u := 0) (w := 2) rfl rfl rfl ?_
        refine r_load (i := 274) (u := 4) (w := 0) rfl rfl rfl ?_
        refine r_const (i := 275) (u := 3) (z := 3) rfl rfl ?_
        refine r_iadd (i := 276) rfl ?_
        refine r_scA (i := 277) hG rfl (by omega) (by omega) fun h288 => ?_
        have h288 : Rg (sc (i + 3).toNat) := h288
        refine r_load (i := 278) (u := 0) (w := 2) rfl rfl rfl ?_
        refine r_load (i := 279) (u := 4) (w := 0) rfl rfl rfl ?_
        refine r_const (i := 280) (u := 4) (z := 4) rfl rfl ?_
        refine r_iadd (i := 281) rfl ?_
        refine r_scA (i := 282) hG rfl (by omega) (by omega) fun h289 => ?_
        have h289 : Rg (sc (i + 4).toNat) := h289
        refine r_load (i := 283) (u := 3) (w := 2) rfl rfl rfl ?_
        refine r_call (i := 284) (u := 65535) (v := 175) (w := 0) (b := 2) (na := 1798) (C2 := xC175) (as := [(2, 0), vi (sc (i + 1).toNat), vi (sc (i + 2).toNat), vi (sc (i + 3).toNat), vi (sc (i + 4).toNat), (2, 81)]) (s := []) rfl rfl rfl rfl rfl rfl rfl (sp175 (p0 := sc (i + 1).toNat) (p1 := sc (i + 2).toNat) (p2 := sc (i + 3).toNat) (p3 := sc (i + 4).toNat) (kR := 5199 - i) hI ⟨by omega, by omega⟩ ⟨by omega, by omega⟩ ⟨by omega, by omega⟩ ⟨by omega, by omega⟩ (by exact wRM_le q_0 (by omega)) (by omega) e_N23 e_CR (by omega)) (fun r290 S291 hq292 => ?_)
        obtain ⟨z293, rfl, h294, h295, rm296, e297, e298, hI299, hF300⟩ := hq292
        have e301 := RTx.fr e_RT hF300 rfl rfl
        have e302 := RMex.fr e_RMe hF300 rfl rfl
        refine Or.inr (Or.inl ⟨rfl, ?_⟩)
        refine r_store (i := 285) (u := 5) (w := 0) (L1 := [some ((6, 0)), some ((2, 0)), some ((2, 43)), some ((2, 81)), some (vi i), some (vi z293), none]) rfl rfl rfl rfl ?_
        refine r_load (i := 286) (u := 2) (w := 2) rfl rfl rfl ?_
        refine r_load (i := 287) (u := 0) (w := 2) rfl rfl rfl ?_
        refine r_load (i := 288) (u := 4) (w := 0) rfl rfl rfl ?_
        refine r_const (i := 289) (u := 1) (z := 1) rfl rfl ?_
        refine r_iadd (i := 290) rfl ?_
        refine r_scA (i := 291) hG rfl (by omega) (by omega) fun h303 => ?_
        have h303 : Rg (sc (i + 1).toNat) := h303
        refine r_load (i := 292) (u := 0) (w := 2) rfl rfl rfl ?_
        refine r_load (i := 293) (u := 4) (w := 0) rfl rfl rfl ?_
        refine r_const (i := 294) (u := 2) (z := 2) rfl rfl ?_
        refine r_iadd (i := 295) rfl ?_
        refine r_scA (i := 296) hG rfl (by omega) (by omega) fun h304 => ?_
        have h304 : Rg (sc (i + 2).toNat) := h304
        refine r_load (i := 297) (u := 0) (w := 2) rfl rfl rfl ?_
        refine r_load (i := 298) (u := 4) (w := 0) rfl rfl rfl ?_
        refine r_const (i := 299) (u := 3) (z := 3) rfl rfl ?_
        refine r_iadd (i := 300) rfl ?_
        refine r_scA (i := 301) hG rfl (by omega) (by omega) fun h305 => ?_
        have h305 : Rg (sc (i + 3).toNat) := h305
        refine r_load (i := 302) (u := 0) (w := 2) rfl rfl rfl ?_
        refine r_load (i := 303) (u := 4) (w := 0) rfl rfl rfl ?_
        refine r_const (i := 304) (u := 4) (z := 4) rfl rfl ?_
        refine r_iadd (i := 305) rfl ?_
        refine r_scA (i := 306) hG rfl (by omega) (by omega) fun h306 => ?_
        have h306 : Rg (sc (i + 4).toNat) := h306
        refine r_call (i := 307) (u := 11) (v := 203) (w := 0) (b := 0) (na := 2565) (C2 := xC203) (as := [(2, 43), vi (sc (i + 1).toNat), vi (sc (i + 2).toNat), vi (sc (i + 3).toNat), vi (sc (i + 4).toNat)]) (s := []) rfl rfl rfl rfl rfl rfl rfl (sp203 (c := sc (i + 1).toNat) (a := sc (i + 2).toNat) (b := sc (i + 3).toNat) (e := sc (i + 4).toNat) hI299 ⟨by omega, by omega⟩ ⟨by omega, by omega⟩ ⟨by omega, by omega⟩ ⟨by omega, by omega⟩  e298 (by omega)) (fun r307 S308 hq309 => ?_)
        obtain ⟨z310, rfl, h311, h312, e313, hI314, hF315, hR316⟩ := hq309
        have e317 := RTx.fr e301 hF315 rfl rfl
        have e318 := RMex.fr e302 hF315 rfl rfl
        have e319 := N23x.fr e297 hF315 hR316 rfl rfl rfl
        have e320 := wRM_rm rm296 hR316
        refine Or.inr (Or.inl ⟨rfl, ?_⟩)
        refine r_store (i := 308) (u := 6) (w := 0) (L1 := [some ((6, 0)), some ((2, 0)), some ((2, 43)), some ((2, 81)), some (vi i), some (vi z293), some (vi z310)]) rfl rfl rfl rfl ?_
        refine r_goto (i := 309) (v := 654) rfl ?_
        refine r_iinc (i := 654) (u := 10) (v := 4) (s := 10) (L1 := [some ((6, 0)), some ((2, 0)), some ((2, 43)), some ((2, 81)), some (vi (i + 10)), some (vi z293), some (vi z310)]) rfl rfl rfl rfl rfl ?_
        refine r_goto (i := 655) (v := 13) rfl ?_
        refine yT_drop (L1 := [some ((6, 0)), some ((2, 0)), some ((2, 43)), some ((2, 81)), some (vi (i + 10)), none, none]) rfl ?_
        exact ih S308 hI314 e319 e313 e317 e318 (i + 10) ⟨by omega, by omega⟩ (by exact wRM_le e320 (by omega)) (by omega)
      · refine r_swK (i := 24) (u := 1) (v := 654) (k := 7) (t := 310) rfl rfl h12 (by decide) (by decide) rfl ?_
        refine r_load (i := 310) (u := 1) (w := 2) rfl rfl rfl ?_
        refine r_call (i := 311) (u := 0) (v := 19) (w := 0) (b := 0) (na := 257) (C2 := xC19) (as := [(2, 0)]) (s := []) rfl rfl rfl rfl rfl rfl rfl (sp19  hI    (by omega)) (fun r321 S322 hq323 => ?_)
        obtain ⟨z324, rfl, h325, h326, rfl⟩ := hq323
        refine Or.inr (Or.inl ⟨rfl, ?_⟩)
        refine r_pop (i := 312) rfl rfl ?_
        refine r_load (i := 313) (u := 2) (w := 2) rfl rfl rfl ?_
        refine r_call (i := 314) (u := 11) (v := 244) (w := 0) (b := 0) (na := 257) (C2 := xC244) (as := [(2, 43)]) (s := []) rfl rfl rfl rfl rfl rfl rfl (sp244  hI    (by omega)) (fun r327 S328 hq329 => ?_)
        obtain ⟨z330, rfl, h331, h332, hI333, hF334, hR335⟩ := hq329
        have e336 := N23x.fr e_N23 hF334 hR335 rfl rfl rfl
        have e337 := CRx.fr e_CR hF334 rfl rfl
        have e338 := RTx.fr e_RT hF334 rfl rfl
        have e339 := RMex.fr e_RMe hF334 rfl rfl
        have e340 := wRM_rm q_0 hR335
        refine Or.inr (Or.inl ⟨rfl, ?_⟩)
        refine r_pop (i := 315) rfl rfl ?_
        refine r_goto (i := 316) (v := 654) rfl ?_
        refine r_iinc (i := 654) (u := 10) (v := 4) (s := 10) (L1 := [some ((6, 0)), some ((2, 0)), some ((2, 43)), some ((2, 81)), some (vi (i + 10)), none, none]) rfl rfl rfl rfl rfl ?_
        refine r_goto (i := 655) (v := 13) rfl ?_
        exact ih S328 hI333 e336 e337 e338 e339 (i + 10) ⟨by omega, by omega⟩ (by exact wRM_le e340 (by omega)) (by omega)
      · refine r_swK (i := 24) (u := 1) (v := 654) (k := 8) (t := 317) rfl rfl h13 (by decide) (by decide) rfl ?_
        refine r_load (i := 317) (u := 1) (w := 2) rfl rfl rfl ?_
        refine r_load (i := 318) (u := 0) (w := 2) rfl rfl rfl ?_
        refine r_load (i := 319) (u := 4) (w := 0) rfl rfl rfl ?_
        refine r_const (i := 320) (u := 1) (z := 1) rfl rfl ?_
        refine r_iadd (i := 321) rfl ?_
        refine r_scA (i := 322) hG rfl (by omega) (by omega) fun h341 => ?_
        have h341 : Rg (sc (i + 1).toNat) := h341
        refine r_call (i := 323) (u := 0) (v := 18) (w := 0) (b := 0) (na := 514) (C2 := xC18) (as := [(2, 0), vi (sc (i + 1).toNat)]) (s := []) rfl rfl rfl rfl rfl rfl rfl (sp18 (k := sc (i + 1).toNat) hI ⟨by omega, by omega⟩   (by omega)) (fun r342 S343 hq344 => ?_)
        obtain ⟨z345, rfl, h346, h347, rfl⟩ := hq344
        refine Or.inr (Or.inl ⟨rfl, ?_⟩)
        refine r_pop (i := 324) rfl rfl ?_
        refine r_load (i := 325) (u := 2) (w := 2) rfl rfl rfl ?_
        refine r_load (i := 326) (u := 0) (w := 2) rfl rfl rfl ?_
        refine r_load (i := 327) (u := 4) (w := 0) rfl rfl rfl ?_
        refine r_const (i := 328) (u := 1) (z := 1) rfl rfl ?_
        refine r_iadd (i := 329) rfl ?_
        refine r_scA (i := 330) hG rfl (by omega) (by omega) fun h348 => ?_
        have h348 : Rg (sc (i + 1).toNat) := h348
        refine r_call (i := 331) (u := 11) (v := 243) (w := 0) (b := 0) (na := 514) (C2 := xC243) (as := [(2, 43), vi (sc (i + 1).toNat)]) (s := []) rfl rfl rfl rfl rfl rfl rfl (sp243 (k := sc (i + 1).toNat) hI ⟨by omega, by omega⟩   (by omega)) (fun r349 S350 hq351 => ?_)
        obtain ⟨z352, rfl, h353, h354, hI355, hF356, hR357⟩ := hq351
        have e358 := N23x.fr e_N23 hF356 hR357 rfl rfl rfl
        have e359 := CRx.fr e_CR hF356 rfl rfl
        have e360 := RTx.fr e_RT hF356 rfl rfl
        have e361 := RMex.fr e_RMe hF356 rfl rfl
        have e362 := wRM_rm q_0 hR357
        refine Or.inr (Or.inl ⟨rfl, ?_⟩)
        refine r_pop (i := 332) rfl rfl ?_
        refine r_goto (i := 333) (v := 654) rfl ?_
        refine r_iinc (i := 654) (u := 10) (v := 4) (s := 10) (L1 := [some ((6, 0)), some ((2, 0)), some ((2, 43)), some ((2, 81)), some (vi (i + 10)), none, none]) rfl rfl rfl rfl rfl ?_
        refine r_goto (i := 655) (v := 13) rfl ?_
        exact ih S350 hI355 e358 e359 e360 e361 (i + 10) ⟨by omega, by omega⟩ (by exact wRM_le e362 (by omega)) (by omega)
      · refine r_swK (i := 24) (u := 1) (v := 654) (k := 9) (t := 334) rfl rfl h14 (by decide) (by decide) rfl ?_
        refine r_load (i := 334) (u := 1) (w := 2) rfl rfl rfl ?_
        refine r_load (i := 335) (u := 0) (w := 2) rfl rfl rfl ?_
        refine r_load (i := 336) (u := 4) (w := 0) rfl rfl rfl ?_
        refine r_const (i := 337) (u := 1) (z := 1) rfl rfl ?_
        refine r_iadd (i := 338) rfl ?_
        refine r_scA (i := 339) hG rfl (by omega) (by omega) fun h363 => ?_
        have h363 : Rg (sc (i + 1).toNat) := h363
        refine r_load (i := 340) (u := 0) (w := 2) rfl rfl rfl ?_
        refine r_load (i := 341) (u := 4) (w := 0) rfl rfl rfl ?_
        refine r_const (i := 342) (u := 2) (z := 2) rfl rfl ?_
        refine r_iadd (i := 343) rfl ?_
        refine r_scA (i := 344) hG rfl (by omega) (by omega) fun h364 => ?_
        have h364 : Rg (sc (i + 2).toNat) := h364
        refine r_i2l (i := 345) rfl ⟨by omega, by omega⟩ ?_
        refine r_const (i := 346) (u := 32) (z := 32) rfl rfl ?_
        refine r_lshl (i := 347) rfl ?_
        refine r_load (i := 348) (u := 0) (w := 2) rfl rfl rfl ?_
        refine r_load (i := 349) (u := 4) (w := 0) rfl rfl rfl ?_
        refine r_const (i := 350) (u := 3) (z := 3) rfl rfl ?_
        refine r_iadd (i := 351) rfl ?_
        refine r_scA (i := 352) hG rfl (by omega) (by omega) fun h365 => ?_
        have h365 : Rg (sc (i + 3).toNat) := h365
        refine r_i2l (i := 353) rfl ⟨by omega, by omega⟩ ?_
        refine r_lconst (i := 354) (u := 4294967295) (z := 4294967295) rfl rfl ?_
        refine r_land (i := 355) rfl ?_
        have h366 := @yland_c (sc (i + 3).toNat) 4294967295 (by decide) (by decide)
        refine r_lor (i := 356) rfl ?_
        have h367 := ylor_rl ((sc (i + 2).toNat) * 4294967296) (yland (sc (i + 3).toNat) 4294967295)
        refine r_call (i := 357) (u := 65535) (v := 173) (w := 0) (b := 2) (na := 1283) (C2 := xC173) (as := [(2, 0), vi (sc (i + 1).toNat), vl (ylor ((sc (i + 2).toNat) * 4294967296) (yland (sc (i + 3).toNat) 4294967295))]) (s := []) rfl rfl rfl rfl rfl rfl rfl (sp173 (p0 := sc (i + 1).toNat) (p1 := ylor ((sc (i + 2).toNat) * 4294967296) (yland (sc (i + 3).toNat) 4294967295)) (kR := 5199 - i) hI ⟨by omega, by omega⟩ ⟨by omega, by omega⟩ (by exact wRM_le q_0 (by omega)) (by omega) e_N23 e_CR (by omega)) (fun r368 S369 hq370 => ?_)
        obtain ⟨z371, rfl, h372, h373, rm374, e375, e376, hI377, hF378⟩ := hq370
        have e379 := RTx.fr e_RT hF378 rfl rfl
        have e380 := RMex.fr e_RMe hF378 rfl rfl
        refine Or.inr (Or.inl ⟨rfl, ?_⟩)
        refine r_store (i := 358) (u := 5) (w := 0) (L1 := [some ((6, 0)), some ((2, 0)), some ((2, 43)), some ((2, 81)), some (vi i), some (vi z371), none]) rfl rfl rfl rfl ?_
        refine r_load (i := 359) (u := 2) (w := 2) rfl rfl rfl ?_
        refine r_load (i := 360) (u := 0) (w := 2) rfl rfl rfl ?_
        refine r_load (i := 361) (u := 4) (w := 0) rfl rfl rfl ?_
        refine r_const (i := 362) (u := 1) (z := 1) rfl rfl ?_
        refine r_iadd (i := 363) rfl ?_
        refine r_scA (i := 364) hG rfl (by omega) (by omega) fun h381 => ?_
        have h381 : Rg (sc (i + 1).toNat) := h381
        refine r_load (i := 365) (u := 0) (w := 2) rfl rfl rfl ?_
        refine r_load (i := 366) (u := 4) (w := 0) rfl rfl rfl ?_
        refine r_const (i := 367) (u := 2) (z := 2) rfl rfl ?_
        refine r_iadd (i := 368) rfl ?_
        refine r_scA (i := 369) hG rfl (by omega) (by omega) fun h382 => ?_
        have h382 : Rg (sc (i + 2).toNat) := h382
        refine r_i2l (i := 370) rfl ⟨by omega, by omega⟩ ?_
        refine r_const (i := 371) (u := 32) (z := 32) rfl rfl ?_
        refine r_lshl (i := 372) rfl ?_
        refine r_load (i := 373) (u := 0) (w := 2) rfl rfl rfl ?_
        refine r_load (i := 374) (u := 4) (w := 0) rfl rfl rfl ?_
        refine r_const (i := 375) (u := 3) (z := 3) rfl rfl ?_
        refine r_iadd (i := 376) rfl ?_
        refine r_scA (i := 377) hG rfl (by omega) (by omega) fun h383 => ?_
        have h383 : Rg (sc (i + 3).toNat) := h383
        refine r_i2l (i := 378) rfl ⟨by omega, by omega⟩ ?_
        refine r_lconst (i := 379) (u := 4294967295) (z := 4294967295) rfl rfl ?_
        refine r_land (i := 380) rfl ?_
        have h384 := @yland_c (sc (i + 3).toNat) 4294967295 (by decide) (by decide)
        refine r_lor (i := 381) rfl ?_
        have h385 := ylor_rl ((sc (i + 2).toNat) * 4294967296) (yland (sc (i + 3).toNat) 4294967295)
        refine r_call (i := 382) (u := 11) (v := 181) (w := 0) (b := 0) (na := 1539) (C2 := xC181) (as := [(2, 43), vi (sc (i + 1).toNat), vl (ylor ((sc (i + 2).toNat) * 4294967296) (yland (sc (i + 3).toNat) 4294967295))]) (s := []) rfl rfl rfl rfl rfl rfl rfl (sp181 (w0 := sc (i + 1).toNat) (v := ylor ((sc (i + 2).toNat) * 4294967296) (yland (sc (i + 3).toNat) 4294967295)) hI377 ⟨by omega, by omega⟩ ⟨by omega, by omega⟩   (by omega)) (fun r386 S387 hq388 => ?_)
        obtain ⟨rfl, hI389, hF390, hR391⟩ := hq388
        have e392 := RTx.fr e379 hF390 rfl rfl
        have e393 := RMex.fr e380 hF390 rfl rfl
        have e394 := N23x.fr e375 hF390 hR391 rfl rfl rfl
        have e395 := CRx.fr e376 hF390 rfl rfl
        have e396 := wRM_rm rm374 hR391
        refine Or.inl ⟨rfl, ?_⟩
        refine r_goto (i := 383) (v := 654) rfl ?_
        refine r_iinc (i := 654) (u := 10) (v := 4) (s := 10) (L1 := [some ((6, 0)), some ((2, 0)), some ((2, 43)), some ((2, 81)), some (vi (i + 10)), some (vi z371), none]) rfl rfl rfl rfl rfl ?_
        refine r_goto (i := 655) (v := 13) rfl ?_
        refine yT_drop (L1 := [some ((6, 0)), some ((2, 0)), some ((2, 43)), some ((2, 81)), some (vi (i + 10)), none, none]) rfl ?_
        exact ih S387 hI389 e394 e395 e392 e393 (i + 10) ⟨by omega, by omega⟩ (by exact wRM_le e396 (by omega)) (by omega)
      · refine r_swK (i := 24) (u := 1) (v := 654) (k := 10) (t := 384) rfl rfl h15 (by decide) (by decide) rfl ?_
        refine r_load (i := 384) (u := 1) (w := 2) rfl rfl rfl ?_
        refine r_load (i := 385) (u := 0) (w := 2) rfl rfl rfl ?_
        refine r_load (i := 386) (u := 4) (w := 0) rfl rfl rfl ?_
        refine r_const (i := 387) (u := 1) (z := 1) rfl rfl ?_
        refine r_iadd (i := 388) rfl ?_
        refine r_scA (i := 389) hG rfl (by omega) (by omega) fun h397 => ?_
        have h397 : Rg (sc (i + 1).toNat) := h397
        refine r_load (i := 390) (u := 0) (w := 2) rfl rfl rfl ?_
        refine r_load (i := 391) (u := 4) (w := 0) rfl rfl rfl ?_
        refine r_const (i := 392) (u := 2) (z := 2) rfl rfl ?_
        refine r_iadd (i := 393) rfl ?_
        refine r_scA (i := 394) hG rfl (by omega) (by omega) fun h398 => ?_
        have h398 : Rg (sc (i + 2).toNat) := h398
        refine r_i2l (i := 395) rfl ⟨by omega, by omega⟩ ?_
        refine r_const (i := 396) (u := 32) (z := 32) rfl rfl ?_
        refine r_lshl (i := 397) rfl ?_
        refine r_load (i := 398) (u := 0) (w := 2) rfl rfl rfl ?_
        refine r_load (i := 399) (u := 4) (w := 0) rfl rfl rfl ?_
        refine r_const (i := 400) (u := 3) (z := 3) rfl rfl ?_
        refine r_iadd (i := 401) rfl ?_
        refine r_scA (i := 402) hG rfl (by omega) (by omega) fun h399 => ?_
        have h399 : Rg (sc (i + 3).toNat) := h399
        refine r_i2l (i := 403) rfl ⟨by omega, by omega⟩ ?_
        refine r_lconst (i := 404) (u := 4294967295) (z := 4294967295) rfl rfl ?_
        refine r_land (i := 405) rfl ?_
        have h400 := @yland_c (sc (i + 3).toNat) 4294967295 (by decide) (by decide)
        refine r_lor (i := 406) rfl ?_
        have h401 := ylor_rl ((sc (i + 2).toNat) * 4294967296) (yland (sc (i + 3).toNat) 4294967295)
        refine r_load (i := 407) (u := 0) (w := 2) rfl rfl rfl ?_
        refine r_load (i := 408) (u := 4) (w := 0) rfl rfl rfl ?_
        refine r_const (i := 409) (u := 4) (z := 4) rfl rfl ?_
        refine r_iadd (i := 410) rfl ?_
        refine r_scA (i := 411) hG rfl (by omega) (by omega) fun h402 => ?_
        have h402 : Rg (sc (i + 4).toNat) := h402
        refine r_i2l (i := 412) rfl ⟨by omega, by omega⟩ ?_
        refine r_const (i := 413) (u := 32) (z := 32) rfl rfl ?_
        refine r_lshl (i := 414) rfl ?_
        refine r_load (i := 415) (u := 0) (w := 2) rfl rfl rfl ?_
        refine r_load (i := 416) (u := 4) (w := 0) rfl rfl rfl ?_
        refine r_const (i := 417) (u := 5) (z := 5) rfl rfl ?_
        refine r_iadd (i := 418) rfl ?_
        refine r_scA (i := 419) hG rfl (by omega) (by omega) fun h403 => ?_
        have h403 : Rg (sc (i + 5).toNat) := h403
        refine r_i2l (i := 420) rfl ⟨by omega, by omega⟩ ?_
        refine r_lconst (i := 421) (u := 4294967295) (z := 4294967295) rfl rfl ?_
        refine r_land (i := 422) rfl ?_
        have h404 := @yland_c (sc (i + 5).toNat) 4294967295 (by decide) (by decide)
        refine r_lor (i := 423) rfl ?_
        have h405 := ylor_rl ((sc (i + 4).toNat) * 4294967296) (yland (sc (i + 5).toNat) 4294967295)
        refine r_load (i := 424) (u := 0) (w := 2) rfl rfl rfl ?_
        refine r_load (i := 425) (u := 4) (w := 0) rfl rfl rfl ?_
        refine r_const (i := 426) (u := 6) (z := 6) rfl rfl ?_
        refine r_iadd (i := 427) rfl ?_
        refine r_scA (i := 428) hG rfl (by omega) (by omega) fun h406 => ?_
        have h406 : Rg (sc (i + 6).toNat) := h406
        refine r_i2l (i := 429) rfl ⟨by omega, by omega⟩ ?_
        refine r_const (i := 430) (u := 32) (z := 32) rfl rfl ?_
        refine r_lshl (i := 431) rfl ?_
        refine r_load (i := 432) (u := 0) (w := 2) rfl rfl rfl ?_
        refine r_load (i := 433) (u := 4) (w := 0) rfl rfl rfl ?_
        refine r_const (i := 434) (u := 7) (z := 7) rfl rfl ?_
        refine r_iadd (i := 435) rfl ?_
        refine r_scA (i := 436) hG rfl (by omega) (by omega) fun h407 => ?_
        have h407 : Rg (sc (i + 7).toNat) := h407
        refine r_i2l (i := 437) rfl ⟨by omega, by omega⟩ ?_
        refine r_lconst (i := 438) (u := 4294967295) (z := 4294967295) rfl rfl ?_
        refine r_land (i := 439) rfl ?_
        have h408 := @yland_c (sc (i + 7).toNat) 4294967295 (by decide) (by decide)
        refine r_lor (i := 440) rfl ?_
        have h409 := ylor_rl ((sc (i + 6).toNat) * 4294967296) (yland (sc (i + 7).toNat) 4294967295)
        refine r_load (i := 441) (u := 0) (w := 2) rfl rfl rfl ?_
        refine r_load (i := 442) (u := 4) (w := 0) rfl rfl rfl ?_
        refine r_const (i := 443) (u := 8) (z := 8) rfl rfl ?_
        refine r_iadd (i := 444) rfl ?_
        refine r_scA (i := 445) hG rfl (by omega) (by omega) fun h410 => ?_
        have h410 : Rg (sc (i + 8).toNat) := h410
        refine r_i2l (i := 446) rfl ⟨by omega, by omega⟩ ?_
        refine r_const (i := 447) (u := 32) (z := 32) rfl rfl ?_
        refine r_lshl (i := 448) rfl ?_
        refine r_load (i := 449) (u := 0) (w := 2) rfl rfl rfl ?_
        refine r_load (i := 450) (u := 4) (w := 0) rfl rfl rfl ?_
        refine r_const (i := 451) (u := 9) (z := 9) rfl rfl ?_
        refine r_iadd (i := 452) rfl ?_
        refine r_scA (i := 453) hG rfl (by omega) (by omega) fun h411 => ?_
        have h411 : Rg (sc (i + 9).toNat) := h411
        refine r_i2l (i := 454) rfl ⟨by omega, by omega⟩ ?_
        refine r_lconst (i := 455) (u := 4294967295) (z := 4294967295) rfl rfl ?_
        refine r_land (i := 456) rfl ?_
        have h412 := @yland_c (sc (i + 9).toNat) 4294967295 (by decide) (by decide)
        refine r_lor (i := 457) rfl ?_
        have h413 := ylor_rl ((sc (i + 8).toNat) * 4294967296) (yland (sc (i + 9).toNat) 4294967295)
        refine r_load (i := 458) (u := 3) (w := 2) rfl rfl rfl ?_
        refine r_call (i := 459) (u := 65535) (v := 174) (w := 0) (b := 2) (na := 3079) (C2 := xC174) (as := [(2, 0), vi (sc (i + 1).toNat), vl (ylor ((sc (i + 2).toNat) * 4294967296) (yland (sc (i + 3).toNat) 4294967295)), vl (ylor ((sc (i + 4).toNat) * 4294967296) (yland (sc (i + 5).toNat) 4294967295)), vl (ylor ((sc (i + 6).toNat) * 4294967296) (yland (sc (i + 7).toNat) 4294967295)), vl (ylor ((sc (i + 8).toNat) * 4294967296) (yland (sc (i + 9).toNat) 4294967295)), (2, 81)]) (s := []) rfl rfl rfl rfl rfl rfl rfl (sp174 (p0 := sc (i + 1).toNat) (p1 := ylor ((sc (i + 2).toNat) * 4294967296) (yland (sc (i + 3).toNat) 4294967295)) (p2 := ylor ((sc (i + 4).toNat) * 4294967296) (yland (sc (i + 5).toNat) 4294967295)) (p3 := ylor ((sc (i + 6).toNat) * 4294967296) (yland (sc (i + 7).toNat) 4294967295)) (p4 := ylor ((sc (i + 8).toNat) * 4294967296) (yland (sc (i + 9).toNat) 4294967295)) (kR := 5199 - i) hI ⟨by omega, by omega⟩ ⟨by omega, by omega⟩ ⟨by omega, by omega⟩ ⟨by omega, by omega⟩ ⟨by omega, by omega⟩ (by exact wRM_le q_0 (by omega)) (by omega) e_N23 e_CR (by omega)) (fun r414 S415 hq416 => ?_)
        obtain ⟨z417, rfl, h418, h419, rm420, e421, e422, hI423, hF424⟩ := hq416
        have e425 := RTx.fr e_RT hF424 rfl rfl
        have e426 := RMex.fr e_RMe hF424 rfl rfl
        refine Or.inr (Or.inl ⟨rfl, ?_⟩)
        refine r_store (i := 460) (u := 5) (w := 0) (L1 := [some ((6, 0)), some ((2, 0)), some ((2, 43)), some ((2, 81)), some (vi i), some (vi z417), none]) rfl rfl rfl rfl ?_
        refine r_load (i := 461) (u := 2) (w := 2) rfl rfl rfl ?_
        refine r_load (i := 462) (u := 0) (w := 2) rfl rfl rfl ?_
        refine r_load (i := 463) (u := 4) (w := 0) rfl rfl rfl ?_
        refine r_const (i := 464) (u := 1) (z := 1) rfl rfl ?_
        refine r_iadd (i := 465) rfl ?_
        refine r_scA (i := 466) hG rfl (by omega) (by omega) fun h427 => ?_
        have h427 : Rg (sc (i + 1).toNat) := h427
        refine r_load (i := 467) (u := 0) (w := 2) rfl rfl rfl ?_
        refine r_load (i := 468) (u := 4) (w := 0) rfl rfl rfl ?_
        refine r_const (i := 469) (u := 2) (z := 2) rfl rfl ?_
        refine r_iadd (i := 470) rfl ?_
        refine r_scA (i := 471) hG rfl (by omega) (by omega) fun h428 => ?_
        have h428 : Rg (sc (i + 2).toNat) := h428
        refine r_i2l (i := 472) rfl ⟨by omega, by omega⟩ ?_
        refine r_const (i := 473) (u := 32) (z := 32) rfl rfl ?_
        refine r_lshl (i := 474) rfl ?_
        refine r_load (i := 475) (u := 0) (w := 2) rfl rfl rfl ?_
        refine r_load (i := 476) (u := 4) (w := 0) rfl rfl rfl ?_
        refine r_const (i := 477) (u := 3) (z := 3) rfl rfl ?_
        refine r_iadd (i := 478) rfl ?_
        refine r_scA (i := 479) hG rfl (by omega) (by omega) fun h429 => ?_
        have h429 : Rg (sc (i + 3).toNat) := h429
        refine r_i2l (i := 480) rfl ⟨by omega, by omega⟩ ?_
        refine r_lconst (i := 481) (u := 4294967295) (z := 4294967295) rfl rfl ?_
        refine r_land (i := 482) rfl ?_
        have h430 := @yland_c (sc (i + 3).toNat) 4294967295 (by decide) (by decide)
        refine r_lor (i := 483) rfl ?_
        have h431 := ylor_rl ((sc (i + 2).toNat) * 4294967296) (yland (sc (i + 3).toNat) 4294967295)
        refine r_load (i := 484) (u := 0) (w := 2) rfl rfl rfl ?_
        refine r_load (i := 485) (u := 4) (w := 0) rfl rfl rfl ?_
        refine r_const (i := 486) (u := 4) (z := 4) rfl rfl ?_
        refine r_iadd (i := 487) rfl ?_
        refine r_scA (i := 488) hG rfl (by omega) (by omega) fun h432 => ?_
        have h432 : Rg (sc (i + 4).toNat) := h432
        refine r_i2l (i := 489) rfl ⟨by omega, by omega⟩ ?_
        refine r_const (i := 490) (u := 32) (z := 32) rfl rfl ?_
        refine r_lshl (i := 491) rfl ?_
        refine r_load (i := 492) (u := 0) (w := 2) rfl rfl rfl ?_
        refine r_load (i := 493) (u := 4) (w := 0) rfl rfl rfl ?_
        refine r_const (i := 494) (u := 5) (z := 5) rfl rfl ?_
        refine r_iadd (i := 495) rfl ?_
        refine r_scA (i := 496) hG rfl (by omega) (by omega) fun h433 => ?_
        have h433 : Rg (sc (i + 5).toNat) := h433
        refine r_i2l (i := 497) rfl ⟨by omega, by omega⟩ ?_
        refine r_lconst (i := 498) (u := 4294967295) (z := 4294967295) rfl rfl ?_
        refine r_land (i := 499) rfl ?_
        have h434 := @yland_c (sc (i + 5).toNat) 4294967295 (by decide) (by decide)
        refine r_lor (i := 500) rfl ?_
        have h435 := ylor_rl ((sc (i + 4).toNat) * 4294967296) (yland (sc (i + 5).toNat) 4294967295)
        refine r_load (i := 501) (u := 0) (w := 2) rfl rfl rfl ?_
        refine r_load (i := 502) (u := 4) (w := 0) rfl rfl rfl ?_
        refine r_const (i := 503) (u := 6) (z := 6) rfl rfl ?_
        refine r_iadd (i := 504) rfl ?_
        refine r_scA (i := 505) hG rfl (by omega) (by omega) fun h436 => ?_
        have h436 : Rg (sc (i + 6).toNat) := h436
        refine r_i2l (i := 506) rfl ⟨by omega, by omega⟩ ?_
        refine r_const (i := 507) (u := 32) (z := 32) rfl rfl ?_
        refine r_lshl (i := 508) rfl ?_
        refine r_load (i := 509) (u := 0) (w := 2) rfl rfl rfl ?_
        refine r_load (i := 510) (u := 4) (w := 0) rfl rfl rfl ?_
        refine r_const (i := 511) (u := 7) (z := 7) rfl rfl ?_
        refine r_iadd (i := 512) rfl ?_
        refine r_scA (i := 513) hG rfl (by omega) (by omega) fun h437 => ?_
        have h437 : Rg (sc (i + 7).toNat) := h437
        refine r_i2l (i := 514) rfl ⟨by omega, by omega⟩ ?_
        refine r_lconst (i := 515) (u := 4294967295) (z := 4294967295) rfl rfl ?_
        refine r_land (i := 516) rfl ?_
        have h438 := @yland_c (sc (i + 7).toNat) 4294967295 (by decide) (by decide)
        refine r_lor (i := 517) rfl ?_
        have h439 := ylor_rl ((sc (i + 6).toNat) * 4294967296) (yland (sc (i + 7).toNat) 4294967295)
        refine r_load (i := 518) (u := 0) (w := 2) rfl rfl rfl ?_
        refine r_load (i := 519) (u := 4) (w := 0) rfl rfl rfl ?_
        refine r_const (i := 520) (u := 8) (z := 8) rfl rfl ?_
        refine r_iadd (i := 521) rfl ?_
        refine r_scA (i := 522) hG rfl (by omega) (by omega) fun h440 => ?_
        have h440 : Rg (sc (i + 8).toNat) := h440
        refine r_i2l (i := 523) rfl ⟨by omega, by omega⟩ ?_
        refine r_const (i := 524) (u := 32) (z := 32) rfl rfl ?_
        refine r_lshl (i := 525) rfl ?_
        refine r_load (i := 526) (u := 0) (w := 2) rfl rfl rfl ?_
        refine r_load (i := 527) (u := 4) (w := 0) rfl rfl rfl ?_
        refine r_const (i := 528) (u := 9) (z := 9) rfl rfl ?_
        refine r_iadd (i := 529) rfl ?_
        refine r_scA (i := 530) hG rfl (by omega) (by omega) fun h441 => ?_
        have h441 : Rg (sc (i + 9).toNat) := h441
        refine r_i2l (i := 531) rfl ⟨by omega, by omega⟩ ?_
        refine r_lconst (i := 532) (u := 4294967295) (z := 4294967295) rfl rfl ?_
        refine r_land (i := 533) rfl ?_
        have h442 := @yland_c (sc (i + 9).toNat) 4294967295 (by decide) (by decide)
        refine r_lor (i := 534) rfl ?_
        have h443 := ylor_rl ((sc (i + 8).toNat) * 4294967296) (yland (sc (i + 9).toNat) 4294967295)
        refine r_call (i := 535) (u := 11) (v := 188) (w := 0) (b := 0) (na := 4102) (C2 := xC188) (as := [(2, 43), vi (sc (i + 1).toNat), vl (ylor ((sc (i + 2).toNat) * 4294967296) (yland (sc (i + 3).toNat) 4294967295)), vl (ylor ((sc (i + 4).toNat) * 4294967296) (yland (sc (i + 5).toNat) 4294967295)), vl (ylor ((sc (i + 6).toNat) * 4294967296) (yland (sc (i + 7).toNat) 4294967295)), vl (ylor ((sc (i + 8).toNat) * 4294967296) (yland (sc (i + 9).toNat) 4294967295))]) (s := []) rfl rfl rfl rfl rfl rfl rfl (sp188 (k := sc (i + 1).toNat) (a := ylor ((sc (i + 2).toNat) * 4294967296) (yland (sc (i + 3).toNat) 4294967295)) (b := ylor ((sc (i + 4).toNat) * 4294967296) (yland (sc (i + 5).toNat) 4294967295)) (c := ylor ((sc (i + 6).toNat) * 4294967296) (yland (sc (i + 7).toNat) 4294967295)) (e := ylor ((sc (i + 8).toNat) * 4294967296) (yland (sc (i + 9).toNat) 4294967295)) hI423 ⟨by omega, by omega⟩ ⟨by omega, by omega⟩ ⟨by omega, by omega⟩ ⟨by omega, by omega⟩ ⟨by omega, by omega⟩   (by omega)) (fun r444 S445 hq446 => ?_)
        obtain ⟨z447, rfl, h448, h449, hI450, hF451, hR452⟩ := hq446
        have e453 := RTx.fr e425 hF451 rfl rfl
        have e454 := RMex.fr e426 hF451 rfl rfl
        have e455 := N23x.fr e421 hF451 hR452 rfl rfl rfl
        have e456 := CRx.fr e422 hF451 rfl rfl
        have e457 := wRM_rm rm420 hR452
        refine Or.inr (Or.inl ⟨rfl, ?_⟩)
        refine r_store (i := 536) (u := 6) (w := 0) (L1 := [some ((6, 0)), some ((2, 0)), some ((2, 43)), some ((2, 81)), some (vi i), some (vi z417), some (vi z447)]) rfl rfl rfl rfl ?_
        refine r_goto (i := 537) (v := 654) rfl ?_
        refine r_iinc (i := 654) (u := 10) (v := 4) (s := 10) (L1 := [some ((6, 0)), some ((2, 0)), some ((2, 43)), some ((2, 81)), some (vi (i + 10)), some (vi z417), some (vi z447)]) rfl rfl rfl rfl rfl ?_
        refine r_goto (i := 655) (v := 13) rfl ?_
        refine yT_drop (L1 := [some ((6, 0)), some ((2, 0)), some ((2, 43)), some ((2, 81)), some (vi (i + 10)), none, none]) rfl ?_
        exact ih S445 hI450 e455 e456 e453 e454 (i + 10) ⟨by omega, by omega⟩ (by exact wRM_le e457 (by omega)) (by omega)
      · refine r_swK (i := 24) (u := 1) (v := 654) (k := 11) (t := 538) rfl rfl h16 (by decide) (by decide) rfl ?_
        refine r_load (i := 538) (u := 1) (w := 2) rfl rfl rfl ?_
        refine r_call (i := 539) (u := 0) (v := 16) (w := 0) (b := 0) (na := 257) (C2 := xC16) (as := [(2, 0)]) (s := []) rfl rfl rfl rfl rfl rfl rfl (sp16  hI    (by omega)) (fun r458 S459 hq460 => ?_)
        obtain ⟨z461, rfl, h462, rfl⟩ := hq460
        refine Or.inr (Or.inl ⟨rfl, ?_⟩)
        refine r_pop2 (i := 540) rfl rfl ?_
        refine r_load (i := 541) (u := 2) (w := 2) rfl rfl rfl ?_
        refine r_call (i := 542) (u := 11) (v := 239) (w := 0) (b := 0) (na := 257) (C2 := xC239) (as := [(2, 43)]) (s := []) rfl rfl rfl rfl rfl rfl rfl (sp239  hI    (by omega)) (fun r463 S464 hq465 => ?_)
        obtain ⟨z466, rfl, h467, hI468, hF469, hR470⟩ := hq465
        have e471 := N23x.fr e_N23 hF469 hR470 rfl rfl rfl
        have e472 := CRx.fr e_CR hF469 rfl rfl
        have e473 := RTx.fr e_RT hF469 rfl rfl
        have e474 := RMex.fr e_RMe hF469 rfl rfl
        have e475 := wRM_rm q_0 hR470
        refine Or.inr (Or.inl ⟨rfl, ?_⟩)
        refine r_pop2 (i := 543) rfl rfl ?_
        refine r_goto (i := 544) (v := 654) rfl ?_
        refine r_iinc (i := 654) (u := 10) (v := 4) (s := 10) (L1 := [some ((6, 0)), some ((2, 0)), some ((2, 43)), some ((2, 81)), some (vi (i + 10)), none, none]) rfl rfl rfl rfl rfl ?_
        refine r_goto (i := 655) (v := 13) rfl ?_
        exact ih S464 hI468 e471 e472 e473 e474 (i + 10) ⟨by omega, by omega⟩ (by exact wRM_le e475 (by omega)) (by omega)
      · refine r_swK (i := 24) (u := 1) (v := 654) (k := 12) (t := 545) rfl rfl h17 (by decide) (by decide) rfl ?_
        refine r_load (i := 545) (u := 1) (w := 2) rfl rfl rfl ?_
        refine r_call (i := 546) (u := 0) (v := 3) (w := 0) (b := 0) (na := 257) (C2 := xC3) (as := [(2, 0)]) (s := []) rfl rfl rfl rfl rfl rfl rfl (sp3  hI    (by omega)) (fun r476 S477 hq478 => ?_)
        obtain ⟨z479, rfl, h480, h481, rfl⟩ := hq478
        refine Or.inr (Or.inl ⟨rfl, ?_⟩)
        refine r_pop (i := 547) rfl rfl ?_
        refine r_load (i := 548) (u := 2) (w := 2) rfl rfl rfl ?_
        refine r_call (i := 549) (u := 11) (v := 184) (w := 0) (b := 0) (na := 257) (C2 := xC184) (as := [(2, 43)]) (s := []) rfl rfl rfl rfl rfl rfl rfl (sp184  hI    (by omega)) (fun r482 S483 hq484 => ?_)
        obtain ⟨z485, rfl, h486, h487, hI488, hF489, hR490⟩ := hq484
        have e491 := N23x.fr e_N23 hF489 hR490 rfl rfl rfl
        have e492 := CRx.fr e_CR hF489 rfl rfl
        have e493 := RTx.fr e_RT hF489 rfl rfl
        have e494 := RMex.fr e_RMe hF489 rfl rfl
        have e495 := wRM_rm q_0 hR490
        refine Or.inr (Or.inl ⟨rfl, ?_⟩)
        refine r_pop (i := 550) rfl rfl ?_
        refine r_goto (i := 551) (v := 654) rfl ?_
        refine r_iinc (i := 654) (u := 10) (v := 4) (s := 10) (L1 := [some ((6, 0)), some ((2, 0)), some ((2, 43)), some ((2, 81)), some (vi (i + 10)), none, none]) rfl rfl rfl rfl rfl ?_
        refine r_goto (i := 655) (v := 13) rfl ?_
        exact ih S483 hI488 e491 e492 e493 e494 (i + 10) ⟨by omega, by omega⟩ (by exact wRM_le e495 (by omega)) (by omega)
      · refine r_swK (i := 24) (u := 1) (v := 654) (k := 13) (t := 552) rfl rfl h18 (by decide) (by decide) rfl ?_
        refine r_load (i := 552) (u := 1) (w := 2) rfl rfl rfl ?_
        refine r_load (i := 553) (u := 0) (w := 2) rfl rfl rfl ?_
        refine r_load (i := 554) (u := 4) (w := 0) rfl rfl rfl ?_
        refine r_const (i := 555) (u := 1) (z := 1) rfl rfl ?_
        refine r_iadd (i := 556) rfl ?_
        refine r_scA (i := 557) hG rfl (by omega) (by omega) fun h496 => ?_
        have h496 : Rg (sc (i + 1).toNat) := h496
        refine r_load (i := 558) (u := 0) (w := 2) rfl rfl rfl ?_
        refine r_load (i := 559) (u := 4) (w := 0) rfl rfl rfl ?_
        refine r_const (i := 560) (u := 2) (z := 2) rfl rfl ?_
        refine r_iadd (i := 561) rfl ?_
        refine r_scA (i := 562) hG rfl (by omega) (by omega) fun h497 => ?_
        have h497 : Rg (sc (i + 2).toNat) := h497
        refine r_call (i := 563) (u := 0) (v := 9) (w := 0) (b := 0) (na := 771) (C2 := xC9) (as := [(2, 0), vi (sc (i + 1).toNat), vi (sc (i + 2).toNat)]) (s := []) rfl rfl rfl rfl rfl rfl rfl (sp9 (i0 := sc (i + 1).toNat) (w0 := sc (i + 2).toNat) hI ⟨by omega, by omega⟩ ⟨by omega, by omega⟩   (by omega)) (fun r498 S499 hq500 => ?_)
        obtain ⟨z501, rfl, h502, rfl⟩ := hq500
        refine Or.inr (Or.inl ⟨rfl, ?_⟩)
        refine r_pop2 (i := 564) rfl rfl ?_
        refine r_load (i := 565) (u := 2) (w := 2) rfl rfl rfl ?_
        refine r_load (i := 566) (u := 0) (w := 2) rfl rfl rfl ?_
        refine r_load (i := 567) (u := 4) (w := 0) rfl rfl rfl ?_
        refine r_const (i := 568) (u := 1) (z := 1) rfl rfl ?_
        refine r_iadd (i := 569) rfl ?_
        refine r_scA (i := 570) hG rfl (by omega) (by omega) fun h503 => ?_
        have h503 : Rg (sc (i + 1).toNat) := h503
        refine r_load (i := 571) (u := 0) (w := 2) rfl rfl rfl ?_
        refine r_load (i := 572) (u := 4) (w := 0) rfl rfl rfl ?_
        refine r_const (i := 573) (u := 2) (z := 2) rfl rfl ?_
        refine r_iadd (i := 574) rfl ?_
        refine r_scA (i := 575) hG rfl (by omega) (by omega) fun h504 => ?_
        have h504 : Rg (sc (i + 2).toNat) := h504
        refine r_call (i := 576) (u := 11) (v := 205) (w := 0) (b := 0) (na := 771) (C2 := xC205) (as := [(2, 43), vi (sc (i + 1).toNat), vi (sc (i + 2).toNat)]) (s := []) rfl rfl rfl rfl rfl rfl rfl (sp205 (i0 := sc (i + 1).toNat) (w0 := sc (i + 2).toNat) hI ⟨by omega, by omega⟩ ⟨by omega, by omega⟩   (by omega)) (fun r505 S506 hq507 => ?_)
        obtain ⟨z508, rfl, h509, hI510, hF511, hR512⟩ := hq507
        have e513 := N23x.fr e_N23 hF511 hR512 rfl rfl rfl
        have e514 := CRx.fr e_CR hF511 rfl rfl
        have e515 := RTx.fr e_RT hF511 rfl rfl
        have e516 := RMex.fr e_RMe hF511 rfl rfl
        have e517 := wRM_rm q_0 hR512
        refine Or.inr (Or.inl ⟨rfl, ?_⟩)
        refine r_pop2 (i := 577) rfl rfl ?_
        refine r_goto (i := 578) (v := 654) rfl ?_
        refine r_iinc (i := 654) (u := 10) (v := 4) (s := 10) (L1 := [some ((6, 0)), some ((2, 0)), some ((2, 43)), some ((2, 81)), some (vi (i + 10)), none, none]) rfl rfl rfl rfl rfl ?_
        refine r_goto (i := 655) (v := 13) rfl ?_
        exact ih S506 hI510 e513 e514 e515 e516 (i + 10) ⟨by omega, by omega⟩ (by exact wRM_le e517 (by omega)) (by omega)
      · refine r_swK (i := 24) (u := 1) (v := 654) (k := 14) (t := 579) rfl rfl h19 (by decide) (by decide) rfl ?_
        refine r_load (i := 579) (u := 1) (w := 2) rfl rfl rfl ?_
        refine r_call (i := 580) (u := 0) (v := 17) (w := 0) (b := 0) (na := 257) (C2 := xC17) (as := [(2, 0)]) (s := []) rfl rfl rfl rfl rfl rfl rfl (sp17  hI    (by omega)) (fun r518 S519 hq520 => ?_)
        obtain ⟨z521, rfl, h522, h523, rfl⟩ := hq520
        refine Or.inr (Or.inl ⟨rfl, ?_⟩)
        refine r_pop (i := 581) rfl rfl ?_
        refine r_load (i := 582) (u := 2) (w := 2) rfl rfl rfl ?_
        refine r_call (i := 583) (u := 11) (v := 242) (w := 0) (b := 0) (na := 257) (C2 := xC242) (as := [(2, 43)]) (s := []) rfl rfl rfl rfl rfl rfl rfl (sp242  hI    (by omega)) (fun r524 S525 hq526 => ?_)
        obtain ⟨z527, rfl, h528, h529, hI530, hF531, hR532⟩ := hq526
        have e533 := N23x.fr e_N23 hF531 hR532 rfl rfl rfl
        have e534 := CRx.fr e_CR hF531 rfl rfl
        have e535 := RTx.fr e_RT hF531 rfl rfl
        have e536 := RMex.fr e_RMe hF531 rfl rfl
        have e537 := wRM_rm q_0 hR532
        refine Or.inr (Or.inl ⟨rfl, ?_⟩)
        refine r_pop (i := 584) rfl rfl ?_
        refine r_goto (i := 585) (v := 654) rfl ?_
        refine r_iinc (i := 654) (u := 10) (v := 4) (s := 10) (L1 := [some ((6, 0)), some ((2, 0)), some ((2, 43)), some ((2, 81)), some (vi (i + 10)), none, none]) rfl rfl rfl rfl rfl ?_
        refine r_goto (i := 655) (v := 13) rfl ?_
        exact ih S525 hI530 e533 e534 e535 e536 (i + 10) ⟨by omega, by omega⟩ (by exact wRM_le e537 (by omega)) (by omega)
      · refine r_swK (i := 24) (u := 1) (v := 654) (k := 15) (t := 586) rfl rfl h20 (by decide) (by decide) rfl ?_
        refine r_load (i := 586) (u := 1) (w := 2) rfl rfl rfl ?_
        refine r_load (i := 587) (u := 0) (w := 2) rfl rfl rfl ?_
        refine r_load (i := 588) (u := 4) (w := 0) rfl rfl rfl ?_
        refine r_const (i := 589) (u := 1) (z := 1) rfl rfl ?_
        refine r_iadd (i := 590) rfl ?_
        refine r_scA (i := 591) hG rfl (by omega) (by omega) fun h538 => ?_
        have h538 : Rg (sc (i + 1).toNat) := h538
        refine r_call (i := 592) (u := 0) (v := 4) (w := 0) (b := 0) (na := 514) (C2 := xC4) (as := [(2, 0), vi (sc (i + 1).toNat)]) (s := []) rfl rfl rfl rfl rfl rfl rfl (sp4 (k := sc (i + 1).toNat) hI ⟨by omega, by omega⟩   (by omega)) (fun r539 S540 hq541 => ?_)
        obtain ⟨z542, rfl, h543, h544, rfl⟩ := hq541
        refine Or.inr (Or.inl ⟨rfl, ?_⟩)
        refine r_pop (i := 593) rfl rfl ?_
        refine r_load (i := 594) (u := 2) (w := 2) rfl rfl rfl ?_
        refine r_load (i := 595) (u := 0) (w := 2) rfl rfl rfl ?_
        refine r_load (i := 596) (u := 4) (w := 0) rfl rfl rfl ?_
        refine r_const (i := 597) (u := 1) (z := 1) rfl rfl ?_
        refine r_iadd (i := 598) rfl ?_
        refine r_scA (i := 599) hG rfl (by omega) (by omega) fun h545 => ?_
        have h545 : Rg (sc (i + 1).toNat) := h545
        refine r_call (i := 600) (u := 11) (v := 187) (w := 0) (b := 0) (na := 514) (C2 := xC187) (as := [(2, 43), vi (sc (i + 1).toNat)]) (s := []) rfl rfl rfl rfl rfl rfl rfl (sp187 (k := sc (i + 1).toNat) hI ⟨by omega, by omega⟩   (by omega)) (fun r546 S547 hq548 => ?_)
        obtain ⟨z549, rfl, h550, h551, hI552, hF553, hR554⟩ := hq548
        have e555 := N23x.fr e_N23 hF553 hR554 rfl rfl rfl
        have e556 := CRx.fr e_CR hF553 rfl rfl
        have e557 := RTx.fr e_RT hF553 rfl rfl
        have e558 := RMex.fr e_RMe hF553 rfl rfl
        have e559 := wRM_rm q_0 hR554
        refine Or.inr (Or.inl ⟨rfl, ?_⟩)
        refine r_pop (i := 601) rfl rfl ?_
        refine r_goto (i := 602) (v := 654) rfl ?_
        refine r_iinc (i := 654) (u := 10) (v := 4) (s := 10) (L1 := [some ((6, 0)), some ((2, 0)), some ((2, 43)), some ((2, 81)), some (vi (i + 10)), none, none]) rfl rfl rfl rfl rfl ?_
        refine r_goto (i := 655) (v := 13) rfl ?_
        exact ih S547 hI552 e555 e556 e557 e558 (i + 10) ⟨by omega, by omega⟩ (by exact wRM_le e559 (by omega)) (by omega)
      · refine r_swK (i := 24) (u := 1) (v := 654) (k := 16) (t := 603) rfl rfl h21 (by decide) (by decide) rfl ?_
        refine r_load (i := 603) (u := 1) (w := 2) rfl rfl rfl ?_
        refine r_load (i := 604) (u := 0) (w := 2) rfl rfl rfl ?_
        refine r_load (i := 605) (u := 4) (w := 0) rfl rfl rfl ?_
        refine r_const (i := 606) (u := 1) (z := 1) rfl rfl ?_
        refine r_iadd (i := 607) rfl ?_
        refine r_scA (i := 608) hG rfl (by omega) (by omega) fun h560 => ?_
        have h560 : Rg (sc (i + 1).toNat) := h560
        refine r_load (i := 609) (u := 0) (w := 2) rfl rfl rfl ?_
        refine r_load (i := 610) (u := 4) (w := 0) rfl rfl rfl ?_
        refine r_const (i := 611) (u := 2) (z := 2) rfl rfl ?_
        refine r_iadd (i := 612) rfl ?_
        refine r_scA (i := 613) hG rfl (by omega) (by omega) fun h561 => ?_
        have h561 : Rg (sc (i + 2).toNat) := h561
        refine r_call (i := 614) (u := 0) (v := 6) (w := 0) (b := 0) (na := 771) (C2 := xC6) (as := [(2, 0), vi (sc (i + 1).toNat), vi (sc (i + 2).toNat)]) (s := []) rfl rfl rfl rfl rfl rfl rfl (sp6 (k := sc (i + 1).toNat) (b := sc (i + 2).toNat) hI ⟨by omega, by omega⟩ ⟨by omega, by omega⟩   (by omega)) (fun r562 S563 hq564 => ?_)
        obtain ⟨z565, rfl, h566, h567, hI568, hF569, hR570⟩ := hq564
        have e571 := N23x.fr e_N23 hF569 hR570 rfl rfl rfl
        have e572 := CRx.fr e_CR hF569 rfl rfl
        have e573 := RTx.fr e_RT hF569 rfl rfl
        have e574 := RMex.fr e_RMe hF569 rfl rfl
        have e575 := wRM_rm q_0 hR570
        refine Or.inr (Or.inl ⟨rfl, ?_⟩)
        refine r_pop (i := 615) rfl rfl ?_
        refine r_load (i := 616) (u := 2) (w := 2) rfl rfl rfl ?_
        refine r_load (i := 617) (u := 0) (w := 2) rfl rfl rfl ?_
        refine r_load (i := 618) (u := 4) (w := 0) rfl rfl rfl ?_
        refine r_const (i := 619) (u := 1) (z := 1) rfl rfl ?_
        refine r_iadd (i := 620) rfl ?_
        refine r_scA (i := 621) hG rfl (by omega) (by omega) fun h576 => ?_
        have h576 : Rg (sc (i + 1).toNat) := h576
        refine r_load (i := 622) (u := 0) (w := 2) rfl rfl rfl ?_
        refine r_load (i := 623) (u := 4) (w := 0) rfl rfl rfl ?_
        refine r_const (i := 624) (u := 2) (z := 2) rfl rfl ?_
        refine r_iadd (i := 625) rfl ?_
        refine r_scA (i := 626) hG rfl (by omega) (by omega) fun h577 => ?_
        have h577 : Rg (sc (i + 2).toNat) := h577
        refine r_call (i := 627) (u := 11) (v := 191) (w := 0) (b := 0) (na := 771) (C2 := xC191) (as := [(2, 43), vi (sc (i + 1).toNat), vi (sc (i + 2).toNat)]) (s := []) rfl rfl rfl rfl rfl rfl rfl (sp191 (k := sc (i + 1).toNat) (b := sc (i + 2).toNat) hI568 ⟨by omega, by omega⟩ ⟨by omega, by omega⟩   (by omega)) (fun r578 S579 hq580 => ?_)
        obtain ⟨z581, rfl, h582, h583, hI584, hF585, hR586⟩ := hq580
        have e587 := N23x.fr e571 hF585 hR586 rfl rfl rfl
        have e588 := CRx.fr e572 hF585 rfl rfl
        have e589 := RTx.fr e573 hF585 rfl rfl
        have e590 := RMex.fr e574 hF585 rfl rfl
        have e591 := wRM_rm e575 hR586
        refine Or.inr (Or.inl ⟨rfl, ?_⟩)
        refine r_pop (i := 628) rfl rfl ?_
        refine r_goto (i := 629) (v := 654) rfl ?_
        refine r_iinc (i := 654) (u := 10) (v := 4) (s := 10) (L1 := [some ((6, 0)), some ((2, 0)), some ((2, 43)), some ((2, 81)), some (vi (i + 10)), none, none]) rfl rfl rfl rfl rfl ?_
        refine r_goto (i := 655) (v := 13) rfl ?_
        exact ih S579 hI584 e587 e588 e589 e590 (i + 10) ⟨by omega, by omega⟩ (by exact wRM_le e591 (by omega)) (by omega)
      · refine r_swK (i := 24) (u := 1) (v := 654) (k := 17) (t := 630) rfl rfl h22 (by decide) (by decide) rfl ?_
        refine r_load (i := 630) (u := 1) (w := 2) rfl rfl rfl ?_
        refine r_load (i := 631) (u := 0) (w := 2) rfl rfl rfl ?_
        refine r_load (i := 632) (u := 4) (w := 0) rfl rfl rfl ?_
        refine r_const (i := 633) (u := 1) (z := 1) rfl rfl ?_
        refine r_iadd (i := 634) rfl ?_
        refine r_scA (i := 635) hG rfl (by omega) (by omega) fun h592 => ?_
        have h592 : Rg (sc (i + 1).toNat) := h592
        refine r_call (i := 636) (u := 0) (v := 7) (w := 0) (b := 0) (na := 514) (C2 := xC7) (as := [(2, 0), vi (sc (i + 1).toNat)]) (s := []) rfl rfl rfl rfl rfl rfl rfl (sp7 (k := sc (i + 1).toNat) hI ⟨by omega, by omega⟩   (by omega)) (fun r593 S594 hq595 => ?_)
        obtain ⟨z596, rfl, h597, h598, hI599, hF600, hR601⟩ := hq595
        have e602 := N23x.fr e_N23 hF600 hR601 rfl rfl rfl
        have e603 := CRx.fr e_CR hF600 rfl rfl
        have e604 := RTx.fr e_RT hF600 rfl rfl
        have e605 := RMex.fr e_RMe hF600 rfl rfl
        have e606 := wRM_rm q_0 hR601
        refine Or.inr (Or.inl ⟨rfl, ?_⟩)
        refine r_pop (i := 637) rfl rfl ?_
        refine r_load (i := 638) (u := 2) (w := 2) rfl rfl rfl ?_
        refine r_load (i := 639) (u := 0) (w := 2) rfl rfl rfl ?_
        refine r_load (i := 640) (u := 4) (w := 0) rfl rfl rfl ?_
        refine r_const (i := 641) (u := 1) (z := 1) rfl rfl ?_
        refine r_iadd (i := 642) rfl ?_
        refine r_scA (i := 643) hG rfl (by omega) (by omega) fun h607 => ?_
        have h607 : Rg (sc (i + 1).toNat) := h607
        refine r_call (i := 644) (u := 11) (v := 197) (w := 0) (b := 0) (na := 514) (C2 := xC197) (as := [(2, 43), vi (sc (i + 1).toNat)]) (s := []) rfl rfl rfl rfl rfl rfl rfl (sp197 (k := sc (i + 1).toNat) hI599 ⟨by omega, by omega⟩   (by omega)) (fun r608 S609 hq610 => ?_)
        obtain ⟨z611, rfl, h612, h613, hI614, hF615, hR616⟩ := hq610
        have e617 := N23x.fr e602 hF615 hR616 rfl rfl rfl
        have e618 := CRx.fr e603 hF615 rfl rfl
        have e619 := RTx.fr e604 hF615 rfl rfl
        have e620 := RMex.fr e605 hF615 rfl rfl
        have e621 := wRM_rm e606 hR616
        refine Or.inr (Or.inl ⟨rfl, ?_⟩)
        refine r_pop (i := 645) rfl rfl ?_
        refine r_goto (i := 646) (v := 654) rfl ?_
        refine r_iinc (i := 654) (u := 10) (v := 4) (s := 10) (L1 := [some ((6, 0)), some ((2, 0)), some ((2, 43)), some ((2, 81)), some (vi (i + 10)), none, none]) rfl rfl rfl rfl rfl ?_
        refine r_goto (i := 655) (v := 13) rfl ?_
        exact ih S609 hI614 e617 e618 e619 e620 (i + 10) ⟨by omega, by omega⟩ (by exact wRM_le e621 (by omega)) (by omega)
      · refine r_swK (i := 24) (u := 1) (v := 654) (k := 18) (t := 647) rfl rfl h23 (by decide) (by decide) rfl ?_
        refine r_load (i := 647) (u := 1) (w := 2) rfl rfl rfl ?_
        refine r_call (i := 648) (u := 0) (v := 15) (w := 0) (b := 0) (na := 257) (C2 := xC15) (as := [(2, 0)]) (s := []) rfl rfl rfl rfl rfl rfl rfl (sp15  hI    (by omega)) (fun r622 S623 hq624 => ?_)
        obtain ⟨z625, rfl, h626, h627, hI628, hF629, hR630⟩ := hq624
        have e631 := N23x.fr e_N23 hF629 hR630 rfl rfl rfl
        have e632 := CRx.fr e_CR hF629 rfl rfl
        have e633 := RTx.fr e_RT hF629 rfl rfl
        have e634 := RMex.fr e_RMe hF629 rfl rfl
        have e635 := wRM_rm q_0 hR630
        refine Or.inr (Or.inl ⟨rfl, ?_⟩)
        refine r_pop (i := 649) rfl rfl ?_
        refine r_load (i := 650) (u := 2) (w := 2) rfl rfl rfl ?_
        refine r_call (i := 651) (u := 11) (v := 235) (w := 0) (b := 0) (na := 1025) (C2 := xC235) (as := [(2, 43)]) (s := []) rfl rfl rfl rfl rfl rfl rfl (sp235  hI628    (by omega)) (fun r636 S637 hq638 => ?_)
        obtain ⟨z639, rfl, h640, h641, hI642, hF643, hR644⟩ := hq638
        have e645 := N23x.fr e631 hF643 hR644 rfl rfl rfl
        have e646 := CRx.fr e632 hF643 rfl rfl
        have e647 := RTx.fr e633 hF643 rfl rfl
        have e648 := RMex.fr e634 hF643 rfl rfl
        have e649 := wRM_rm e635 hR644
        refine Or.inr (Or.inl ⟨rfl, ?_⟩)
        refine r_pop (i := 652) rfl rfl ?_
        refine r_goto (i := 653) (v := 654) rfl ?_
        refine r_iinc (i := 654) (u := 10) (v := 4) (s := 10) (L1 := [some ((6, 0)), some ((2, 0)), some ((2, 43)), some ((2, 81)), some (vi (i + 10)), none, none]) rfl rfl rfl rfl rfl ?_
        refine r_goto (i := 655) (v := 13) rfl ?_
        exact ih S637 hI642 e645 e646 e647 e648 (i + 10) ⟨by omega, by omega⟩ (by exact wRM_le e649 (by omega)) (by omega)
      · refine r_swK (i := 24) (u := 1) (v := 654) (k := 19) (t := 654) rfl rfl h24 (by decide) (by decide) rfl ?_
        refine r_iinc (i := 654) (u := 10) (v := 4) (s := 10) (L1 := [some ((6, 0)), some ((2, 0)), some ((2, 43)), some ((2, 81)), some (vi (i + 10)), none, none]) rfl rfl rfl rfl rfl ?_
        refine r_goto (i := 655) (v := 13) rfl ?_
        exact ih S hI e_N23 e_CR e_RT e_RMe (i + 10) ⟨by omega, by omega⟩ (by exact wRM_le q_0 (by omega)) (by omega)
      · refine r_swK (i := 24) (u := 1) (v := 654) (k := 20) (t := 654) rfl rfl h25 (by decide) (by decide) rfl ?_
        refine r_iinc (i := 654) (u := 10) (v := 4) (s := 10) (L1 := [some ((6, 0)), some ((2, 0)), some ((2, 43)), some ((2, 81)), some (vi (i + 10)), none, none]) rfl rfl rfl rfl rfl ?_
        refine r_goto (i := 655) (v := 13) rfl ?_
        exact ih S hI e_N23 e_CR e_RT e_RMe (i + 10) ⟨by omega, by omega⟩ (by exact wRM_le q_0 (by omega)) (by omega)
      · refine r_swK (i := 24) (u := 1) (v := 654) (k := 21) (t := 654) rfl rfl h26 (by decide) (by decide) rfl ?_
        refine r_iinc (i := 654) (u := 10) (v := 4) (s := 10) (L1 := [some ((6, 0)), some ((2, 0)), some ((2, 43)), some ((2, 81)), some (vi (i + 10)), none, none]) rfl rfl rfl rfl rfl ?_
        refine r_goto (i := 655) (v := 13) rfl ?_
        exact ih S hI e_N23 e_CR e_RT e_RMe (i + 10) ⟨by omega, by omega⟩ (by exact wRM_le q_0 (by omega)) (by omega)
      · refine r_swK (i := 24) (u := 1) (v := 654) (k := 22) (t := 654) rfl rfl h27 (by decide) (by decide) rfl ?_
        refine r_iinc (i := 654) (u := 10) (v := 4) (s := 10) (L1 := [some ((6, 0)), some ((2, 0)), some ((2, 43)), some ((2, 81)), some (vi (i + 10)), none, none]) rfl rfl rfl rfl rfl ?_
        refine r_goto (i := 655) (v := 13) rfl ?_
        exact ih S hI e_N23 e_CR e_RT e_RMe (i + 10) ⟨by omega, by omega⟩ (by exact wRM_le q_0 (by omega)) (by omega)
      · refine r_swK (i := 24) (u := 1) (v := 654) (k := 23) (t := 654) rfl rfl h28 (by decide) (by decide) rfl ?_
        refine r_iinc (i := 654) (u := 10) (v := 4) (s := 10) (L1 := [some ((6, 0)), some ((2, 0)), some ((2, 43)), some ((2, 81)), some (vi (i + 10)), none, none]) rfl rfl rfl rfl rfl ?_
        refine r_goto (i := 655) (v := 13) rfl ?_
        exact ih S hI e_N23 e_CR e_RT e_RMe (i + 10) ⟨by omega, by omega⟩ (by exact wRM_le q_0 (by omega)) (by omega)
      · refine r_swK (i := 24) (u := 1) (v := 654) (k := 24) (t := 654) rfl rfl h29 (by decide) (by decide) rfl ?_
        refine r_iinc (i := 654) (u := 10) (v := 4) (s := 10) (L1 := [some ((6, 0)), some ((2, 0)), some ((2, 43)), some ((2, 81)), some (vi (i + 10)), none, none]) rfl rfl rfl rfl rfl ?_
        refine r_goto (i := 655) (v := 13) rfl ?_
        exact ih S hI e_N23 e_CR e_RT e_RMe (i + 10) ⟨by omega, by omega⟩ (by exact wRM_le q_0 (by omega)) (by omega)
      · refine r_swK (i := 24) (u := 1) (v := 654) (k := 25) (t := 654) rfl rfl h30 (by decide) (by decide) rfl ?_
        refine r_iinc (i := 654) (u := 10) (v := 4) (s := 10) (L1 := [some ((6, 0)), some ((2, 0)), some ((2, 43)), some ((2, 81)), some (vi (i + 10)), none, none]) rfl rfl rfl rfl rfl ?_
        refine r_goto (i := 655) (v := 13) rfl ?_
        exact ih S hI e_N23 e_CR e_RT e_RMe (i + 10) ⟨by omega, by omega⟩ (by exact wRM_le q_0 (by omega)) (by omega)
      · refine r_swK (i := 24) (u := 1) (v := 654) (k := 26) (t := 654) rfl rfl h31 (by decide) (by decide) rfl ?_
        refine r_iinc (i := 654) (u := 10) (v := 4) (s := 10) (L1 := [some ((6, 0)), some ((2, 0)), some ((2, 43)), some ((2, 81)), some (vi (i + 10)), none, none]) rfl rfl rfl rfl rfl ?_
        refine r_goto (i := 655) (v := 13) rfl ?_
        exact ih S hI e_N23 e_CR e_RT e_RMe (i + 10) ⟨by omega, by omega⟩ (by exact wRM_le q_0 (by omega)) (by omega)
      · refine r_swK (i := 24) (u := 1) (v := 654) (k := 27) (t := 654) rfl rfl h32 (by decide) (by decide) rfl ?_
        refine r_iinc (i := 654) (u := 10) (v := 4) (s := 10) (L1 := [some ((6, 0)), some ((2, 0)), some ((2, 43)), some ((2, 81)), some (vi (i + 10)), none, none]) rfl rfl rfl rfl rfl ?_
        refine r_goto (i := 655) (v := 13) rfl ?_
        exact ih S hI e_N23 e_CR e_RT e_RMe (i + 10) ⟨by omega, by omega⟩ (by exact wRM_le q_0 (by omega)) (by omega)
      · refine r_swK (i := 24) (u := 1) (v := 654) (k := 28) (t := 654) rfl rfl h33 (by decide) (by decide) rfl ?_
        refine r_iinc (i := 654) (u := 10) (v := 4) (s := 10) (L1 := [some ((6, 0)), some ((2, 0)), some ((2, 43)), some ((2, 81)), some (vi (i + 10)), none, none]) rfl rfl rfl rfl rfl ?_
        refine r_goto (i := 655) (v := 13) rfl ?_
        exact ih S hI e_N23 e_CR e_RT e_RMe (i + 10) ⟨by omega, by omega⟩ (by exact wRM_le q_0 (by omega)) (by omega)
      · refine r_swK (i := 24) (u := 1) (v := 654) (k := 29) (t := 654) rfl rfl h34 (by decide) (by decide) rfl ?_
        refine r_iinc (i := 654) (u := 10) (v := 4) (s := 10) (L1 := [some ((6, 0)), some ((2, 0)), some ((2, 43)), some ((2, 81)), some (vi (i + 10)), none, none]) rfl rfl rfl rfl rfl ?_
        refine r_goto (i := 655) (v := 13) rfl ?_
        exact ih S hI e_N23 e_CR e_RT e_RMe (i + 10) ⟨by omega, by omega⟩ (by exact wRM_le q_0 (by omega)) (by omega)
      · refine r_swK (i := 24) (u := 1) (v := 654) (k := 30) (t := 654) rfl rfl h35 (by decide) (by decide) rfl ?_
        refine r_iinc (i := 654) (u := 10) (v := 4) (s := 10) (L1 := [some ((6, 0)), some ((2, 0)), some ((2, 43)), some ((2, 81)), some (vi (i + 10)), none, none]) rfl rfl rfl rfl rfl ?_
        refine r_goto (i := 655) (v := 13) rfl ?_
        exact ih S hI e_N23 e_CR e_RT e_RMe (i + 10) ⟨by omega, by omega⟩ (by exact wRM_le q_0 (by omega)) (by omega)
      · refine r_swK (i := 24) (u := 1) (v := 654) (k := 31) (t := 654) rfl rfl h36 (by decide) (by decide) rfl ?_
        refine r_iinc (i := 654) (u := 10) (v := 4) (s := 10) (L1 := [some ((6, 0)), some ((2, 0)), some ((2, 43)), some ((2, 81)), some (vi (i + 10)), none, none]) rfl rfl rfl rfl rfl ?_
        refine r_goto (i := 655) (v := 13) rfl ?_
        exact ih S hI e_N23 e_CR e_RT e_RMe (i + 10) ⟨by omega, by omega⟩ (by exact wRM_le q_0 (by omega)) (by omega)
end XNC
