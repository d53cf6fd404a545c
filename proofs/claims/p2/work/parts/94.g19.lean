set_option linter.unusedVariables false
set_option maxRecDepth 4000
noncomputable section XNC
/-- ProxyForgeLaw.type -/
theorem sp179 {G : xk} {S : yS} {d : Nat} (hI : yI S) {kR : Int} {p0 : Int} (h_p0 : 0 ≤ p0 ∧ p0 ≤ 1) {p1 : Int} (h_p1 : -2147483648 ≤ p1 ∧ p1 ≤ 2147483647) {p2 : Int} (h_p2 : -2147483648 ≤ p2 ∧ p2 ≤ 2147483647) {p3 : Int} (h_p3 : -2147483648 ≤ p3 ∧ p3 ≤ 2147483647) (p_0 : wRM (kR + 1) S) (p_1 : 0 ≤ kR) (e_N23 : N23 S) (e_CR : CR S) (hd : 7 ≤ d) : yT xPr G LY xC179 0 [some ((2, 0)), some (vi p0), some (vi p1), some (vi p2), some (vi p3), some ((2, 81))] [] S d (fun r S' => ∃ z : Int, r = (1, vi z) ∧ 0 ≤ z ∧ z ≤ 2 ∧ wRM kR S' ∧ hTy S S' p0 p1 p2 p3 z ∧ N23 S' ∧ CR S' ∧ yI S' ∧ yFr [(1, 7)] [2, 3, 4, 5, 6, 81] S S') := by
  refine yT_pad 1 ?_
  show yT xPr G LY xC179 0 [some ((2, 0)), some (vi p0), some (vi p1), some (vi p2), some (vi p3), some ((2, 81)), none] [] S d _
  obtain ⟨d, rfl⟩ : ∃ q, d = q + 1 := ⟨d - 1, by omega⟩
  have hF : yFr [(1, 7)] [2, 3, 4, 5, 6, 81] S S := yFr.refl S
  have e_RM := p_0
  refine r_load (i := 0) (u := 5) (w := 2) rfl rfl rfl ?_
  refine r_const (i := 1) (u := 0) (z := 0) rfl rfl ?_
  refine r_load (i := 2) (u := 0) (w := 2) rfl rfl rfl ?_
  refine r_load (i := 3) (u := 1) (w := 0) rfl rfl rfl ?_
  refine r_load (i := 4) (u := 2) (w := 0) rfl rfl rfl ?_
  refine r_load (i := 5) (u := 3) (w := 0) rfl rfl rfl ?_
  refine r_load (i := 6) (u := 4) (w := 0) rfl rfl rfl ?_
  have h1 := hI.f tf1_7
  refine r_call (i := 7) (u := 3940705509310464) (v := 21) (w := 11) (b := 0) (na := 1285) (C2 := xC21) (as := [(2, 0), vi p0, vi p1, vi p2, vi p3]) (s := [vi 0, (2, 81)]) rfl rfl rfl rfl rfl rfl rfl (sp21 (b := p0) (fl := p1) (p := p2) (up := p3) hI ⟨by omega, by omega⟩ ⟨by omega, by omega⟩ ⟨by omega, by omega⟩ ⟨by omega, by omega⟩   (by omega)) (fun r2 S3 hq4 => ?_)
  rcases hq4 with hq5 | ⟨a7, c9, rfl, hc6, rfl⟩
  · obtain ⟨z8, rfl, h9, h10, tc11, tl12, tz13, ct14, hI15, hF16, hR17⟩ := hq5
    have hF18 := hF.trans hF16 rfl rfl
    have e19 := N23x.fr e_N23 hF16 hR17 rfl rfl rfl
    have e20 := CRx.fr e_CR hF16 rfl rfl
    have e21 := wRM_rm e_RM hR17
    refine Or.inr (Or.inl ⟨rfl, ?_⟩)
    refine r_i2l (i := 8) rfl ⟨by omega, by omega⟩ ?_
    refine r_lastore (i := 9) rfl ly81 (by decide) (by omega) (by omega) ⟨by omega, by omega⟩ ?_
    have hI23 := hI15.seta0 (b := 81) (j := (0 : Int).toNat) (z := z8) rfl rfl
    have hF25 := hF18.seta (b := 81) (j := (0 : Int).toNat) (z := z8) rfl
    have e27 := N23x.seta e19 (b := 81) (j := (0 : Int).toNat) (z := z8) rfl
    have e28 := CRx.seta e20 (b := 81) (j := (0 : Int).toNat) (z := z8) rfl
    have e29 := wRM_a e21 (b := 81) (j := (0 : Int).toNat) (z := z8)
    refine yT_gen (fun S22 hS24 => ?_)
    rw [hS24] at hI23 hF25  e27 e28 e29
    refine r_goto (i := 10) (v := 17) rfl ?_
    refine r_const (i := 17) (u := 0) (z := 0) rfl rfl ?_
    exact r_retI (i := 18) rfl ⟨0, rfl, by omega, by omega, (by exact wRM_le e29 (by omega)), (by exact Or.inl ⟨rfl, tc11, tl12, by first | (subst hS24; exact ysa_eq.trans tz13) | (subst_vars; rfl), by subst hS24; exact cTy81 ct14⟩), e27, e28, hI23, hF25⟩
  · obtain ⟨hI30, rm31⟩ := wRM_cost e_RM hI (by omega)
    have e32 : N23 (ycost S 1 6) := e_N23
    have e33 : CR (ycost S 1 6) := e_CR
    have hF34 : yFr [(1, 7)] [2, 3, 4, 5, 6, 81] S (ycost S 1 6) := hF
    rcases hc6 with ⟨rfl, xphc6⟩ | ⟨rfl, xphc6⟩
    · refine Or.inr (Or.inr (Or.inl ⟨rfl, rfl, by decide, ?_⟩))
      refine r_store (i := 11) (u := 6) (w := 2) (L1 := [some ((2, 0)), some (vi p0), some (vi p1), some (vi p2), some (vi p3), some ((2, 81)), some ((2, a7))]) rfl rfl rfl rfl ?_
      refine r_const (i := 12) (u := 1) (z := 1) rfl rfl ?_
      exact r_retI (i := 13) rfl ⟨1, rfl, by omega, by omega, (by exact wRM_le rm31 (by omega)), (by first | exact Or.inr (Or.inl ⟨rfl, xphc6, rfl, rfl⟩) | exact Or.inr (Or.inr ⟨rfl, xphc6.1, xphc6.2, rfl, rfl⟩)), e32, e33, hI30, hF34⟩
    · refine Or.inr (Or.inr (Or.inr ⟨rfl, (show (13 : Nat) ≠ 3940705509310464 / 65536 % 65536 by decide), rfl, by decide, ?_⟩))
      refine r_store (i := 14) (u := 6) (w := 2) (L1 := [some ((2, 0)), some (vi p0), some (vi p1), some (vi p2), some (vi p3), some ((2, 81)), some ((2, a7))]) rfl rfl rfl rfl ?_
      refine r_const (i := 15) (u := 2) (z := 2) rfl rfl ?_
      exact r_retI (i := 16) rfl ⟨2, rfl, by omega, by omega, (by exact wRM_le rm31 (by omega)), (by first | exact Or.inr (Or.inl ⟨rfl, xphc6, rfl, rfl⟩) | exact Or.inr (Or.inr ⟨rfl, xphc6.1, xphc6.2, rfl, rfl⟩)), e32, e33, hI30, hF34⟩
/-- ProxyForgeLaw.implement -/
theorem sp176 {G : xk} {S : yS} {d : Nat} (hI : yI S) {kR : Int} {p0 : Int} (h_p0 : -2147483648 ≤ p0 ∧ p0 ≤ 2147483647) {p1 : Int} (h_p1 : -2147483648 ≤ p1 ∧ p1 ≤ 2147483647) (p_0 : wRM (kR + 1) S) (p_1 : 0 ≤ kR) (e_N23 : N23 S) (e_CR : CR S) (hd : 7 ≤ d) : yT xPr G LY xC176 0 [some ((2, 0)), some (vi p0), some (vi p1)] [] S d (fun r S' => ∃ z : Int, r = (1, vi z) ∧ 0 ≤ z ∧ z ≤ 2 ∧ wRM kR S' ∧ N23 S' ∧ CR S' ∧ yI S' ∧ yFr [] [6, 7, 8] S S') := by
  refine yT_pad 1 ?_
  show yT xPr G LY xC176 0 [some ((2, 0)), some (vi p0), some (vi p1), none] [] S d _
  obtain ⟨d, rfl⟩ : ∃ q, d = q + 1 := ⟨d - 1, by omega⟩
  have hF : yFr [] [6, 7, 8] S S := yFr.refl S
  have e_RM := p_0
  refine r_load (i := 0) (u := 0) (w := 2) rfl rfl rfl ?_
  refine r_load (i := 1) (u := 1) (w := 0) rfl rfl rfl ?_
  refine r_load (i := 2) (u := 2) (w := 0) rfl rfl rfl ?_
  refine r_call (i := 3) (u := 786432) (v := 10) (w := 5) (b := 0) (na := 771) (C2 := xC10) (as := [(2, 0), vi p0, vi p1]) (s := []) rfl rfl rfl rfl rfl rfl rfl (sp10 (t := p0) (f := p1) hI ⟨by omega, by omega⟩ ⟨by omega, by omega⟩   (by omega)) (fun r1 S2 hq3 => ?_)
  rcases hq3 with hq4 | ⟨a6, c9, rfl, hc5, rfl⟩
  · obtain ⟨rfl, hI7, hF8, hR9⟩ := hq4
    have hF10 := hF.trans hF8 rfl rfl
    have e11 := N23x.fr e_N23 hF8 hR9 rfl rfl rfl
    have e12 := CRx.fr e_CR hF8 rfl rfl
    have e13 := wRM_rm e_RM hR9
    refine Or.inl ⟨rfl, ?_⟩
    refine r_goto (i := 4) (v := 8) rfl ?_
    refine r_const (i := 8) (u := 0) (z := 0) rfl rfl ?_
    exact r_retI (i := 9) rfl ⟨0, rfl, by omega, by omega, (by exact wRM_le e13 (by omega)), e11, e12, hI7, hF10⟩
  · obtain ⟨hI14, rm15⟩ := wRM_cost e_RM hI (by omega)
    have e16 : N23 (ycost S 1 6) := e_N23
    have e17 : CR (ycost S 1 6) := e_CR
    have hF18 : yFr [] [6, 7, 8] S (ycost S 1 6) := hF
    obtain rfl := hc5
    · refine Or.inr (Or.inr (Or.inl ⟨rfl, rfl, by decide, ?_⟩))
      refine r_store (i := 5) (u := 3) (w := 2) (L1 := [some ((2, 0)), some (vi p0), some (vi p1), some ((2, a6))]) rfl rfl rfl rfl ?_
      refine r_const (i := 6) (u := 1) (z := 1) rfl rfl ?_
      exact r_retI (i := 7) rfl ⟨1, rfl, by omega, by omega, (by exact wRM_le rm15 (by omega)), e16, e17, hI14, hF18⟩
/-- ProxyForgeLaw.method -/
theorem sp177 {G : xk} {S : yS} {d : Nat} (hI : yI S) {kR : Int} {p0 : Int} (h_p0 : -2147483648 ≤ p0 ∧ p0 ≤ 2147483647) {p1 : Int} (h_p1 : -2147483648 ≤ p1 ∧ p1 ≤ 2147483647) {p2 : Int} (h_p2 : -2147483648 ≤ p2 ∧ p2 ≤ 2147483647) {p3 : Int} (h_p3 : -2147483648 ≤ p3 ∧ p3 ≤ 2147483647) {p4 : Int} (h_p4 : -2147483648 ≤ p4 ∧ p4 ≤ 2147483647) (p_0 : wRM (kR + 1) S) (p_1 : 0 ≤ kR) (e_N23 : N23 S) (e_CR : CR S) (hd : 7 ≤ d) : yT xPr G LY xC177 0 [some ((2, 0)), some (vi p0), some (vi p1), some (vi p2), some (vi p3), some (vi p4), some ((2, 81))] [] S d (fun r S' => ∃ z : Int, r = (1, vi z) ∧ 0 ≤ z ∧ z ≤ 2 ∧ wRM kR S' ∧ N23 S' ∧ CR S' ∧ yI S' ∧ yFr [(9, 8)] [10, 11, 12, 13, 14, 81] S S') := by
  refine yT_pad 1 ?_
  show yT xPr G LY xC177 0 [some ((2, 0)), some (vi p0), some (vi p1), some (vi p2), some (vi p3), some (vi p4), some ((2, 81)), none] [] S d _
  obtain ⟨d, rfl⟩ : ∃ q, d = q + 1 := ⟨d - 1, by omega⟩
  have hF : yFr [(9, 8)] [10, 11, 12, 13, 14, 81] S S := yFr.refl S
  have e_RM := p_0
  refine r_load (i := 0) (u := 6) (w := 2) rfl rfl rfl ?_
  refine r_const (i := 1) (u := 0) (z := 0) rfl rfl ?_
  refine r_load (i := 2) (u := 0) (w := 2) rfl rfl rfl ?_
  refine r_load (i := 3) (u := 1) (w := 0) rfl rfl rfl ?_
  refine r_load (i := 4) (u := 2) (w := 0) rfl rfl rfl ?_
  refine r_load (i := 5) (u := 3) (w := 0) rfl rfl rfl ?_
  refine r_load (i := 6) (u := 4) (w := 0) rfl rfl rfl ?_
  refine r_load (i := 7) (u := 5) (w := 0) rfl rfl rfl ?_
  refine r_call (i := 8) (u := 4222180486021120) (v := 13) (w := 12) (b := 0) (na := 1542) (C2 := xC13) (as := [(2, 0), vi p0, vi p1, vi p2, vi p3, vi p4]) (s := [vi 0, (2, 81)]) rfl rfl rfl rfl rfl rfl rfl (sp13 (t := p0) (w0 := p1) (fl := p2) (p := p3) (b := p4) hI ⟨by omega, by omega⟩ ⟨by omega, by omega⟩ ⟨by omega, by omega⟩ ⟨by omega, by omega⟩ ⟨by omega, by omega⟩   (by omega)) (fun r1 S2 hq3 => ?_)
  rcases hq3 with hq4 | ⟨a6, c9, rfl, hc5, rfl⟩
  · obtain ⟨z7, rfl, h8, h9, hI10, hF11, hR12⟩ := hq4
    have hF13 := hF.trans hF11 rfl rfl
    have e14 := N23x.fr e_N23 hF11 hR12 rfl rfl rfl
    have e15 := CRx.fr e_CR hF11 rfl rfl
    have e16 := wRM_rm e_RM hR12
    refine Or.inr (Or.inl ⟨rfl, ?_⟩)
    refine r_i2l (i := 9) rfl ⟨by omega, by omega⟩ ?_
    refine r_lastore (i := 10) rfl ly81 (by decide) (by omega) (by omega) ⟨by omega, by omega⟩ ?_
    have hI18 := hI10.seta0 (b := 81) (j := (0 : Int).toNat) (z := z7) rfl rfl
    have hF20 := hF13.seta (b := 81) (j := (0 : Int).toNat) (z := z7) rfl
    have e22 := N23x.seta e14 (b := 81) (j := (0 : Int).toNat) (z := z7) rfl
    have e23 := CRx.seta e15 (b := 81) (j := (0 : Int).toNat) (z := z7) rfl
    have e24 := wRM_a e16 (b := 81) (j := (0 : Int).toNat) (z := z7)
    refine yT_gen (fun S17 hS19 => ?_)
    rw [hS19] at hI18 hF20  e22 e23 e24
    refine r_goto (i := 11) (v := 18) rfl ?_
    refine r_const (i := 18) (u := 0) (z := 0) rfl rfl ?_
    exact r_retI (i := 19) rfl ⟨0, rfl, by omega, by omega, (by exact wRM_le e24 (by omega)), e22, e23, hI18, hF20⟩
  · obtain ⟨hI25, rm26⟩ := wRM_cost e_RM hI (by omega)
    have e27 : N23 (ycost S 1 6) := e_N23
    have e28 : CR (ycost S 1 6) := e_CR
    have hF29 : yFr [(9, 8)] [10, 11, 12, 13, 14, 81] S (ycost S 1 6) := hF
    rcases hc5 with rfl | rfl
    · refine Or.inr (Or.inr (Or.inl ⟨rfl, rfl, by decide, ?_⟩))
      refine r_store (i := 12) (u := 7) (w := 2) (L1 := [some ((2, 0)), some (vi p0), some (vi p1), some (vi p2), some (vi p3), some (vi p4), some ((2, 81)), some ((2, a6))]) rfl rfl rfl rfl ?_
      refine r_const (i := 13) (u := 1) (z := 1) rfl rfl ?_
      exact r_retI (i := 14) rfl ⟨1, rfl, by omega, by omega, (by exact wRM_le rm26 (by omega)), e27, e28, hI25, hF29⟩
    · refine Or.inr (Or.inr (Or.inr ⟨rfl, (show (13 : Nat) ≠ 4222180486021120 / 65536 % 65536 by decide), rfl, by decide, ?_⟩))
      refine r_store (i := 15) (u := 7) (w := 2) (L1 := [some ((2, 0)), some (vi p0), some (vi p1), some (vi p2), some (vi p3), some (vi p4), some ((2, 81)), some ((2, a6))]) rfl rfl rfl rfl ?_
      refine r_const (i := 16) (u := 2) (z := 2) rfl rfl ?_
      exact r_retI (i := 17) rfl ⟨2, rfl, by omega, by omega, (by exact wRM_le rm26 (by omega)), e27, e28, hI25, hF29⟩
/-- ProxyForgeLaw.throwing -/
theorem sp178 {G : xk} {S : yS} {d : Nat} (hI : yI S) {kR : Int} {p0 : Int} (h_p0 : -2147483648 ≤ p0 ∧ p0 ≤ 2147483647) {p1 : Int} (h_p1 : -2147483648 ≤ p1 ∧ p1 ≤ 2147483647) (p_0 : wRM (kR + 1) S) (p_1 : 0 ≤ kR) (e_N23 : N23 S) (e_CR : CR S) (hd : 7 ≤ d) : yT xPr G LY xC178 0 [some ((2, 0)), some (vi p0), some (vi p1)] [] S d (fun r S' => ∃ z : Int, r = (1, vi z) ∧ 0 ≤ z ∧ z ≤ 2 ∧ wRM kR S' ∧ N23 S' ∧ CR S' ∧ yI S' ∧ yFr [] [15, 16] S S') := by
  refine yT_pad 1 ?_
  show yT xPr G LY xC178 0 [some ((2, 0)), some (vi p0), some (vi p1), none] [] S d _
  obtain ⟨d, rfl⟩ : ∃ q, d = q + 1 := ⟨d - 1, by omega⟩
  have hF : yFr [] [15, 16] S S := yFr.refl S
  have e_RM := p_0
  refine r_load (i := 0) (u := 0) (w := 2) rfl rfl rfl ?_
  refine r_load (i := 1) (u := 1) (w := 0) rfl rfl rfl ?_
  refine r_load (i := 2) (u := 2) (w := 0) rfl rfl rfl ?_
  refine r_call (i := 3) (u := 786432) (v := 20) (w := 5) (b := 0) (na := 771) (C2 := xC20) (as := [(2, 0), vi p0, vi p1]) (s := []) rfl rfl rfl rfl rfl rfl rfl (sp20 (m := p0) (t := p1) hI ⟨by omega, by omega⟩ ⟨by omega, by omega⟩   (by omega)) (fun r1 S2 hq3 => ?_)
  rcases hq3 with hq4 | ⟨a6, c9, rfl, hc5, rfl⟩
  · obtain ⟨rfl, hI7, hF8, hR9⟩ := hq4
    have hF10 := hF.trans hF8 rfl rfl
    have e11 := N23x.fr e_N23 hF8 hR9 rfl rfl rfl
    have e12 := CRx.fr e_CR hF8 rfl rfl
    have e13 := wRM_rm e_RM hR9
    refine Or.inl ⟨rfl, ?_⟩
    refine r_goto (i := 4) (v := 8) rfl ?_
    refine r_const (i := 8) (u := 0) (z := 0) rfl rfl ?_
    exact r_retI (i := 9) rfl ⟨0, rfl, by omega, by omega, (by exact wRM_le e13 (by omega)), e11, e12, hI7, hF10⟩
  · obtain ⟨hI14, rm15⟩ := wRM_cost e_RM hI (by omega)
    have e16 : N23 (ycost S 1 6) := e_N23
    have e17 : CR (ycost S 1 6) := e_CR
    have hF18 : yFr [] [15, 16] S (ycost S 1 6) := hF
    obtain rfl := hc5
    · refine Or.inr (Or.inr (Or.inl ⟨rfl, rfl, by decide, ?_⟩))
      refine r_store (i := 5) (u := 3) (w := 2) (L1 := [some ((2, 0)), some (vi p0), some (vi p1), some ((2, a6))]) rfl rfl rfl rfl ?_
      refine r_const (i := 6) (u := 1) (z := 1) rfl rfl ?_
      exact r_retI (i := 7) rfl ⟨1, rfl, by omega, by omega, (by exact wRM_le rm15 (by omega)), e16, e17, hI14, hF18⟩
/-- ProxyForgeLaw.forge -/
theorem sp175 {G : xk} {S : yS} {d : Nat} (hI : yI S) {kR : Int} {p0 : Int} (h_p0 : -2147483648 ≤ p0 ∧ p0 ≤ 2147483647) {p1 : Int} (h_p1 : -2147483648 ≤ p1 ∧ p1 ≤ 2147483647) {p2 : Int} (h_p2 : -2147483648 ≤ p2 ∧ p2 ≤ 2147483647) {p3 : Int} (h_p3 : -2147483648 ≤ p3 ∧ p3 ≤ 2147483647) (p_0 : wRM (kR + 1) S) (p_1 : 0 ≤ kR) (e_N23 : N23 S) (e_CR : CR S) (hd : 26 ≤ d) : yT xPr G LY xC175 0 [some ((2, 0)), some (vi p0), some (vi p1), some (vi p2), some (vi p3), some ((2, 81))] [] S d (fun r S' => ∃ z : Int, r = (1, vi z) ∧ 0 ≤ z ∧ z ≤ 2 ∧ wRM kR S' ∧ N23 S' ∧ CR S' ∧ yI S' ∧ yFr [(17, 6), (17, 7), (17, 8), (17, 9), (17, 10), (17, 11), (17, 12), (22, 3), (31, 1), (33, 7), (33, 8), (33, 9), (33, 10), (33, 11), (33, 12), (33, 13), (33, 14), (33, 15), (34, 1), (36, 5)] [18, 19, 20, 21, 23, 24, 25, 37, 81, 100, 101, 102, 103, 105] S S') := by
  refine yT_pad 1 ?_
  show yT xPr G LY xC175 0 [some ((2, 0)), some (vi p0), some (vi p1), some (vi p2), some (vi p3), some ((2, 81)), none] [] S d _
  obtain ⟨d, rfl⟩ : ∃ q, d = q + 1 := ⟨d - 1, by omega⟩
  have hF : yFr [(17, 6), (17, 7), (17, 8), (17, 9), (17, 10), (17, 11), (17, 12), (22, 3), (31, 1), (33, 7), (33, 8), (33, 9), (33, 10), (33, 11), (33, 12), (33, 13), (33, 14), (33, 15), (34, 1), (36, 5)] [18, 19, 20, 21, 23, 24, 25, 37, 81, 100, 101, 102, 103, 105] S S := yFr.refl S
  have e_RM := p_0
  refine r_load (i := 0) (u := 5) (w := 2) rfl rfl rfl ?_
  refine r_const (i := 1) (u := 0) (z := 0) rfl rfl ?_
  refine r_load (i := 2) (u := 0) (w := 2) rfl rfl rfl ?_
  refine r_load (i := 3) (u := 1) (w := 0) rfl rfl rfl ?_
  refine r_load (i := 4) (u := 2) (w := 0) rfl rfl rfl ?_
  refine r_load (i := 5) (u := 3) (w := 0) rfl rfl rfl ?_
  refine r_load (i := 6) (u := 4) (w := 0) rfl rfl rfl ?_
  refine r_call (i := 7) (u := 786432) (v := 8) (w := 11) (b := 0) (na := 1797) (C2 := xC8) (as := [(2, 0), vi p0, vi p1, vi p2, vi p3]) (s := [vi 0, (2, 81)]) rfl rfl rfl rfl rfl rfl rfl (sp8 (t := p0) (a := p1) (b := p2) (c := p3) hI ⟨by omega, by omega⟩ ⟨by omega, by omega⟩ ⟨by omega, by omega⟩ ⟨by omega, by omega⟩  e_N23 (by omega)) (fun r1 S2 hq3 => ?_)
  rcases hq3 with hq4 | ⟨a6, c9, rfl, hc5, rfl⟩
  · obtain ⟨z7, rfl, h8, h9, e10, hI11, hF12, hR13⟩ := hq4
    have hF14 := hF.trans hF12 rfl rfl
    have e15 := CRx.fr e_CR hF12 rfl rfl
    have e16 := wRM_rm e_RM hR13
    refine Or.inr (Or.inl ⟨rfl, ?_⟩)
    refine r_i2l (i := 8) rfl ⟨by omega, by omega⟩ ?_
    refine r_lastore (i := 9) rfl ly81 (by decide) (by omega) (by omega) ⟨by omega, by omega⟩ ?_
    have hI18 := hI11.seta0 (b := 81) (j := (0 : Int).toNat) (z := z7) rfl rfl
    have hF20 := hF14.seta (b := 81) (j := (0 : Int).toNat) (z := z7) rfl
    have e22 := CRx.seta e15 (b := 81) (j := (0 : Int).toNat) (z := z7) rfl
    have e23 := wRM_a e16 (b := 81) (j := (0 : Int).toNat) (z := z7)
    have e24 := N23x.seta e10 (b := 81) (j := (0 : Int).toNat) (z := z7) rfl
    refine yT_gen (fun S17 hS19 => ?_)
    rw [hS19] at hI18 hF20  e22 e23 e24
    refine r_goto (i := 10) (v := 14) rfl ?_
    refine r_const (i := 14) (u := 0) (z := 0) rfl rfl ?_
    exact r_retI (i := 15) rfl ⟨0, rfl, by omega, by omega, (by exact wRM_le e23 (by omega)), e24, e22, hI18, hF20⟩
  · obtain ⟨hI25, rm26⟩ := wRM_cost e_RM hI (by omega)
    have e27 : N23 (ycost S 1 6) := e_N23
    have e28 : CR (ycost S 1 6) := e_CR
    have hF29 : yFr [(17, 6), (17, 7), (17, 8), (17, 9), (17, 10), (17, 11), (17, 12), (22, 3), (31, 1), (33, 7), (33, 8), (33, 9), (33, 10), (33, 11), (33, 12), (33, 13), (33, 14), (33, 15), (34, 1), (36, 5)] [18, 19, 20, 21, 23, 24, 25, 37, 81, 100, 101, 102, 103, 105] S (ycost S 1 6) := hF
    obtain rfl := hc5
    · refine Or.inr (Or.inr (Or.inl ⟨rfl, rfl, by decide, ?_⟩))
      refine r_store (i := 11) (u := 6) (w := 2) (L1 := [some ((2, 0)), some (vi p0), some (vi p1), some (vi p2), some (vi p3), some ((2, 81)), some ((2, a6))]) rfl rfl rfl rfl ?_
      refine r_const (i := 12) (u := 1) (z := 1) rfl rfl ?_
      exact r_retI (i := 13) rfl ⟨1, rfl, by omega, by omega, (by exact wRM_le rm26 (by omega)), e27, e28, hI25, hF29⟩
/-- ProxyForgeLaw.answer -/
theorem sp173 {G : xk} {S : yS} {d : Nat} (hI : yI S) {kR : Int} {p0 : Int} (h_p0 : -2147483648 ≤ p0 ∧ p0 ≤ 2147483647) {p1 : Int} (h_p1 : Rl p1) (p_0 : wRM (kR + 1) S) (p_1 : 0 ≤ kR) (e_N23 : N23 S) (e_CR : CR S) (hd : 7 ≤ d) : yT xPr G LY xC173 0 [some ((2, 0)), some (vi p0), some (vl p1), none] [] S d (fun r S' => ∃ z : Int, r = (1, vi z) ∧ 0 ≤ z ∧ z ≤ 2 ∧ wRM kR S' ∧ N23 S' ∧ CR S' ∧ yI S' ∧ yFr [(26, 4), (26, 5)] [] S S') := by
  refine yT_pad 1 ?_
  show yT xPr G LY xC173 0 [some ((2, 0)), some (vi p0), some (vl p1), none, none] [] S d _
  obtain ⟨d, rfl⟩ : ∃ q, d = q + 1 := ⟨d - 1, by omega⟩
  have hF : yFr [(26, 4), (26, 5)] [] S S := yFr.refl S
  have e_RM := p_0
  refine r_load (i := 0) (u := 0) (w := 2) rfl rfl rfl ?_
  refine r_load (i := 1) (u := 1) (w := 0) rfl rfl rfl ?_
  refine r_load (i := 2) (u := 2) (w := 1) rfl rfl rfl ?_
  refine r_call (i := 3) (u := 786432) (v := 1) (w := 5) (b := 0) (na := 1027) (C2 := xC1) (as := [(2, 0), vi p0, vl p1]) (s := []) rfl rfl rfl rfl rfl rfl rfl (sp1 (k := p0) (v := p1) hI ⟨by omega, by omega⟩ ⟨by omega, by omega⟩   (by omega)) (fun r1 S2 hq3 => ?_)
  rcases hq3 with hq4 | ⟨a6, c9, rfl, hc5, rfl⟩
  · obtain ⟨rfl, hI7, hF8, hR9⟩ := hq4
    have hF10 := hF.trans hF8 rfl rfl
    have e11 := N23x.fr e_N23 hF8 hR9 rfl rfl rfl
    have e12 := CRx.fr e_CR hF8 rfl rfl
    have e13 := wRM_rm e_RM hR9
    refine Or.inl ⟨rfl, ?_⟩
    refine r_goto (i := 4) (v := 8) rfl ?_
    refine r_const (i := 8) (u := 0) (z := 0) rfl rfl ?_
    exact r_retI (i := 9) rfl ⟨0, rfl, by omega, by omega, (by exact wRM_le e13 (by omega)), e11, e12, hI7, hF10⟩
  · obtain ⟨hI14, rm15⟩ := wRM_cost e_RM hI (by omega)
    have e16 : N23 (ycost S 1 6) := e_N23
    have e17 : CR (ycost S 1 6) := e_CR
    have hF18 : yFr [(26, 4), (26, 5)] [] S (ycost S 1 6) := hF
    obtain rfl := hc5
    · refine Or.inr (Or.inr (Or.inl ⟨rfl, rfl, by decide, ?_⟩))
      refine r_store (i := 5) (u := 4) (w := 2) (L1 := [some ((2, 0)), some (vi p0), some (vl p1), none, some ((2, a6))]) rfl rfl rfl rfl ?_
      refine r_const (i := 6) (u := 1) (z := 1) rfl rfl ?_
      exact r_retI (i := 7) rfl ⟨1, rfl, by omega, by omega, (by exact wRM_le rm15 (by omega)), e16, e17, hI14, hF18⟩
/-- ProxyForgeLaw.call -/
theorem sp174 {G : xk} {S : yS} {d : Nat} (hI : yI S) {kR : Int} {p0 : Int} (h_p0 : -2147483648 ≤ p0 ∧ p0 ≤ 2147483647) {p1 : Int} (h_p1 : Rl p1) {p2 : Int} (h_p2 : Rl p2) {p3 : Int} (h_p3 : Rl p3) {p4 : Int} (h_p4 : Rl p4) (p_0 : wRM (kR + 1) S) (p_1 : 0 ≤ kR) (e_N23 : N23 S) (e_CR : CR S) (hd : 7 ≤ d) : yT xPr G LY xC174 0 [some ((2, 0)), some (vi p0), some (vl p1), none, some (vl p2), none, some (vl p3), none, some (vl p4), none, some ((2, 81))] [] S d (fun r S' => ∃ z : Int, r = (1, vi z) ∧ 0 ≤ z ∧ z ≤ 2 ∧ wRM kR S' ∧ N23 S' ∧ CR S' ∧ yI S' ∧ yFr [(26, 2), (26, 3), (29, 5)] [27, 28, 30, 81] S S') := by
  refine yT_pad 1 ?_
  show yT xPr G LY xC174 0 [some ((2, 0)), some (vi p0), some (vl p1), none, some (vl p2), none, some (vl p3), none, some (vl p4), none, some ((2, 81)), none] [] S d _
  obtain ⟨d, rfl⟩ : ∃ q, d = q + 1 := ⟨d - 1, by omega⟩
  have hF : yFr [(26, 2), (26, 3), (29, 5)] [27, 28, 30, 81] S S := yFr.refl S
  have e_RM := p_0
  refine r_load (i := 0) (u := 10) (w := 2) rfl rfl rfl ?_
  refine r_const (i := 1) (u := 0) (z := 0) rfl rfl ?_
  refine r_load (i := 2) (u := 0) (w := 2) rfl rfl rfl ?_
  refine r_load (i := 3) (u := 1) (w := 0) rfl rfl rfl ?_
  refine r_load (i := 4) (u := 2) (w := 1) rfl rfl rfl ?_
  refine r_load (i := 5) (u := 4) (w := 1) rfl rfl rfl ?_
  refine r_load (i := 6) (u := 6) (w := 1) rfl rfl rfl ?_
  refine r_load (i := 7) (u := 8) (w := 1) rfl rfl rfl ?_
  refine r_call (i := 8) (u := 786432) (v := 5) (w := 12) (b := 0) (na := 2566) (C2 := xC5) (as := [(2, 0), vi p0, vl p1, vl p2, vl p3, vl p4]) (s := [vi 0, (2, 81)]) rfl rfl rfl rfl rfl rfl rfl (sp5 (k := p0) (a := p1) (b := p2) (c := p3) (e := p4) hI ⟨by omega, by omega⟩ ⟨by omega, by omega⟩ ⟨by omega, by omega⟩ ⟨by omega, by omega⟩ ⟨by omega, by omega⟩   (by omega)) (fun r1 S2 hq3 => ?_)
  rcases hq3 with hq4 | ⟨a6, c9, rfl, hc5, rfl⟩
  · obtain ⟨z7, rfl, h8, h9, hI10, hF11, hR12⟩ := hq4
    have hF13 := hF.trans hF11 rfl rfl
    have e14 := N23x.fr e_N23 hF11 hR12 rfl rfl rfl
    have e15 := CRx.fr e_CR hF11 rfl rfl
    have e16 := wRM_rm e_RM hR12
    refine Or.inr (Or.inl ⟨rfl, ?_⟩)
    refine r_i2l (i := 9) rfl ⟨by omega, by omega⟩ ?_
    refine r_lastore (i := 10) rfl ly81 (by decide) (by omega) (by omega) ⟨by omega, by omega⟩ ?_
    have hI18 := hI10.seta0 (b := 81) (j := (0 : Int).toNat) (z := z7) rfl rfl
    have hF20 := hF13.seta (b := 81) (j := (0 : Int).toNat) (z := z7) rfl
    have e22 := N23x.seta e14 (b := 81) (j := (0 : Int).toNat) (z := z7) rfl
    have e23 := CRx.seta e15 (b := 81) (j := (0 : Int).toNat) (z := z7) rfl
    have e24 := wRM_a e16 (b := 81) (j := (0 : Int).toNat) (z := z7)
    refine yT_gen (fun S17 hS19 => ?_)
    rw [hS19] at hI18 hF20  e22 e23 e24
    refine r_goto (i := 11) (v := 15) rfl ?_
    refine r_const (i := 15) (u := 0) (z := 0) rfl rfl ?_
    exact r_retI (i := 16) rfl ⟨0, rfl, by omega, by omega, (by exact wRM_le e24 (by omega)), e22, e23, hI18, hF20⟩
  · obtain ⟨hI25, rm26⟩ := wRM_cost e_RM hI (by omega)
    have e27 : N23 (ycost S 1 6) := e_N23
    have e28 : CR (ycost S 1 6) := e_CR
    have hF29 : yFr [(26, 2), (26, 3), (29, 5)] [27, 28, 30, 81] S (ycost S 1 6) := hF
    obtain rfl := hc5
    · refine Or.inr (Or.inr (Or.inl ⟨rfl, rfl, by decide, ?_⟩))
      refine r_store (i := 12) (u := 11) (w := 2) (L1 := [some ((2, 0)), some (vi p0), some (vl p1), none, some (vl p2), none, some (vl p3), none, some (vl p4), none, some ((2, 81)), some ((2, a6))]) rfl rfl rfl rfl ?_
      refine r_const (i := 13) (u := 1) (z := 1) rfl rfl ?_
      exact r_retI (i := 14) rfl ⟨1, rfl, by omega, by omega, (by exact wRM_le rm26 (by omega)), e27, e28, hI25, hF29⟩
set_option maxHeartbeats 4000000 in
theorem lp281_13 {G : xk} {d : Nat} {S0 : yS} {nS : Nat} {sc : Nat → Int} (hG : ySc G nS sc) (hn5 : nS ≤ 5120) (hd : 27 ≤ d + 1) : ∀ (n : Nat), ∀ (S : yS) (hI : yI S) (e_N23 : N23 S) (e_CR : CR S) (e_RT : RT S) (i : Int) (h_i : 0 ≤ i ∧ i ≤ 5120) (q_0 : wRM (5200 - i) S) (hn : 5120 - i < (n : Nat)), yT xPr G LY xC281 13 [some ((6, 0)), some ((2, 0)), some ((2, 43)), some ((2, 81)), some (vi i), none, none] [] S (d + 1) (fun r S' => ∃ z : Int, r = (1, vi z) ∧ 1 ≤ z ∧ z ≤ 1) := by
  intro n
  induction n with
  | zero => intro S hI e_N23 e_CR e_RT i h_i q_0 hn; exact absurd hn (by omega)
  | succ n ih =>
    intro S hI e_N23 e_CR e_RT i h_i q_0 hn
    refine r_load (i := 13) (u := 4) (w := 0) rfl rfl rfl ?_
    refine r_load (i := 14) (u := 0) (w := 2) rfl rfl rfl ?_
    refine r_scN (i := 15) hG rfl ?_
    refine r_const (i := 16) (u := 10) (z := 10) rfl rfl ?_
    refine r_isub (i := 17) rfl ?_
    refine c_gt (i := 18) (v := 656) rfl ⟨by omega, by omega⟩ ⟨by omega, by omega⟩ (fun h1 => ?_) (fun h2 => ?_)
    · refine r_const (i := 656) (u := 1) (z := 1) rfl rfl ?_
      exact r_retZ (i := 657) rfl (by omega) (by omega) ⟨1, rfl, by omega, by omega⟩
    · refine r_load (i := 19) (u := 0) (w := 2) rfl rfl rfl ?_
      refine r_load (i := 20) (u := 4) (w := 0) rfl rfl rfl ?_
      refine r_scA (i := 21) hG rfl (by omega) (by omega) fun h3 => ?_
      have h3 : Rg (sc i.toNat) := h3
      refine r_const (i := 22) (u := 31) (z := 31) rfl rfl ?_
      refine r_iand (i := 23) rfl ?_
      have h4 := @yand_c (sc i.toNat) 31 (by decide) (by decide)
      rcases (show (yand (sc i.toNat) 31) = 0 ∨ (yand (sc i.toNat) 31) = 1 ∨ (yand (sc i.toNat) 31) = 2 ∨ (yand (sc i.toNat) 31) = 3 ∨ (yand (sc i.toNat) 31) = 4 ∨ (yand (sc i.toNat) 31) = 5 ∨ (yand (sc i.toNat) 31) = 6 ∨ (yand (sc i.toNat) 31) = 7 ∨ (yand (sc i.toNat) 31) = 8 ∨ (yand (sc i.toNat) 31) = 9 ∨ (yand (sc i.toNat) 31) = 10 ∨ (yand (sc i.toNat) 31) = 11 ∨ (yand (sc i.toNat) 31) = 12 ∨ (yand (sc i.toNat) 31) = 13 ∨ (yand (sc i.toNat) 31) = 14 ∨ (yand (sc i.toNat) 31) = 15 ∨ (yand (sc i.toNat) 31) = 16 ∨ (yand (sc i.toNat) 31) = 17 ∨ (yand (sc i.toNat) 31) = 18 ∨ (yand (sc i.toNat) 31) = 19 ∨ (yand (sc i.toNat) 31) = 20 ∨ (yand (sc i.toNat) 31) = 21 ∨ (yand (sc i.toNat) 31) = 22 ∨ (yand (sc i.toNat) 31) = 23 ∨ (yand (sc i.toNat) 31) = 24 ∨ (yand (sc i.toNat) 31) = 25 ∨ (yand (sc i.toNat) 31) = 26 ∨ (yand (sc i.toNat) 31) = 27 ∨ (yand (sc i.toNat) 31) = 28 ∨ (yand (sc i.toNat) 31) = 29 ∨ (yand (sc i.toNat) 31) = 30 ∨ (yand (sc i.toNat) 31) = 31 by omega) with h5 | h6 | h7 | h8 | h9 | h10 | h11 | h12 | h13 | h14 | h15 | h16 | h17 | h18 | h19 | h20 | h21 | h22 | h23 | h24 | h25 | h26 | h27 | h28 | h29 | h30 | h31 | h32 | h33 | h34 | h35 | h36
      · refine r_swK (i := 24) (u := 1) (v := 654) (k := 0) (t := 25) rfl rfl h5 (by decide) (by decide) rfl ?_
        refine r_load (i := 25) (u := 1) (w := 2) rfl rfl rfl ?_
        refine r_load (i := 26) (u := 0) (w := 2) rfl rfl rfl ?_
        refine r_load (i := 27) (u := 4) (w := 0) rfl rfl rfl ?_
        refine r_const (i := 28) (u := 1) (z := 1) rfl rfl ?_
        refine r_iadd (i := 29) rfl ?_
        refine r_scA (i := 30) hG rfl (by omega) (by omega) fun h37 => ?_
        have h37 : Rg (sc (i + 1).toNat) := h37
        refine z_eq (i := 31) (v := 34) rfl ⟨by omega, by omega⟩ (fun h38 => ?_) (fun h39 => ?_)
        · refine r_const (i := 34) (u := 0) (z := 0) rfl rfl ?_
          refine r_load (i := 35) (u := 0) (w := 2) rfl rfl rfl ?_
          refine r_load (i := 36) (u := 4) (w := 0) rfl rfl rfl ?_
          refine r_const (i := 37) (u := 2) (z := 2) rfl rfl ?_
          refine r_iadd (i := 38) rfl ?_
          refine r_scA (i := 39) hG rfl (by omega) (by omega) fun h40 => ?_
          have h40 : Rg (sc (i + 2).toNat) := h40
          refine r_load (i := 40) (u := 0) (w := 2) rfl rfl rfl ?_
          refine r_load (i := 41) (u := 4) (w := 0) rfl rfl rfl ?_
          refine r_const (i := 42) (u := 3) (z := 3) rfl rfl ?_
          refine r_iadd (i := 43) rfl ?_
          refine r_scA (i := 44) hG rfl (by omega) (by omega) fun h41 => ?_
          have h41 : Rg (sc (i + 3).toNat) := h41
          refine r_load (i := 45) (u := 0) (w := 2) rfl rfl rfl ?_
          refine r_load (i := 46) (u := 4) (w := 0) rfl rfl rfl ?_
          refine r_const (i := 47) (u := 4) (z := 4) rfl rfl ?_
          refine r_iadd (i := 48) rfl ?_
          refine r_scA (i := 49) hG rfl (by omega) (by omega) fun h42 => ?_
          have h42 : Rg (sc (i + 4).toNat) := h42
          refine r_load (i := 50) (u := 3) (w := 2) rfl rfl rfl ?_
          refine r_call (i := 51) (u := 65535) (v := 179) (w := 0) (b := 2) (na := 1798) (C2 := xC179) (as := [(2, 0), vi 0, vi (sc (i + 2).toNat), vi (sc (i + 3).toNat), vi (sc (i + 4).toNat), (2, 81)]) (s := []) rfl rfl rfl rfl rfl rfl rfl (sp179 (p0 := 0) (p1 := sc (i + 2).toNat) (p2 := sc (i + 3).toNat) (p3 := sc (i + 4).toNat) (kR := 5199 - i) hI ⟨by omega, by omega⟩ ⟨by omega, by omega⟩ ⟨by omega, by omega⟩ ⟨by omega, by omega⟩ (by exact wRM_le q_0 (by omega)) (by omega) e_N23 e_CR (by omega)) (fun r43 S44 hq45 => ?_)
          obtain ⟨z46, rfl, h47, h48, rm49, ht50, e51, e52, hI53, hF54⟩ := hq45
          refine Or.inr (Or.inl ⟨rfl, ?_⟩)
          refine r_store (i := 52) (u := 5) (w := 0) (L1 := [some ((6, 0)), some ((2, 0)), some ((2, 43)), some ((2, 81)), some (vi i), some (vi z46), none]) rfl rfl rfl rfl ?_
          refine r_load (i := 53) (u := 2) (w := 2) rfl rfl rfl ?_
          refine r_load (i := 54) (u := 0) (w := 2) rfl rfl rfl ?_
          refine r_load (i := 55) (u := 4) (w := 0) rfl rfl rfl ?_
          refine r_const (i := 56) (u := 1) (z := 1) rfl rfl ?_
          refine r_iadd (i := 57) rfl ?_
          refine r_scA (i := 58) hG rfl (by omega) (by omega) fun h55 => ?_
          have h55 : Rg (sc (i + 1).toNat) := h55
          refine z_eq (i := 59) (v := 62) rfl ⟨by omega, by omega⟩ (fun h56 => ?_) (fun h57 => absurd h57 (by omega))
          refine r_const (i := 62) (u := 0) (z := 0) rfl rfl ?_
          refine r_load (i := 63) (u := 0) (w := 2) rfl rfl rfl ?_
          refine r_load (i := 64) (u := 4) (w := 0) rfl rfl rfl ?_
          refine r_const (i := 65) (u := 2) (z := 2) rfl rfl ?_
          refine r_iadd (i := 66) rfl ?_
          refine r_scA (i := 67) hG rfl (by omega) (by omega) fun h58 => ?_
          have h58 : Rg (sc (i + 2).toNat) := h58
          refine r_load (i := 68) (u := 0) (w := 2) rfl rfl rfl ?_
          refine r_load (i := 69) (u := 4) (w := 0) rfl rfl rfl ?_
          refine r_const (i := 70) (u := 3) (z := 3) rfl rfl ?_
          refine r_iadd (i := 71) rfl ?_
          refine r_scA (i := 72) hG rfl (by omega) (by omega) fun h59 => ?_
          have h59 : Rg (sc (i + 3).toNat) := h59
          refine r_load (i := 73) (u := 0) (w := 2) rfl rfl rfl ?_
          refine r_load (i := 74) (u := 4) (w := 0) rfl rfl rfl ?_
          refine r_const (i := 75) (u := 4) (z := 4) rfl rfl ?_
          refine r_iadd (i := 76) rfl ?_
          refine r_scA (i := 77) hG rfl (by omega) (by omega) fun h60 => ?_
          have h60 : Rg (sc (i + 4).toNat) := h60
          refine r_call (i := 78) (u := 11) (v := 259) (w := 0) (b := 0) (na := 1541) (C2 := xC259) (as := [(2, 43), vi 0, vi (sc (i + 2).toNat), vi (sc (i + 3).toNat), vi (sc (i + 4).toNat)]) (s := []) rfl rfl rfl rfl rfl rfl rfl (sp259 (b := 0) (bits := sc (i + 2).toNat) (p := sc (i + 3).toNat) (up := sc (i + 4).toNat) hI53 ⟨by omega, by omega⟩ ⟨by omega, by omega⟩ ⟨by omega, by omega⟩ ⟨by omega, by omega⟩   (by omega)) (fun r61 S62 hq63 => ?_)
          obtain ⟨z64, rfl, h65, h66, mq67, hI68, hF69, hR70⟩ := hq63
          have e71 := N23x.fr e51 hF69 hR70 rfl rfl rfl
          have e72 := CRx.fr e52 hF69 rfl rfl
          have e73 := wRM_rm rm49 hR70
          refine Or.inr (Or.inl ⟨rfl, ?_⟩)
          have rt9 := (RT_type e_RT (by omega) (Int.le_trans (by decide) (hI.f tf1_7).1) ht50 hF54 rfl rfl mq67 hF69 rfl rfl).1
          have rk9 := (RT_type e_RT (by omega) (Int.le_trans (by decide) (hI.f tf1_7).1) ht50 hF54 rfl rfl mq67 hF69 rfl rfl).2.1
          have ro9 := (RT_type e_RT (by omega) (Int.le_trans (by decide) (hI.f tf1_7).1) ht50 hF54 rfl rfl mq67 hF69 rfl rfl).2.2
          refine r_store (i := 79) (u := 6) (w := 0) (L1 := [some ((6, 0)), some ((2, 0)), some ((2, 43)), some ((2, 81)), some (vi i), some (vi z46), some (vi z64)]) rfl rfl rfl rfl ?_
          refine r_load (i := 80) (u := 2) (w := 2) rfl rfl rfl ?_
          have h74 := hI68.f tf43_0
          refine r_call (i := 81) (u := 11) (v := 256) (w := 0) (b := 0) (na := 257) (C2 := xC256) (as := [(2, 43)]) (s := []) rfl rfl rfl rfl rfl rfl rfl (sp256  hI68    (by omega)) (fun r75 S76 hq77 => ?_)
          obtain ⟨z78, rfl, h79, h80, h81, rfl⟩ := hq77
          refine Or.inr (Or.inl ⟨rfl, ?_⟩)
          refine r_load (i := 82) (u := 5) (w := 0) rfl rfl rfl ?_
          refine c_eq (i := 83) (v := 86) rfl ⟨by omega, by omega⟩ ⟨by omega, by omega⟩ (fun h82 => ?_) (fun h83 => ?_)
          · refine r_load (i := 86) (u := 5) (w := 0) rfl rfl rfl ?_
            refine z_ne (i := 87) (v := 97) rfl ⟨by omega, by omega⟩ (fun h84 => ?_) (fun h85 => ?_)
            · refine r_goto (i := 97) (v := 654) rfl ?_
              refine r_iinc (i := 654) (u := 10) (v := 4) (s := 10) (L1 := [some ((6, 0)), some ((2, 0)), some ((2, 43)), some ((2, 81)), some (vi (i + 10)), some (vi z46), some (vi z64)]) rfl rfl rfl rfl rfl ?_
              refine r_goto (i := 655) (v := 13) rfl ?_
              refine yT_drop (L1 := [some ((6, 0)), some ((2, 0)), some ((2, 43)), some ((2, 81)), some (vi (i + 10)), none, none]) rfl ?_
              exact ih S62 hI68 e71 e72 rt9 (i + 10) ⟨by omega, by omega⟩ (by exact wRM_le e73 (by omega)) (by omega)
            · refine r_load (i := 88) (u := 3) (w := 2) rfl rfl rfl ?_
              refine r_const (i := 89) (u := 0) (z := 0) rfl rfl ?_
              refine r_laload (i := 90) rfl ly81 (by decide) (by omega) (by omega) fun h86 => ?_
              have h87 : S62.a 81 (0 : Int).toNat = S44.a 81 (0 : Int).toNat := hF69.a rfl _
              refine r_load (i := 91) (u := 6) (w := 0) rfl rfl rfl ?_
              refine r_i2l (i := 92) rfl ⟨by omega, by omega⟩ ?_
              refine r_lcmp (i := 93) rfl ⟨by omega, by omega⟩ ⟨by omega, by omega⟩ (fun h88 => ?_) (fun h89 => ?_) (fun h90 => ?_)
              · refine z_eq (i := 94) (v := 97) rfl ⟨by omega, by omega⟩ (fun h91 => absurd h91 (by omega)) (fun h92 => ?_)
                refine r_const (i := 95) (u := 0) (z := 0) rfl rfl ?_
                exact r_retZ (i := 96) rfl (by omega) (by omega) ⟨0, rfl, by omega, by omega⟩
              · refine z_eq (i := 94) (v := 97) rfl ⟨by omega, by omega⟩ (fun h93 => ?_) (fun h94 => absurd h94 (by omega))
                refine r_goto (i := 97) (v := 654) rfl ?_
                refine r_iinc (i := 654) (u := 10) (v := 4) (s := 10) (L1 := [some ((6, 0)), some ((2, 0)), some ((2, 43)), some ((2, 81)), some (vi (i + 10)), some (vi z46), some (vi z64)]) rfl rfl rfl rfl rfl ?_
                refine r_goto (i := 655) (v := 13) rfl ?_
                refine yT_drop (L1 := [some ((6, 0)), some ((2, 0)), some ((2, 43)), some ((2, 81)), some (vi (i + 10)), none, none]) rfl ?_
                exact ih S62 hI68 e71 e72 rt9 (i + 10) ⟨by omega, by omega⟩ (by exact wRM_le e73 (by omega)) (by omega)
              · refine z_eq (i := 94) (v := 97) rfl ⟨by omega, by omega⟩ (fun h95 => absurd h95 (by omega)) (fun h96 => ?_)
                refine r_const (i := 95) (u := 0) (z := 0) rfl rfl ?_
                exact r_retZ (i := 96) rfl (by omega) (by omega) ⟨0, rfl, by omega, by omega⟩
          · refine r_const (i := 84) (u := 0) (z := 0) rfl rfl ?_
            exact r_retZ (i := 85) rfl (by omega) (by omega) ⟨0, rfl, by omega, by omega⟩
        · refine r_const (i := 32) (u := 1) (z := 1) rfl rfl ?_
          refine r_goto (i := 33) (v := 35) rfl ?_
          refine r_load (i := 35) (u := 0) (w := 2) rfl rfl rfl ?_
          refine r_load (i := 36) (u := 4) (w := 0) rfl rfl rfl ?_
          refine r_const (i := 37) (u := 2) (z := 2) rfl rfl ?_
          refine r_iadd (i := 38) rfl ?_
          refine r_scA (i := 39) hG rfl (by omega) (by omega) fun h97 => ?_
          have h97 : Rg (sc (i + 2).toNat) := h97
          refine r_load (i := 40) (u := 0) (w := 2) rfl rfl rfl ?_
          refine r_load (i := 41) (u := 4) (w := 0) rfl rfl rfl ?_
          refine r_const (i := 42) (u := 3) (z := 3) rfl rfl ?_
          refine r_iadd (i := 43) rfl ?_
          refine r_scA (i := 44) hG rfl (by omega) (by omega) fun h98 => ?_
          have h98 : Rg (sc (i + 3).toNat) := h98
          refine r_load (i := 45) (u := 0) (w := 2) rfl rfl rfl ?_
          refine r_load (i := 46) (u := 4) (w := 0) rfl rfl rfl ?_
          refine r_const (i := 47) (u := 4) (z := 4) rfl rfl ?_
          refine r_iadd (i := 48) rfl ?_
          refine r_scA (i := 49) hG rfl (by omega) (by omega) fun h99 => ?_
          have h99 : Rg (sc (i + 4).toNat) := h99
          refine r_load (i := 50) (u := 3) (w := 2) rfl rfl rfl ?_
          refine r_call (i := 51) (u := 65535) (v := 179) (w := 0) (b := 2) (na := 1798) (C2 := xC179) (as := [(2, 0), vi 1, vi (sc (i + 2).toNat), vi (sc (i + 3).toNat), vi (sc (i + 4).toNat), (2, 81)]) (s := []) rfl rfl rfl rfl rfl rfl rfl (sp179 (p0 := 1) (p1 := sc (i + 2).toNat) (p2 := sc (i + 3).toNat) (p3 := sc (i + 4).toNat) (kR := 5199 - i) hI ⟨by omega, by omega⟩ ⟨by omega, by omega⟩ ⟨by omega, by omega⟩ ⟨by omega, by omega⟩ (by exact wRM_le q_0 (by omega)) (by omega) e_N23 e_CR (by omega)) (fun r100 S101 hq102 => ?_)
          obtain ⟨z103, rfl, h104, h105, rm106, ht107, e108, e109, hI110, hF111⟩ := hq102
          refine Or.inr (Or.inl ⟨rfl, ?_⟩)
          refine r_store (i := 52) (u := 5) (w := 0) (L1 := [some ((6, 0)), some ((2, 0)), some ((2, 43)), some ((2, 81)), some (vi i), some (vi z103), none]) rfl rfl rfl rfl ?_
          refine r_load (i := 53) (u := 2) (w := 2) rfl rfl rfl ?_
          refine r_load (i := 54) (u := 0) (w := 2) rfl rfl rfl ?_
          refine r_load (i := 55) (u := 4) (w := 0) rfl rfl rfl ?_
          refine r_const (i := 56) (u := 1) (z := 1) rfl rfl ?_
          refine r_iadd (i := 57) rfl ?_
          refine r_scA (i := 58) hG rfl (by omega) (by omega) fun h112 => ?_
          have h112 : Rg (sc (i + 1).toNat) := h112
          refine z_eq (i := 59) (v := 62) rfl ⟨by omega, by omega⟩ (fun h113 => absurd h113 (by omega)) (fun h114 => ?_)
          refine r_const (i := 60) (u := 1) (z := 1) rfl rfl ?_
          refine r_goto (i := 61) (v := 63) rfl ?_
          refine r_load (i := 63) (u := 0) (w := 2) rfl rfl rfl ?_
          refine r_load (i := 64) (u := 4) (w := 0) rfl rfl rfl ?_
          refine r_const (i := 65) (u := 2) (z := 2) rfl rfl ?_
          refine r_iadd (i := 66) rfl ?_
          refine r_scA (i := 67) hG rfl (by omega) (by omega) fun h115 => ?_
          have h115 : Rg (sc (i + 2).toNat) := h115
          refine r_load (i := 68) (u := 0) (w := 2) rfl rfl rfl ?_
          refine r_load (i := 69) (u := 4) (w := 0) rfl rfl rfl ?_
          refine r_const (i := 70) (u := 3) (z := 3) rfl rfl ?_
          refine r_iadd (i := 71) rfl ?_
          refine r_scA (i := 72) hG rfl (by omega) (by omega) fun h116 => ?_
          have h116 : Rg (sc (i + 3).toNat) := h116
          refine r_load (i := 73) (u := 0) (w := 2) rfl rfl rfl ?_
          refine r_load (i := 74) (u := 4) (w := 0) rfl rfl rfl ?_
          refine r_const (i := 75) (u := 4) (z := 4) rfl rfl ?_
          refine r_iadd (i := 76) rfl ?_
          refine r_scA (i := 77) hG rfl (by omega) (by omega) fun h117 => ?_
          have h117 : Rg (sc (i + 4).toNat) := h117
          refine r_call (i := 78) (u := 11) (v := 259) (w := 0) (b := 0) (na := 1541) (C2 := xC259) (as := [(2, 43), vi 1, vi (sc (i + 2).toNat), vi (sc (i + 3).toNat), vi (sc (i + 4).toNat)]) (s := []) rfl rfl rfl rfl rfl rfl rfl (sp259 (b := 1) (bits := sc (i + 2).toNat) (p := sc (i + 3).toNat) (up := sc (i + 4).toNat) hI110 ⟨by omega, by omega⟩ ⟨by omega, by omega⟩ ⟨by omega, by omega⟩ ⟨by omega, by omega⟩   (by omega)) (fun r118 S119 hq120 => ?_)
          obtain ⟨z121, rfl, h122, h123, mq124, hI125, hF126, hR127⟩ := hq120
          have e128 := N23x.fr e108 hF126 hR127 rfl rfl rfl
          have e129 := CRx.fr e109 hF126 rfl rfl
          have e130 := wRM_rm rm106 hR127
          refine Or.inr (Or.inl ⟨rfl, ?_⟩)
          have rt9 := (RT_type e_RT (by omega) (Int.le_trans (by decide) (hI.f tf1_7).1) ht107 hF111 rfl rfl mq124 hF126 rfl rfl).1
          have rk9 := (RT_type e_RT (by omega) (Int.le_trans (by decide) (hI.f tf1_7).1) ht107 hF111 rfl rfl mq124 hF126 rfl rfl).2.1
          have ro9 := (RT_type e_RT (by omega) (Int.le_trans (by decide) (hI.f tf1_7).1) ht107 hF111 rfl rfl mq124 hF126 rfl rfl).2.2
          refine r_store (i := 79) (u := 6) (w := 0) (L1 := [some ((6, 0)), some ((2, 0)), some ((2, 43)), some ((2, 81)), some (vi i), some (vi z103), some (vi z121)]) rfl rfl rfl rfl ?_
          refine r_load (i := 80) (u := 2) (w := 2) rfl rfl rfl ?_
          have h131 := hI125.f tf43_0
          refine r_call (i := 81) (u := 11) (v := 256) (w := 0) (b := 0) (na := 257) (C2 := xC256) (as := [(2, 43)]) (s := []) rfl rfl rfl rfl rfl rfl rfl (sp256  hI125    (by omega)) (fun r132 S133 hq134 => ?_)
          obtain ⟨z135, rfl, h136, h137, h138, rfl⟩ := hq134
          refine Or.inr (Or.inl ⟨rfl, ?_⟩)
          refine r_load (i := 82) (u := 5) (w := 0) rfl rfl rfl ?_
          refine c_eq (i := 83) (v := 86) rfl ⟨by omega, by omega⟩ ⟨by omega, by omega⟩ (fun h139 => ?_) (fun h140 => ?_)
          · refine r_load (i := 86) (u := 5) (w := 0) rfl rfl rfl ?_
            refine z_ne (i := 87) (v := 97) rfl ⟨by omega, by omega⟩ (fun h141 => ?_) (fun h142 => ?_)
            · refine r_goto (i := 97) (v := 654) rfl ?_
              refine r_iinc (i := 654) (u := 10) (v := 4) (s := 10) (L1 := [some ((6, 0)), some ((2, 0)), some ((2, 43)), some ((2, 81)), some (vi (i + 10)), some (vi z103), some (vi z121)]) rfl rfl rfl rfl rfl ?_
              refine r_goto (i := 655) (v := 13) rfl ?_
              refine yT_drop (L1 := [some ((6, 0)), some ((2, 0)), some ((2, 43)), some ((2, 81)), some (vi (i + 10)), none, none]) rfl ?_
              exact ih S119 hI125 e128 e129 rt9 (i + 10) ⟨by omega, by omega⟩ (by exact wRM_le e130 (by omega)) (by omega)
            · refine r_load (i := 88) (u := 3) (w := 2) rfl rfl rfl ?_
              refine r_const (i := 89) (u := 0) (z := 0) rfl rfl ?_
              refine r_laload (i := 90) rfl ly81 (by decide) (by omega) (by omega) fun h143 => ?_
              have h144 : S119.a 81 (0 : Int).toNat = S101.a 81 (0 : Int).toNat := hF126.a rfl _
              refine r_load (i := 91) (u := 6) (w := 0) rfl rfl rfl ?_
              refine r_i2l (i := 92) rfl ⟨by omega, by omega⟩ ?_
              refine r_lcmp (i := 93) rfl ⟨by omega, by omega⟩ ⟨by omega, by omega⟩ (fun h145 => ?_) (fun h146 => ?_) (fun h147 => ?_)
              · refine z_eq (i := 94) (v := 97) rfl ⟨by omega, by omega⟩ (fun h148 => absurd h148 (by omega)) (fun h149 => ?_)
                refine r_const (i := 95) (u := 0) (z := 0) rfl rfl ?_
                exact r_retZ (i := 96) rfl (by omega) (by omega) ⟨0, rfl, by omega, by omega⟩
              · refine z_eq (i := 94) (v := 97) rfl ⟨by omega, by omega⟩ (fun h150 => ?_) (fun h151 => absurd h151 (by omega))
                refine r_goto (i := 97) (v := 654) rfl ?_
                refine r_iinc (i := 654) (u := 10) (v := 4) (s := 10) (L1 := [some ((6, 0)), some ((2, 0)), some ((2, 43)), some ((2, 81)), some (vi (i + 10)), some (vi z103), some (vi z121)]) rfl rfl rfl rfl rfl ?_
                refine r_goto (i := 655) (v := 13) rfl ?_
                refine yT_drop (L1 := [some ((6, 0)), some ((2, 0)), some ((2, 43)), some ((2, 81)), some (vi (i + 10)), none, none]) rfl ?_
                exact ih S119 hI125 e128 e129 rt9 (i + 10) ⟨by omega, by omega⟩ (by exact wRM_le e130 (by omega)) (by omega)
              · refine z_eq (i := 94) (v := 97) rfl ⟨by omega, by omega⟩ (fun h152 => absurd h152 (by omega)) (fun h153 => ?_)
                refine r_const (i := 95) (u := 0) (z := 0) rfl rfl ?_
                exact r_retZ (i := 96) rfl (by omega) (by omega) ⟨0, rfl, by omega, by omega⟩
          · refine r_const (i := 84) (u := 0) (z := 0) rfl rfl ?_
            exact r_retZ (i := 85) rfl (by omega) (by omega) ⟨0, rfl, by omega, by omega⟩
      · refine r_swK (i := 24) (u := 1) (v := 654) (k := 1) (t := 98) rfl rfl h6 (by decide) (by decide) rfl ?_
        refine r_load (i := 98) (u := 1) (w := 2) rfl rfl rfl ?_
        refine r_load (i := 99) (u := 0) (w := 2) rfl rfl rfl ?_
        refine r_load (i := 100) (u := 4) (w := 0) rfl rfl rfl ?_
        refine r_const (i := 101) (u := 1) (z := 1) rfl rfl ?_
        refine r_iadd (i := 102) rfl ?_
        refine r_scA (i := 103) hG rfl (by omega) (by omega) fun h154 => ?_
        have h154 : Rg (sc (i + 1).toNat) := h154
        refine r_load (i := 104) (u := 0) (w := 2) rfl rfl rfl ?_
        refine r_load (i := 105) (u := 4) (w := 0) rfl rfl rfl ?_
        refine r_const (i := 106) (u := 2) (z := 2) rfl rfl ?_
        refine r_iadd (i := 107) rfl ?_
        refine r_scA (i := 108) hG rfl (by omega) (by omega) fun h155 => ?_
        have h155 : Rg (sc (i + 2).toNat) := h155
        refine r_call (i := 109) (u := 65535) (v := 176) (w := 0) (b := 2) (na := 1027) (C2 := xC176) (as := [(2, 0), vi (sc (i + 1).toNat), vi (sc (i + 2).toNat)]) (s := []) rfl rfl rfl rfl rfl rfl rfl (sp176 (p0 := sc (i + 1).toNat) (p1 := sc (i + 2).toNat) (kR := 5199 - i) hI ⟨by omega, by omega⟩ ⟨by omega, by omega⟩ (by exact wRM_le q_0 (by omega)) (by omega) e_N23 e_CR (by omega)) (fun r156 S157 hq158 => ?_)
        obtain ⟨z159, rfl, h160, h161, rm162, e163, e164, hI165, hF166⟩ := hq158
        have e167 := RTx.fr e_RT hF166 rfl rfl
        refine Or.inr (Or.inl ⟨rfl, ?_⟩)
        refine r_store (i := 110) (u := 5) (w := 0) (L1 := [some ((6, 0)), some ((2, 0)), some ((2, 43)), some ((2, 81)), some (vi i), some (vi z159), none]) rfl rfl rfl rfl ?_
        refine r_load (i := 111) (u := 2) (w := 2) rfl rfl rfl ?_
        refine r_load (i := 112) (u := 0) (w := 2) rfl rfl rfl ?_
        refine r_load (i := 113) (u := 4) (w := 0) rfl rfl rfl ?_
        refine r_const (i := 114) (u := 1) (z := 1) rfl rfl ?_
        refine r_iadd (i := 115) rfl ?_
        refine r_scA (i := 116) hG rfl (by omega) (by omega) fun h168 => ?_
        have h168 : Rg (sc (i + 1).toNat) := h168
        refine r_load (i := 117) (u := 0) (w := 2) rfl rfl rfl ?_
        refine r_load (i := 118) (u := 4) (w := 0) rfl rfl rfl ?_
        refine r_const (i := 119) (u := 2) (z := 2) rfl rfl ?_
        refine r_iadd (i := 120) rfl ?_
        refine r_scA (i := 121) hG rfl (by omega) (by omega) fun h169 => ?_
        have h169 : Rg (sc (i + 2).toNat) := h169
        refine r_call (i := 122) (u := 11) (v := 206) (w := 0) (b := 0) (na := 1283) (C2 := xC206) (as := [(2, 43), vi (sc (i + 1).toNat), vi (sc (i + 2).toNat)]) (s := []) rfl rfl rfl rfl rfl rfl rfl (sp206 (t := sc (i + 1).toNat) (f := sc (i + 2).toNat) hI165 ⟨by omega, by omega⟩ ⟨by omega, by omega⟩   (by omega)) (fun r170 S171 hq172 => ?_)
        obtain ⟨rfl, hI173, hF174, hR175⟩ := hq172
        have e176 := RTx.fr e167 hF174 rfl rfl
        have e177 := N23x.fr e163 hF174 hR175 rfl rfl rfl
        have e178 := CRx.fr e164 hF174 rfl rfl
        have e179 := wRM_rm rm162 hR175
        refine Or.inl ⟨rfl, ?_⟩
        refine r_goto (i := 123) (v := 654) rfl ?_
        refine r_iinc (i := 654) (u := 10) (v := 4) (s := 10) (L1 := [some ((6, 0)), some ((2, 0)), some ((2, 43)), some ((2, 81)), some (vi (i + 10)), some (vi z159), none]) rfl rfl rfl rfl rfl ?_
        refine r_goto (i := 655) (v := 13) rfl ?_
        refine yT_drop (L1 := [some ((6, 0)), some ((2, 0)), some ((2, 43)), some ((2, 81)), some (vi (i + 10)), none, none]) rfl ?_
        exact ih S171 hI173 e177 e178 e176 (i + 10) ⟨by omega, by omega⟩ (by exact wRM_le e179 (by omega)) (by omega)
      · refine r_swK (i := 24) (u := 1) (v := 654) (k := 2) (t := 124) rfl rfl h7 (by decide) (by decide) rfl ?_
        refine r_load (i := 124) (u := 1) (w := 2) rfl rfl rfl ?_
        refine r_load (i := 125) (u := 0) (w := 2) rfl rfl rfl ?_
        refine r_load (i := 126) (u := 4) (w := 0) rfl rfl rfl ?_
        refine r_const (i := 127) (u := 1) (z := 1) rfl rfl ?_
        refine r_iadd (i := 128) rfl ?_
        refine r_scA (i := 129) hG rfl (by omega) (by omega) fun h180 => ?_
        have h180 : Rg (sc (i + 1).toNat) := h180
        refine r_load (i := 130) (u := 0) (w := 2) rfl rfl rfl ?_
        refine r_load (i := 131) (u := 4) (w := 0) rfl rfl rfl ?_
        refine r_const (i := 132) (u := 2) (z := 2) rfl rfl ?_
        refine r_iadd (i := 133) rfl ?_
        refine r_scA (i := 134) hG rfl (by omega) (by omega) fun h181 => ?_
        have h181 : Rg (sc (i + 2).toNat) := h181
        refine r_load (i := 135) (u := 0) (w := 2) rfl rfl rfl ?_
        refine r_load (i := 136) (u := 4) (w := 0) rfl rfl rfl ?_
        refine r_const (i := 137) (u := 3) (z := 3) rfl rfl ?_
        refine r_iadd (i := 138) rfl ?_
        refine r_scA (i := 139) hG rfl (by omega) (by omega) fun h182 => ?_
        have h182 : Rg (sc (i + 3).toNat) := h182
        refine r_load (i := 140) (u := 0) (w := 2) rfl rfl rfl ?_
        refine r_load (i := 141) (u := 4) (w := 0) rfl rfl rfl ?_
        refine r_const (i := 142) (u := 4) (z := 4) rfl rfl ?_
        refine r_iadd (i := 143) rfl ?_
        refine r_scA (i := 144) hG rfl (by omega) (by omega) fun h183 => ?_
        have h183 : Rg (sc (i + 4).toNat) := h183
        refine r_load (i := 145) (u := 0) (w := 2) rfl rfl rfl ?_
        refine r_load (i := 146) (u := 4) (w := 0) rfl rfl rfl ?_
        refine r_const (i := 147) (u := 5) (z := 5) rfl rfl ?_
        refine r_iadd (i := 148) rfl ?_
        refine r_scA (i := 149) hG rfl (by omega) (by omega) fun h184 => ?_
        have h184 : Rg (sc (i + 5).toNat) := h184
        refine r_load (i := 150) (u := 3) (w := 2) rfl rfl rfl ?_
        refine r_call (i := 151) (u := 65535) (v := 177) (w := 0) (b := 2) (na := 2055) (C2 := xC177) (as := [(2, 0), vi (sc (i + 1).toNat), vi (sc (i + 2).toNat), vi (sc (i + 3).toNat), vi (sc (i + 4).toNat), vi (sc (i + 5).toNat), (2, 81)]) (s := []) rfl rfl rfl rfl rfl rfl rfl (sp177 (p0 := sc (i + 1).toNat) (p1 := sc (i + 2).toNat) (p2 := sc (i + 3).toNat) (p3 := sc (i + 4).toNat) (p4 := sc (i + 5).toNat) (kR := 5199 - i) hI ⟨by omega, by omega⟩ ⟨by omega, by omega⟩ ⟨by omega, by omega⟩ ⟨by omega, by omega⟩ ⟨by omega, by omega⟩ (by exact wRM_le q_0 (by omega)) (by omega) e_N23 e_CR (by omega)) (fun r185 S186 hq187 => ?_)
        obtain ⟨z188, rfl, h189, h190, rm191, e192, e193, hI194, hF195⟩ := hq187
        have e196 := RTx.fr e_RT hF195 rfl rfl
        refine Or.inr (Or.inl ⟨rfl, ?_⟩)
        refine r_store (i := 152) (u := 5) (w := 0) (L1 := [some ((6, 0)), some ((2, 0)), some ((2, 43)), some ((2, 81)), some (vi i), some (vi z188), none]) rfl rfl rfl rfl ?_
        refine r_load (i := 153) (u := 2) (w := 2) rfl rfl rfl ?_
        refine r_load (i := 154) (u := 0) (w := 2) rfl rfl rfl ?_
        refine r_load (i := 155) (u := 4) (w := 0) rfl rfl rfl ?_
        refine r_const (i := 156) (u := 1) (z := 1) rfl rfl ?_
        refine r_iadd (i := 157) rfl ?_
        refine r_scA (i := 158) hG rfl (by omega) (by omega) fun h197 => ?_
        have h197 : Rg (sc (i + 1).toNat) := h197
        refine r_load (i := 159) (u := 0) (w := 2) rfl rfl rfl ?_
        refine r_load (i := 160) (u := 4) (w := 0) rfl rfl rfl ?_
        refine r_const (i := 161) (u := 2) (z := 2) rfl rfl ?_
        refine r_iadd (i := 162) rfl ?_
        refine r_scA (i := 163) hG rfl (by omega) (by omega) fun h198 => ?_
        have h198 : Rg (sc (i + 2).toNat) := h198
        refine r_load (i := 164) (u := 0) (w := 2) rfl rfl rfl ?_
        refine r_load (i := 165) (u := 4) (w := 0) rfl rfl rfl ?_
        refine r_const (i := 166) (u := 3) (z := 3) rfl rfl ?_
        refine r_iadd (i := 167) rfl ?_
        refine r_scA (i := 168) hG rfl (by omega) (by omega) fun h199 => ?_
        have h199 : Rg (sc (i + 3).toNat) := h199
        refine r_load (i := 169) (u := 0) (w := 2) rfl rfl rfl ?_
        refine r_load (i := 170) (u := 4) (w := 0) rfl rfl rfl ?_
        refine r_const (i := 171) (u := 4) (z := 4) rfl rfl ?_
        refine r_iadd (i := 172) rfl ?_
        refine r_scA (i := 173) hG rfl (by omega) (by omega) fun h200 => ?_
        have h200 : Rg (sc (i + 4).toNat) := h200
        refine r_load (i := 174) (u := 0) (w := 2) rfl rfl rfl ?_
        refine r_load (i := 175) (u := 4) (w := 0) rfl rfl rfl ?_
        refine r_const (i := 176) (u := 5) (z := 5) rfl rfl ?_
        refine r_iadd (i := 177) rfl ?_
        refine r_scA (i := 178) hG rfl (by omega) (by omega) fun h201 => ?_
        have h201 : Rg (sc (i + 5).toNat) := h201
        refine r_call (i := 179) (u := 11) (v := 220) (w := 0) (b := 0) (na := 1542) (C2 := xC220) (as := [(2, 43), vi (sc (i + 1).toNat), vi (sc (i + 2).toNat), vi (sc (i + 3).toNat), vi (sc (i + 4).toNat), vi (sc (i + 5).toNat)]) (s := []) rfl rfl rfl rfl rfl rfl rfl (sp220 (t := sc (i + 1).toNat) (w0 := sc (i + 2).toNat) (bits := sc (i + 3).toNat) (al := sc (i + 4).toNat) (back := sc (i + 5).toNat) hI194 ⟨by omega, by omega⟩ ⟨by omega, by omega⟩ ⟨by omega, by omega⟩ ⟨by omega, by omega⟩ ⟨by omega, by omega⟩  e193 (by omega)) (fun r202 S203 hq204 => ?_)
        obtain ⟨z205, rfl, h206, h207, e208, hI209, hF210, hR211⟩ := hq204
        have e212 := RTx.fr e196 hF210 rfl rfl
        have e213 := N23x.fr e192 hF210 hR211 rfl rfl rfl
        have e214 := wRM_rm rm191 hR211
        refine Or.inr (Or.inl ⟨rfl, ?_⟩)
        refine r_store (i := 180) (u := 6) (w := 0) (L1 := [some ((6, 0)), some ((2, 0)), some ((2, 43)), some ((2, 81)), some (vi i), some (vi z188), some (vi z205)]) rfl rfl rfl rfl ?_
        refine r_goto (i := 181) (v := 654) rfl ?_
        refine r_iinc (i := 654) (u := 10) (v := 4) (s := 10) (L1 := [some ((6, 0)), some ((2, 0)), some ((2, 43)), some ((2, 81)), some (vi (i + 10)), some (vi z188), some (vi z205)]) rfl rfl rfl rfl rfl ?_
        refine r_goto (i := 655) (v := 13) rfl ?_
        refine yT_drop (L1 := [some ((6, 0)), some ((2, 0)), some ((2, 43)), some ((2, 81)), some (vi (i + 10)), none, none]) rfl ?_
        exact ih S203 hI209 e213 e208 e212 (i + 10) ⟨by omega, by omega⟩ (by exact wRM_le e214 (by omega)) (by omega)
      · refine r_swK (i := 24) (u := 1) (v := 654) (k := 3) (t := 182) rfl rfl h8 (by decide) (by decide) rfl ?_
        refine r_load (i := 182) (u := 1) (w := 2) rfl rfl rfl ?_
        refine r_load (i := 183) (u := 0) (w := 2) rfl rfl rfl ?_
        refine r_load (i := 184) (u := 4) (w := 0) rfl rfl rfl ?_
        refine r_const (i := 185) (u := 1) (z := 1) rfl rfl ?_
        refine r_iadd (i := 186) rfl ?_
        refine r_scA (i := 187) hG rfl (by omega) (by omega) fun h215 => ?_
        have h215 : Rg (sc (i + 1).toNat) := h215
        refine r_load (i := 188) (u := 0) (w := 2) rfl rfl rfl ?_
        refine r_load (i := 189) (u := 4) (w := 0) rfl rfl rfl ?_
        refine r_const (i := 190) (u := 2) (z := 2) rfl rfl ?_
        refine r_iadd (i := 191) rfl ?_
        refine r_scA (i := 192) hG rfl (by omega) (by omega) fun h216 => ?_
        have h216 : Rg (sc (i + 2).toNat) := h216
        refine r_call (i := 193) (u := 65535) (v := 178) (w := 0) (b := 2) (na := 1027) (C2 := xC178) (as := [(2, 0), vi (sc (i + 1).toNat), vi (sc (i + 2).toNat)]) (s := []) rfl rfl rfl rfl rfl rfl rfl (sp178 (p0 := sc (i + 1).toNat) (p1 := sc (i + 2).toNat) (kR := 5199 - i) hI ⟨by omega, by omega⟩ ⟨by omega, by omega⟩ (by exact wRM_le q_0 (by omega)) (by omega) e_N23 e_CR (by omega)) (fun r217 S218 hq219 => ?_)
        obtain ⟨z220, rfl, h221, h222, rm223, e224, e225, hI226, hF227⟩ := hq219
        have e228 := RTx.fr e_RT hF227 rfl rfl
        refine Or.inr (Or.inl ⟨rfl, ?_⟩)
        refine r_store (i := 194) (u := 5) (w := 0) (L1 := [some ((6, 0)), some ((2, 0)), some ((2, 43)), some ((2, 81)), some (vi i), some (vi z220), none]) rfl rfl rfl rfl ?_
        refine r_load (i := 195) (u := 2) (w := 2) rfl rfl rfl ?_
        refine r_load (i := 196) (u := 0) (w := 2) rfl rfl rfl ?_
        refine r_load (i := 197) (u := 4) (w := 0) rfl rfl rfl ?_
        refine r_const (i := 198) (u := 1) (z := 1) rfl rfl ?_
        refine r_iadd (i := 199) rfl ?_
        refine r_scA (i := 200) hG rfl (by omega) (by omega) fun h229 => ?_
        have h229 : Rg (sc (i + 1).toNat) := h229
        refine r_load (i := 201) (u := 0) (w := 2) rfl rfl rfl ?_
        refine r_load (i := 202) (u := 4) (w := 0) rfl rfl rfl ?_
        refine r_const (i := 203) (u := 2) (z := 2) rfl rfl ?_
        refine r_iadd (i := 204) rfl ?_
        refine r_scA (i := 205) hG rfl (by omega) (by omega) fun h230 => ?_
        have h230 : Rg (sc (i + 2).toNat) := h230
        refine r_call (i := 206) (u := 11) (v := 255) (w := 0) (b := 0) (na := 1283) (C2 := xC255) (as := [(2, 43), vi (sc (i + 1).toNat), vi (sc (i + 2).toNat)]) (s := []) rfl rfl rfl rfl rfl rfl rfl (sp255 (m := sc (i + 1).toNat) (t := sc (i + 2).toNat) hI226 ⟨by omega, by omega⟩ ⟨by omega, by omega⟩   (by omega)) (fun r231 S232 hq233 => ?_)
        obtain ⟨rfl, hI234, hF235, hR236⟩ := hq233
        have e237 := RTx.fr e228 hF235 rfl rfl
        have e238 := N23x.fr e224 hF235 hR236 rfl rfl rfl
        have e239 := CRx.fr e225 hF235 rfl rfl
        have e240 := wRM_rm rm223 hR236
        refine Or.inl ⟨rfl, ?_⟩
        refine r_goto (i := 207) (v := 654) rfl ?_
        refine r_iinc (i := 654) (u := 10) (v := 4) (s := 10) (L1 := [some ((6, 0)), some ((2, 0)), some ((2, 43)), some ((2, 81)), some (vi (i + 10)), some (vi z220), none]) rfl rfl rfl rfl rfl ?_
        refine r_goto (i := 655) (v := 13) rfl ?_
        refine yT_drop (L1 := [some ((6, 0)), some ((2, 0)), some ((2, 43)), some ((2, 81)), some (vi (i + 10)), none, none]) rfl ?_
        exact ih S232 hI234 e238 e239 e237 (i + 10) ⟨by omega, by omega⟩ (by exact wRM_le e240 (by omega)) (by omega)
      · refine r_swK (i := 24) (u := 1) (v := 654) (k := 4) (t := 208) rfl rfl h9 (by decide) (by decide) rfl ?_
        refine r_load (i := 208) (u := 1) (w := 2) rfl rfl rfl ?_
        refine r_load (i := 209) (u := 0) (w := 2) rfl rfl rfl ?_
        refine r_load (i := 210) (u := 4) (w := 0) rfl rfl rfl ?_
        refine r_const (i := 211) (u := 1) (z := 1) rfl rfl ?_
        refine r_iadd (i := 212) rfl ?_
        refine r_scA (i := 213) hG rfl (by omega) (by omega) fun h241 => ?_
        have h241 : Rg (sc (i + 1).toNat) := h241
        refine r_load (i := 214) (u := 0) (w := 2) rfl rfl rfl ?_
        refine r_load (i := 215) (u := 4) (w := 0) rfl rfl rfl ?_
        refine r_const (i := 216) (u := 2) (z := 2) rfl rfl ?_
        refine r_iadd (i := 217) rfl ?_
        refine r_scA (i := 218) hG rfl (by omega) (by omega) fun h242 => ?_
        have h242 : Rg (sc (i + 2).toNat) := h242
        refine r_call (i := 219) (u := 0) (v := 12) (w := 0) (b := 0) (na := 771) (C2 := xC12) (as := [(2, 0), vi (sc (i + 1).toNat), vi (sc (i + 2).toNat)]) (s := []) rfl rfl rfl rfl rfl rfl rfl (sp12 (t := sc (i + 1).toNat) (o := sc (i + 2).toNat) hI ⟨by omega, by omega⟩ ⟨by omega, by omega⟩   (by omega)) (fun r243 S244 hq245 => ?_)
        obtain ⟨z246, rfl, h247, h248, rfl⟩ := hq245
        refine Or.inr (Or.inl ⟨rfl, ?_⟩)
        refine r_pop (i := 220) rfl rfl ?_
        refine r_load (i := 221) (u := 2) (w := 2) rfl rfl rfl ?_
        refine r_load (i := 222) (u := 0) (w := 2) rfl rfl rfl ?_
        refine r_load (i := 223) (u := 4) (w := 0) rfl rfl rfl ?_
        refine r_const (i := 224) (u := 1) (z := 1) rfl rfl ?_
        refine r_iadd (i := 225) rfl ?_
        refine r_scA (i := 226) hG rfl (by omega) (by omega) fun h249 => ?_
        have h249 : Rg (sc (i + 1).toNat) := h249
        refine r_load (i := 227) (u := 0) (w := 2) rfl rfl rfl ?_
        refine r_load (i := 228) (u := 4) (w := 0) rfl rfl rfl ?_
        refine r_const (i := 229) (u := 2) (z := 2) rfl rfl ?_
        refine r_iadd (i := 230) rfl ?_
        refine r_scA (i := 231) hG rfl (by omega) (by omega) fun h250 => ?_
        have h250 : Rg (sc (i + 2).toNat) := h250
        refine r_call (i := 232) (u := 11) (v := 211) (w := 0) (b := 0) (na := 771) (C2 := xC211) (as := [(2, 43), vi (sc (i + 1).toNat), vi (sc (i + 2).toNat)]) (s := []) rfl rfl rfl rfl rfl rfl rfl (sp211 (t := sc (i + 1).toNat) (o := sc (i + 2).toNat) hI ⟨by omega, by omega⟩ ⟨by omega, by omega⟩   (by omega)) (fun r251 S252 hq253 => ?_)
        obtain ⟨z254, rfl, h255, h256, hI257, hF258, hR259⟩ := hq253
        have e260 := N23x.fr e_N23 hF258 hR259 rfl rfl rfl
        have e261 := CRx.fr e_CR hF258 rfl rfl
        have e262 := RTx.fr e_RT hF258 rfl rfl
        have e263 := wRM_rm q_0 hR259
        refine Or.inr (Or.inl ⟨rfl, ?_⟩)
        refine r_pop (i := 233) rfl rfl ?_
        refine r_goto (i := 234) (v := 654) rfl ?_
        refine r_iinc (i := 654) (u := 10) (v := 4) (s := 10) (L1 := [some ((6, 0)), some ((2, 0)), some ((2, 43)), some ((2, 81)), some (vi (i + 10)), none, none]) rfl rfl rfl rfl rfl ?_
        refine r_goto (i := 655) (v := 13) rfl ?_
        exact ih S252 hI257 e260 e261 e262 (i + 10) ⟨by omega, by omega⟩ (by exact wRM_le e263 (by omega)) (by omega)
      · refine r_swK (i := 24) (u := 1) (v := 654) (k := 5) (t := 235) rfl rfl h10 (by decide) (by decide) rfl ?_
        refine r_load (i := 235) (u := 1) (w := 2) rfl rfl rfl ?_
        refine r_load (i := 236) (u := 0) (w := 2) rfl rfl rfl ?_
        refine r_load (i := 237) (u := 4) (w := 0) rfl rfl rfl ?_
        refine r_const (i := 238) (u := 1) (z := 1) rfl rfl ?_
        refine r_iadd (i := 239) rfl ?_
        refine r_scA (i := 240) hG rfl (by omega) (by omega) fun h264 => ?_
        have h264 : Rg (sc (i + 1).toNat) := h264
        refine r_load (i := 241) (u := 0) (w := 2) rfl rfl rfl ?_
        refine r_load (i := 242) (u := 4) (w := 0) rfl rfl rfl ?_
        refine r_const (i := 243) (u := 2) (z := 2) rfl rfl ?_
        refine r_iadd (i := 244) rfl ?_
        refine r_scA (i := 245) hG rfl (by omega) (by omega) fun h265 => ?_
        have h265 : Rg (sc (i + 2).toNat) := h265
        refine r_call (i := 246) (u := 0) (v := 14) (w := 0) (b := 0) (na := 771) (C2 := xC14) (as := [(2, 0), vi (sc (i + 1).toNat), vi (sc (i + 2).toNat)]) (s := []) rfl rfl rfl rfl rfl rfl rfl (sp14 (w0 := sc (i + 1).toNat) (k := sc (i + 2).toNat) hI ⟨by omega, by omega⟩ ⟨by omega, by omega⟩   (by omega)) (fun r266 S267 hq268 => ?_)
        obtain ⟨z269, rfl, h270, h271, h272, hI273, hF274, hR275⟩ := hq268
        have e276 := N23x.fr e_N23 hF274 hR275 rfl rfl rfl
        have e277 := CRx.fr e_CR hF274 rfl rfl
        have e278 := RTx.fr e_RT hF274 rfl rfl
        have e279 := wRM_rm q_0 hR275
        refine Or.inr (Or.inl ⟨rfl, ?_⟩)
        refine r_pop (i := 247) rfl rfl ?_
        refine r_load (i := 248) (u := 2) (w := 2) rfl rfl rfl ?_
        refine r_load (i := 249) (u := 0) (w := 2) rfl rfl rfl ?_
        refine r_load (i := 250) (u := 4) (w := 0) rfl rfl rfl ?_
        refine r_const (i := 251) (u := 1) (z := 1) rfl rfl ?_
        refine r_iadd (i := 252) rfl ?_
        refine r_scA (i := 253) hG rfl (by omega) (by omega) fun h280 => ?_
        have h280 : Rg (sc (i + 1).toNat) := h280
        refine r_load (i := 254) (u := 0) (w := 2) rfl rfl rfl ?_
        refine r_load (i := 255) (u := 4) (w := 0) rfl rfl rfl ?_
        refine r_const (i := 256) (u := 2) (z := 2) rfl rfl ?_
        refine r_iadd (i := 257) rfl ?_
        refine r_scA (i := 258) hG rfl (by omega) (by omega) fun h281 => ?_
        have h281 : Rg (sc (i + 2).toNat) := h281
        refine r_call (i := 259) (u := 11) (v := 232) (w := 0) (b := 0) (na := 771) (C2 := xC232) (as := [(2, 43), vi (sc (i + 1).toNat), vi (sc (i + 2).toNat)]) (s := []) rfl rfl rfl rfl rfl rfl rfl (sp232 (w0 := sc (i + 1).toNat) (k := sc (i + 2).toNat) hI273 ⟨by omega, by omega⟩ ⟨by omega, by omega⟩   (by omega)) (fun r282 S283 hq284 => ?_)
        obtain ⟨z285, rfl, h286, h287, h288, hI289, hF290, hR291⟩ := hq284
        have e292 := N23x.fr e276 hF290 hR291 rfl rfl rfl
        have e293 := CRx.fr e277 hF290 rfl rfl
        have e294 := RTx.fr e278 hF290 rfl rfl
        have e295 := wRM_rm e279 hR291
        refine Or.inr (Or.inl ⟨rfl, ?_⟩)
        refine r_pop (i := 260) rfl rfl ?_
        refine r_goto (i := 261) (v := 654) rfl ?_
        refine r_iinc (i := 654) (u := 10) (v := 4) (s := 10) (L1 := [some ((6, 0)), some ((2, 0)), some ((2, 43)), some ((2, 81)), some (vi (i + 10)), none, none]) rfl rfl rfl rfl rfl ?_
        refine r_goto (i := 655) (v := 13) rfl ?_
        exact ih S283 hI289 e292 e293 e294 (i + 10) ⟨by omega, by omega⟩ (by exact wRM_le e295 (by omega)) (by omega)
      · refine r_swK (i := 24) (u := 1) (v := 654) (k := 6) (t := 262) rfl rfl h11 (by decide) (by decide) rfl ?_
        refine r_load (i := 262) (u := 1) (w := 2) rfl rfl rfl ?_
        refine r_load (i := 263) (u := 0) (w := 2) rfl rfl rfl ?_
        refine r_load (i := 264) (u := 4) (w := 0) rfl rfl rfl ?_
        refine r_const (i := 265) (u := 1) (z := 1) rfl rfl ?_
        refine r_iadd (i := 266) rfl ?_
        refine r_scA (i := 267) hG rfl (by omega) (by omega) fun h296 => ?_
        have h296 : Rg (sc (i + 1).toNat) := h296
        refine r_load (i := 268) (u := 0) (w := 2) rfl rfl rfl ?_
        refine r_load (i := 269) (u := 4) (w := 0) rfl rfl rfl ?_
        refine r_const (i := 270) (u := 2) (z := 2) rfl rfl ?_
        refine r_iadd (i := 271) rfl ?_
        refine r_scA (i := 272) hG rfl (by omega) (by omega) fun h297 => ?_
        have h297 : Rg (sc (i + 2).toNat) := h297
        refine r_load (i := 273) (u := 0) (w := 2) rfl rfl rfl ?_
        refine r_load (i := 274) (u := 4) (w := 0) rfl rfl rfl ?_
        refine r_const (i := 275) (u := 3) (z := 3) rfl rfl ?_
        refine r_iadd (i := 276) rfl ?_
        refine r_scA (i := 277) hG rfl (by omega) (by omega) fun h298 => ?_
        have h298 : Rg (sc (i + 3).toNat) := h298
        refine r_load (i := 278) (u := 0) (w := 2) rfl rfl rfl ?_
        refine r_load (i := 279) (u := 4) (w := 0) rfl rfl rfl ?_
        refine r_const (i := 280) (u := 4) (z := 4) rfl rfl ?_
        refine r_iadd (i := 281) rfl ?_
        refine r_scA (i := 282) hG rfl (by omega) (by omega) fun h299 => ?_
        have h299 : Rg (sc (i + 4).toNat) := h299
        refine r_load (i := 283) (u := 3) (w := 2) rfl rfl rfl ?_
        refine r_call (i := 284) (u := 65535) (v := 175) (w := 0) (b := 2) (na := 1798) (C2 := xC175) (as := [(2, 0), vi (sc (i + 1).toNat), vi (sc (i + 2).toNat), vi (sc (i + 3).toNat), vi (sc (i + 4).toNat), (2, 81)]) (s := []) rfl rfl rfl rfl rfl rfl rfl (sp175 (p0 := sc (i + 1).toNat) (p1 := sc (i + 2).toNat) (p2 := sc (i + 3).toNat) (p3 := sc (i + 4).toNat) (kR := 5199 - i) hI ⟨by omega, by omega⟩ ⟨by omega, by omega⟩ ⟨by omega, by omega⟩ ⟨by omega, by omega⟩ (by exact wRM_le q_0 (by omega)) (by omega) e_N23 e_CR (by omega)) (fun r300 S301 hq302 => ?_)
        obtain ⟨z303, rfl, h304, h305, rm306, e307, e308, hI309, hF310⟩ := hq302
        have e311 := RTx.fr e_RT hF310 rfl rfl
        refine Or.inr (Or.inl ⟨rfl, ?_⟩)
        refine r_store (i := 285) (u := 5) (w := 0) (L1 := [some ((6, 0)), some ((2, 0)), some ((2, 43)), some ((2, 81)), some (vi i), some (vi z303), none]) rfl rfl rfl rfl ?_
        refine r_load (i := 286) (u := 2) (w := 2) rfl rfl rfl ?_
        refine r_load (i := 287) (u := 0) (w := 2) rfl rfl rfl ?_
        refine r_load (i := 288) (u := 4) (w := 0) rfl rfl rfl ?_
        refine r_const (i := 289) (u := 1) (z := 1) rfl rfl ?_
        refine r_iadd (i := 290) rfl ?_
        refine r_scA (i := 291) hG rfl (by omega) (by omega) fun h312 => ?_
        have h312 : Rg (sc (i + 1).toNat) := h312
        refine r_load (i := 292) (u := 0) (w := 2) rfl rfl rfl ?_
        refine r_load (i := 293) (u := 4) (w := 0) rfl rfl rfl ?_
        refine r_const (i := 294) (u := 2) (z := 2) rfl rfl ?_
        refine r_iadd (i := 295) rfl ?_
        refine r_scA (i := 296) hG rfl (by omega) (by omega) fun h313 => ?_
        have h313 : Rg (sc (i + 2).toNat) := h313
        refine r_load (i := 297) (u := 0) (w := 2) rfl rfl rfl ?_
        refine r_load (i := 298) (u := 4) (w := 0) rfl rfl rfl ?_
        refine r_const (i := 299) (u := 3) (z := 3) rfl rfl ?_
        refine r_iadd (i := 300) rfl ?_
        refine r_scA (i := 301) hG rfl (by omega) (by omega) fun h314 => ?_
        have h314 : Rg (sc (i + 3).toNat) := h314
        refine r_load (i := 302) (u := 0) (w := 2) rfl rfl rfl ?_
        refine r_load (i := 303) (u := 4) (w := 0) rfl rfl rfl ?_
        refine r_const (i := 304) (u := 4) (z := 4) rfl rfl ?_
        refine r_iadd (i := 305) rfl ?_
        refine r_scA (i := 306) hG rfl (by omega) (by omega) fun h315 => ?_
        have h315 : Rg (sc (i + 4).toNat) := h315
        refine r_call (i := 307) (u := 11) (v := 203) (w := 0) (b := 0) (na := 2565) (C2 := xC203) (as := [(2, 43), vi (sc (i + 1).toNat), vi (sc (i + 2).toNat), vi (sc (i + 3).toNat), vi (sc (i + 4).toNat)]) (s := []) rfl rfl rfl rfl rfl rfl rfl (sp203 (c := sc (i + 1).toNat) (a := sc (i + 2).toNat) (b := sc (i + 3).toNat) (e := sc (i + 4).toNat) hI309 ⟨by omega, by omega⟩ ⟨by omega, by omega⟩ ⟨by omega, by omega⟩ ⟨by omega, by omega⟩  e308 (by omega)) (fun r316 S317 hq318 => ?_)
        obtain ⟨z319, rfl, h320, h321, e322, hI323, hF324, hR325⟩ := hq318
        have e326 := RTx.fr e311 hF324 rfl rfl
        have e327 := N23x.fr e307 hF324 hR325 rfl rfl rfl
        have e328 := wRM_rm rm306 hR325
        refine Or.inr (Or.inl ⟨rfl, ?_⟩)
        refine r_store (i := 308) (u := 6) (w := 0) (L1 := [some ((6, 0)), some ((2, 0)), some ((2, 43)), some ((2, 81)), some (vi i), some (vi z303), some (vi z319)]) rfl rfl rfl rfl ?_
        refine r_goto (i := 309) (v := 654) rfl ?_
        refine r_iinc (i := 654) (u := 10) (v := 4) (s := 10) (L1 := [some ((6, 0)), some ((2, 0)), some ((2, 43)), some ((2, 81)), some (vi (i + 10)), some (vi z303), some (vi z319)]) rfl rfl rfl rfl rfl ?_
        refine r_goto (i := 655) (v := 13) rfl ?_
        refine yT_drop (L1 := [some ((6, 0)), some ((2, 0)), some ((2, 43)), some ((2, 81)), some (vi (i + 10)), none, none]) rfl ?_
        exact ih S317 hI323 e327 e322 e326 (i + 10) ⟨by omega, by omega⟩ (by exact wRM_le e328 (by omega)) (by omega)
      · refine r_swK (i := 24) (u := 1) (v := 654) (k := 7) (t := 310) rfl rfl h12 (by decide) (by decide) rfl ?_
        refine r_load (i := 310) (u := 1) (w := 2) rfl rfl rfl ?_
        refine r_call (i := 311) (u := 0) (v := 19) (w := 0) (b := 0) (na := 257) (C2 := xC19) (as := [(2, 0)]) (s := []) rfl rfl rfl rfl rfl rfl rfl (sp19  hI    (by omega)) (fun r329 S330 hq331 => ?_)
        obtain ⟨z332, rfl, h333, h334, rfl⟩ := hq331
        refine Or.inr (Or.inl ⟨rfl, ?_⟩)
        refine r_pop (i := 312) rfl rfl ?_
        refine r_load (i := 313) (u := 2) (w := 2) rfl rfl rfl ?_
        refine r_call (i := 314) (u := 11) (v := 244) (w := 0) (b := 0) (na := 257) (C2 := xC244) (as := [(2, 43)]) (s := []) rfl rfl rfl rfl rfl rfl rfl (sp244  hI    (by omega)) (fun r335 S336 hq337 => ?_)
        obtain ⟨z338, rfl, h339, h340, hI341, hF342, hR343⟩ := hq337
        have e344 := N23x.fr e_N23 hF342 hR343 rfl rfl rfl
        have e345 := CRx.fr e_CR hF342 rfl rfl
        have e346 := RTx.fr e_RT hF342 rfl rfl
        have e347 := wRM_rm q_0 hR343
        refine Or.inr (Or.inl ⟨rfl, ?_⟩)
        refine r_pop (i := 315) rfl rfl ?_
        refine r_goto (i := 316) (v := 654) rfl ?_
        refine r_iinc (i := 654) (u := 10) (v := 4) (s := 10) (L1 := [some ((6, 0)), some ((2, 0)), some ((2, 43)), some ((2, 81)), some (vi (i + 10)), none, none]) rfl rfl rfl rfl rfl ?_
        refine r_goto (i := 655) (v := 13) rfl ?_
        exact ih S336 hI341 e344 e345 e346 (i + 10) ⟨by omega, by omega⟩ (by exact wRM_le e347 (by omega)) (by omega)
      · refine r_swK (i := 24) (u := 1) (v := 654) (k := 8) (t := 317) rfl rfl h13 (by decide) (by decide) rfl ?_
        refine r_load (i := 317) (u := 1) (w := 2) rfl rfl rfl ?_
        refine r_load (i := 318) (u := 0) (w := 2) rfl rfl rfl ?_
        refine r_load (i := 319) (u := 4) (w := 0) rfl rfl rfl ?_
        refine r_const (i := 320) (u := 1) (z := 1) rfl rfl ?_
        refine r_iadd (i := 321) rfl ?_
        refine r_scA (i := 322) hG rfl (by omega) (by omega) fun h348 => ?_
        have h348 : Rg (sc (i + 1).toNat) := h348
        refine r_call (i := 323) (u := 0) (v := 18) (w := 0) (b := 0) (na := 514) (C2 := xC18) (as := [(2, 0), vi (sc (i + 1).toNat)]) (s := []) rfl rfl rfl rfl rfl rfl rfl (sp18 (k := sc (i + 1).toNat) hI ⟨by omega, by omega⟩   (by omega)) (fun r349 S350 hq351 => ?_)
        obtain ⟨z352, rfl, h353, h354, rfl⟩ := hq351
        refine Or.inr (Or.inl ⟨rfl, ?_⟩)
        refine r_pop (i := 324) rfl rfl ?_
        refine r_load (i := 325) (u := 2) (w := 2) rfl rfl rfl ?_
        refine r_load (i := 326) (u := 0) (w := 2) rfl rfl rfl ?_
        refine r_load (i := 327) (u := 4) (w := 0) rfl rfl rfl ?_
        refine r_const (i := 328) (u := 1) (z := 1) rfl rfl ?_
        refine r_iadd (i := 329) rfl ?_
        refine r_scA (i := 330) hG rfl (by omega) (by omega) fun h355 => ?_
        have h355 : Rg (sc (i + 1).toNat) := h355
        refine r_call (i := 331) (u := 11) (v := 243) (w := 0) (b := 0) (na := 514) (C2 := xC243) (as := [(2, 43), vi (sc (i + 1).toNat)]) (s := []) rfl rfl rfl rfl rfl rfl rfl (sp243 (k := sc (i + 1).toNat) hI ⟨by omega, by omega⟩   (by omega)) (fun r356 S357 hq358 => ?_)
        obtain ⟨z359, rfl, h360, h361, hI362, hF363, hR364⟩ := hq358
        have e365 := N23x.fr e_N23 hF363 hR364 rfl rfl rfl
        have e366 := CRx.fr e_CR hF363 rfl rfl
        have e367 := RTx.fr e_RT hF363 rfl rfl
        have e368 := wRM_rm q_0 hR364
        refine Or.inr (Or.inl ⟨rfl, ?_⟩)
        refine r_pop (i := 332) rfl rfl ?_
        refine r_goto (i := 333) (v := 654) rfl ?_
        refine r_iinc (i := 654) (u := 10) (v := 4) (s := 10) (L1 := [some ((6, 0)), some ((2, 0)), some ((2, 43)), some ((2, 81)), some (vi (i + 10)), none, none]) rfl rfl rfl rfl rfl ?_
        refine r_goto (i := 655) (v := 13) rfl ?_
        exact ih S357 hI362 e365 e366 e367 (i + 10) ⟨by omega, by omega⟩ (by exact wRM_le e368 (by omega)) (by omega)
      · refine r_swK (i := 24) (u := 1) (v := 654) (k := 9) (t := 334) rfl rfl h14 (by decide) (by decide) rfl ?_
        refine r_load (i := 334) (u := 1) (w := 2) rfl rfl rfl ?_
        refine r_load (i := 335) (u := 0) (w := 2) rfl rfl rfl ?_
        refine r_load (i := 336) (u := 4) (w := 0) rfl rfl rfl ?_
        refine r_const (i := 337) (u := 1) (z := 1) rfl rfl ?_
        refine r_iadd (i := 338) rfl ?_
        refine r_scA (i := 339) hG rfl (by omega) (by omega) fun h369 => ?_
        have h369 : Rg (sc (i + 1).toNat) := h369
        refine r_load (i := 340) (u := 0) (w := 2) rfl rfl rfl ?_
        refine r_load (i := 341) (u := 4) (w := 0) rfl rfl rfl ?_
        refine r_const (i := 342) (u := 2) (z := 2) rfl rfl ?_
        refine r_iadd (i := 343) rfl ?_
        refine r_scA (i := 344) hG rfl (by omega) (by omega) fun h370 => ?_
        have h370 : Rg (sc (i + 2).toNat) := h370
        refine r_i2l (i := 345) rfl ⟨by omega, by omega⟩ ?_
        refine r_const (i := 346) (u := 32) (z := 32) rfl rfl ?_
        refine r_lshl (i := 347) rfl ?_
        refine r_load (i := 348) (u := 0) (w := 2) rfl rfl rfl ?_
        refine r_load (i := 349) (u := 4) (w := 0) rfl rfl rfl ?_
        refine r_const (i := 350) (u := 3) (z := 3) rfl rfl ?_
        refine r_iadd (i := 351) rfl ?_
        refine r_scA (i := 352) hG rfl (by omega) (by omega) fun h371 => ?_
        have h371 : Rg (sc (i + 3).toNat) := h371
        refine r_i2l (i := 353) rfl ⟨by omega, by omega⟩ ?_
        refine r_lconst (i := 354) (u := 4294967295) (z := 4294967295) rfl rfl ?_
        refine r_land (i := 355) rfl ?_
        have h372 := @yland_c (sc (i + 3).toNat) 4294967295 (by decide) (by decide)
        refine r_lor (i := 356) rfl ?_
        have h373 := ylor_rl ((sc (i + 2).toNat) * 4294967296) (yland (sc (i + 3).toNat) 4294967295)
        refine r_call (i := 357) (u := 65535) (v := 173) (w := 0) (b := 2) (na := 1283) (C2 := xC173) (as := [(2, 0), vi (sc (i + 1).toNat), vl (ylor ((sc (i + 2).toNat) * 4294967296) (yland (sc (i + 3).toNat) 4294967295))]) (s := []) rfl rfl rfl rfl rfl rfl rfl (sp173 (p0 := sc (i + 1).toNat) (p1 := ylor ((sc (i + 2).toNat) * 4294967296) (yland (sc (i + 3).toNat) 4294967295)) (kR := 5199 - i) hI ⟨by omega, by omega⟩ ⟨by omega, by omega⟩ (by exact wRM_le q_0 (by omega)) (by omega) e_N23 e_CR (by omega)) (fun r374 S375 hq376 => ?_)
        obtain ⟨z377, rfl, h378, h379, rm380, e381, e382, hI383, hF384⟩ := hq376
        have e385 := RTx.fr e_RT hF384 rfl rfl
        refine Or.inr (Or.inl ⟨rfl, ?_⟩)
        refine r_store (i := 358) (u := 5) (w := 0) (L1 := [some ((6, 0)), some ((2, 0)), some ((2, 43)), some ((2, 81)), some (vi i), some (vi z377), none]) rfl rfl rfl rfl ?_
        refine r_load (i := 359) (u := 2) (w := 2) rfl rfl rfl ?_
        refine r_load (i := 360) (u := 0) (w := 2) rfl rfl rfl ?_
        refine r_load (i := 361) (u := 4) (w := 0) rfl rfl rfl ?_
        refine r_const (i := 362) (u := 1) (z := 1) rfl rfl ?_
        refine r_iadd (i := 363) rfl ?_
        refine r_scA (i := 364) hG rfl (by omega) (by omega) fun h386 => ?_
        have h386 : Rg (sc (i + 1).toNat) := h386
        refine r_load (i := 365) (u := 0) (w := 2) rfl rfl rfl ?_
        refine r_load (i := 366) (u := 4) (w := 0) rfl rfl rfl ?_
        refine r_const (i := 367) (u := 2) (z := 2) rfl rfl ?_
        refine r_iadd (i := 368) rfl ?_
        refine r_scA (i := 369) hG rfl (by omega) (by omega) fun h387 => ?_
        have h387 : Rg (sc (i + 2).toNat) := h387
        refine r_i2l (i := 370) rfl ⟨by omega, by omega⟩ ?_
        refine r_const (i := 371) (u := 32) (z := 32) rfl rfl ?_
        refine r_lshl (i := 372) rfl ?_
        refine r_load (i := 373) (u := 0) (w := 2) rfl rfl rfl ?_
        refine r_load (i := 374) (u := 4) (w := 0) rfl rfl rfl ?_
        refine r_const (i := 375) (u := 3) (z := 3) rfl rfl ?_
        refine r_iadd (i := 376) rfl ?_
        refine r_scA (i := 377) hG rfl (by omega) (by omega) fun h388 => ?_
        have h388 : Rg (sc (i + 3).toNat) := h388
        refine r_i2l (i := 378) rfl ⟨by omega, by omega⟩ ?_
        refine r_lconst (i := 379) (u := 4294967295) (z := 4294967295) rfl rfl ?_
        refine r_land (i := 380) rfl ?_
        have h389 := @yland_c (sc (i + 3).toNat) 4294967295 (by decide) (by decide)
        refine r_lor (i := 381) rfl ?_
        have h390 := ylor_rl ((sc (i + 2).toNat) * 4294967296) (yland (sc (i + 3).toNat) 4294967295)
        refine r_call (i := 382) (u := 11) (v := 181) (w := 0) (b := 0) (na := 1539) (C2 := xC181) (as := [(2, 43), vi (sc (i + 1).toNat), vl (ylor ((sc (i + 2).toNat) * 4294967296) (yland (sc (i + 3).toNat) 4294967295))]) (s := []) rfl rfl rfl rfl rfl rfl rfl (sp181 (w0 := sc (i + 1).toNat) (v := ylor ((sc (i + 2).toNat) * 4294967296) (yland (sc (i + 3).toNat) 4294967295)) hI383 ⟨by omega, by omega⟩ ⟨by omega, by omega⟩   (by omega)) (fun r391 S392 hq393 => ?_)
        obtain ⟨rfl, hI394, hF395, hR396⟩ := hq393
        have e397 := RTx.fr e385 hF395 rfl rfl
        have e398 := N23x.fr e381 hF395 hR396 rfl rfl rfl
        have e399 := CRx.fr e382 hF395 rfl rfl
        have e400 := wRM_rm rm380 hR396
        refine Or.inl ⟨rfl, ?_⟩
        refine r_goto (i := 383) (v := 654) rfl ?_
        refine r_iinc (i := 654) (u := 10) (v := 4) (s := 10) (L1 := [some ((6, 0)), some ((2, 0)), some ((2, 43)), some ((2, 81)), some (vi (i + 10)), some (vi z377), none]) rfl rfl rfl rfl rfl ?_
        refine r_goto (i := 655) (v := 13) rfl ?_
        refine yT_drop (L1 := [some ((6, 0)), some ((2, 0)), some ((2, 43)), some ((2, 81)), some (vi (i + 10)), none, none]) rfl ?_
        exact ih S392 hI394 e398 e399 e397 (i + 10) ⟨by omega, by omega⟩ (by exact wRM_le e400 (by omega)) (by omega)
      · refine r_swK (i := 24) (u := 1) (v := 654) (k := 10) (t := 384) rfl rfl h15 (by decide) (by decide) rfl ?_
        refine r_load (i := 384) (u := 1) (w := 2) rfl rfl rfl ?_
        refine r_load (i := 385) (u := 0) (w := 2) rfl rfl rfl ?_
        refine r_load (i := 386) (u := 4) (w := 0) rfl rfl rfl ?_
        refine r_const (i := 387) (u := 1) (z := 1) rfl rfl ?_
        refine r_iadd (i := 388) rfl ?_
        refine r_scA (i := 389) hG rfl (by omega) (by omega) fun h401 => ?_
        have h401 : Rg (sc (i + 1).toNat) := h401
        refine r_load (i := 390) (u := 0) (w := 2) rfl rfl rfl ?_
        refine r_load (i := 391) (u := 4) (w := 0) rfl rfl rfl ?_
        refine r_const (i := 392) (u := 2) (z := 2) rfl rfl ?_
        refine r_iadd (i := 393) rfl ?_
        refine r_scA (i := 394) hG rfl (by omega) (by omega) fun h402 => ?_
        have h402 : Rg (sc (i + 2).toNat) := h402
        refine r_i2l (i := 395) rfl ⟨by omega, by omega⟩ ?_
        refine r_const (i := 396) (u := 32) (z := 32) rfl rfl ?_
        refine r_lshl (i := 397) rfl ?_
        refine r_load (i := 398) (u := 0) (w := 2) rfl rfl rfl ?_
        refine r_load (i := 399) (u := 4) (w := 0) rfl rfl rfl ?_
        refine r_const (i := 400) (u := 3) (z := 3) rfl rfl ?_
        refine r_iadd (i := 401) rfl ?_
        refine r_scA (i := 402) hG rfl (by omega) (by omega) fun h403 => ?_
        have h403 : Rg (sc (i + 3).toNat) := h403
        refine r_i2l (i := 403) rfl ⟨by omega, by omega⟩ ?_
        refine r_lconst (i := 404) (u := 4294967295) (z := 4294967295) rfl rfl ?_
        refine r_land (i := 405) rfl ?_
        have h404 := @yland_c (sc (i + 3).toNat) 4294967295 (by decide) (by decide)
        refine r_lor (i := 406) rfl ?_
        have h405 := ylor_rl ((sc (i + 2).toNat) * 4294967296) (yland (sc (i + 3).toNat) 4294967295)
        refine r_load (i := 407) (u := 0) (w := 2) rfl rfl rfl ?_
        refine r_load (i := 408) (u := 4) (w := 0) rfl rfl rfl ?_
        refine r_const (i := 409) (u := 4) (z := 4) rfl rfl ?_
        refine r_iadd (i := 410) rfl ?_
        refine r_scA (i := 411) hG rfl (by omega) (by omega) fun h406 => ?_
        have h406 : Rg (sc (i + 4).toNat) := h406
        refine r_i2l (i := 412) rfl ⟨by omega, by omega⟩ ?_
        refine r_const (i := 413) (u := 32) (z := 32) rfl rfl ?_
        refine r_lshl (i := 414) rfl ?_
        refine r_load (i := 415) (u := 0) (w := 2) rfl rfl rfl ?_
        refine r_load (i := 416) (u := 4) (w := 0) rfl rfl rfl ?_
        refine r_const (i := 417) (u := 5) (z := 5) rfl rfl ?_
        refine r_iadd (i := 418) rfl ?_
        refine r_scA (i := 419) hG rfl (by omega) (by omega) fun h407 => ?_
        have h407 : Rg (sc (i + 5).toNat) := h407
        refine r_i2l (i := 420) rfl ⟨by omega, by omega⟩ ?_
        refine r_lconst (i := 421) (u := 4294967295) (z := 4294967295) rfl rfl ?_
        refine r_land (i := 422) rfl ?_
        have h408 := @yland_c (sc (i + 5).toNat) 4294967295 (by decide) (by decide)
        refine r_lor (i := 423) rfl ?_
        have h409 := ylor_rl ((sc (i + 4).toNat) * 4294967296) (yland (sc (i + 5).toNat) 4294967295)
        refine r_load (i := 424) (u := 0) (w := 2) rfl rfl rfl ?_
        refine r_load (i := 425) (u := 4) (w := 0) rfl rfl rfl ?_
        refine r_const (i := 426) (u := 6) (z := 6) rfl rfl ?_
        refine r_iadd (i := 427) rfl ?_
        refine r_scA (i := 428) hG rfl (by omega) (by omega) fun h410 => ?_
        have h410 : Rg (sc (i + 6).toNat) := h410
        refine r_i2l (i := 429) rfl ⟨by omega, by omega⟩ ?_
        refine r_const (i := 430) (u := 32) (z := 32) rfl rfl ?_
        refine r_lshl (i := 431) rfl ?_
        refine r_load (i := 432) (u := 0) (w := 2) rfl rfl rfl ?_
        refine r_load (i := 433) (u := 4) (w := 0) rfl rfl rfl ?_
        refine r_const (i := 434) (u := 7) (z := 7) rfl rfl ?_
        refine r_iadd (i := 435) rfl ?_
        refine r_scA (i := 436) hG rfl (by omega) (by omega) fun h411 => ?_
        have h411 : Rg (sc (i + 7).toNat) := h411
        refine r_i2l (i := 437) rfl ⟨by omega, by omega⟩ ?_
        refine r_lconst (i := 438) (u := 4294967295) (z := 4294967295) rfl rfl ?_
        refine r_land (i := 439) rfl ?_
        have h412 := @yland_c (sc (i + 7).toNat) 4294967295 (by decide) (by decide)
        refine r_lor (i := 440) rfl ?_
        have h413 := ylor_rl ((sc (i + 6).toNat) * 4294967296) (yland (sc (i + 7).toNat) 4294967295)
        refine r_load (i := 441) (u := 0) (w := 2) rfl rfl rfl ?_
        refine r_load (i := 442) (u := 4) (w := 0) rfl rfl rfl ?_
        refine r_const (i := 443) (u := 8) (z := 8) rfl rfl ?_
        refine r_iadd (i := 444) rfl ?_
        refine r_scA (i := 445) hG rfl (by omega) (by omega) fun h414 => ?_
        have h414 : Rg (sc (i + 8).toNat) := h414
        refine r_i2l (i := 446) rfl ⟨by omega, by omega⟩ ?_
        refine r_const (i := 447) (u := 32) (z := 32) rfl rfl ?_
        refine r_lshl (i := 448) rfl ?_
        refine r_load (i := 449) (u := 0) (w := 2) rfl rfl rfl ?_
        refine r_load (i := 450) (u := 4) (w := 0) rfl rfl rfl ?_
        refine r_const (i := 451) (u := 9) (z := 9) rfl rfl ?_
        refine r_iadd (i := 452) rfl ?_
        refine r_scA (i := 453) hG rfl (by omega) (by omega) fun h415 => ?_
        have h415 : Rg (sc (i + 9).toNat) := h415
        refine r_i2l (i := 454) rfl ⟨by omega, by omega⟩ ?_
        refine r_lconst (i := 455) (u := 4294967295) (z := 4294967295) rfl rfl ?_
        refine r_land (i := 456) rfl ?_
        have h416 := @yland_c (sc (i + 9).toNat) 4294967295 (by decide) (by decide)
        refine r_lor (i := 457) rfl ?_
        have h417 := ylor_rl ((sc (i + 8).toNat) * 4294967296) (yland (sc (i + 9).toNat) 4294967295)
        refine r_load (i := 458) (u := 3) (w := 2) rfl rfl rfl ?_
        refine r_call (i := 459) (u := 65535) (v := 174) (w := 0) (b := 2) (na := 3079) (C2 := xC174) (as := [(2, 0), vi (sc (i + 1).toNat), vl (ylor ((sc (i + 2).toNat) * 4294967296) (yland (sc (i + 3).toNat) 4294967295)), vl (ylor ((sc (i + 4).toNat) * 4294967296) (yland (sc (i + 5).toNat) 4294967295)), vl (ylor ((sc (i + 6).toNat) * 4294967296) (yland (sc (i + 7).toNat) 4294967295)), vl (ylor ((sc (i + 8).toNat) * 4294967296) (yland (sc (i + 9).toNat) 4294967295)), (2, 81)]) (s := []) rfl rfl rfl rfl rfl rfl rfl (sp174 (p0 := sc (i + 1).toNat) (p1 := ylor ((sc (i + 2).toNat) * 4294967296) (yland (sc (i + 3).toNat) 4294967295)) (p2 := ylor ((sc (i + 4).toNat) * 4294967296) (yland (sc (i + 5).toNat) 4294967295)) (p3 := ylor ((sc (i + 6).toNat) * 4294967296) (yland (sc (i + 7).toNat) 4294967295)) (p4 := ylor ((sc (i + 8).toNat) * 4294967296) (yland (sc (i + 9).toNat) 4294967295)) (kR := 5199 - i) hI ⟨by omega, by omega⟩ ⟨by omega, by omega⟩ ⟨by omega, by omega⟩ ⟨by omega, by omega⟩ ⟨by omega, by omega⟩ (by exact wRM_le q_0 (by omega)) (by omega) e_N23 e_CR (by omega)) (fun r418 S419 hq420 => ?_)
        obtain ⟨z421, rfl, h422, h423, rm424, e425, e426, hI427, hF428⟩ := hq420
        have e429 := RTx.fr e_RT hF428 rfl rfl
        refine Or.inr (Or.inl ⟨rfl, ?_⟩)
        refine r_store (i := 460) (u := 5) (w := 0) (L1 := [some ((6, 0)), some ((2, 0)), some ((2, 43)), some ((2, 81)), some (vi i), some (vi z421), none]) rfl rfl rfl rfl ?_
        refine r_load (i := 461) (u := 2) (w := 2) rfl rfl rfl ?_
        refine r_load (i := 462) (u := 0) (w := 2) rfl rfl rfl ?_
        refine r_load (i := 463) (u := 4) (w := 0) rfl rfl rfl ?_
        refine r_const (i := 464) (u := 1) (z := 1) rfl rfl ?_
        refine r_iadd (i := 465) rfl ?_
        refine r_scA (i := 466) hG rfl (by omega) (by omega) fun h430 => ?_
        have h430 : Rg (sc (i + 1).toNat) := h430
        refine r_load (i := 467) (u := 0) (w := 2) rfl rfl rfl ?_
        refine r_load (i := 468) (u := 4) (w := 0) rfl rfl rfl ?_
        refine r_const (i := 469) (u := 2) (z := 2) rfl rfl ?_
        refine r_iadd (i := 470) rfl ?_
        refine r_scA (i := 471) hG rfl (by omega) (by omega) fun h431 => ?_
        have h431 : Rg (sc (i + 2).toNat) := h431
        refine r_i2l (i := 472) rfl ⟨by omega, by omega⟩ ?_
        refine r_const (i := 473) (u := 32) (z := 32) rfl rfl ?_
        refine r_lshl (i := 474) rfl ?_
        refine r_load (i := 475) (u := 0) (w := 2) rfl rfl rfl ?_
        refine r_load (i := 476) (u := 4) (w := 0) rfl rfl rfl ?_
        refine r_const (i := 477) (u := 3) (z := 3) rfl rfl ?_
        refine r_iadd (i := 478) rfl ?_
        refine r_scA (i := 479) hG rfl (by omega) (by omega) fun h432 => ?_
        have h432 : Rg (sc (i + 3).toNat) := h432
        refine r_i2l (i := 480) rfl ⟨by omega, by omega⟩ ?_
        refine r_lconst (i := 481) (u := 4294967295) (z := 4294967295) rfl rfl ?_
        refine r_land (i := 482) rfl ?_
        have h433 := @yland_c (sc (i + 3).toNat) 4294967295 (by decide) (by decide)
        refine r_lor (i := 483) rfl ?_
        have h434 := ylor_rl ((sc (i + 2).toNat) * 4294967296) (yland (sc (i + 3).toNat) 4294967295)
        refine r_load (i := 484) (u := 0) (w := 2) rfl rfl rfl ?_
        refine r_load (i := 485) (u := 4) (w := 0) rfl rfl rfl ?_
        refine r_const (i := 486) (u := 4) (z := 4) rfl rfl ?_
        refine r_iadd (i := 487) rfl ?_
        refine r_scA (i := 488) hG rfl (by omega) (by omega) fun h435 => ?_
        have h435 : Rg (sc (i + 4).toNat) := h435
        refine r_i2l (i := 489) rfl ⟨by omega, by omega⟩ ?_
        refine r_const (i := 490) (u := 32) (z := 32) rfl rfl ?_
        refine r_lshl (i := 491) rfl ?_
        refine r_load (i := 492) (u := 0) (w := 2) rfl rfl rfl ?_
        refine r_load (i := 493) (u := 4) (w := 0) rfl rfl rfl ?_
        refine r_const (i := 494) (u := 5) (z := 5) rfl rfl ?_
        refine r_iadd (i := 495) rfl ?_
        refine r_scA (i := 496) hG rfl (by omega) (by omega) fun h436 => ?_
        have h436 : Rg (sc (i + 5).toNat) := h436
        refine r_i2l (i := 497) rfl ⟨by omega, by omega⟩ ?_
        refine r_lconst (i := 498) (u := 4294967295) (z := 4294967295) rfl rfl ?_
        refine r_land (i := 499) rfl ?_
        have h437 := @yland_c (sc (i + 5).toNat) 4294967295 (by decide) (by decide)
        refine r_lor (i := 500) rfl ?_
        have h438 := ylor_rl ((sc (i + 4).toNat) * 4294967296) (yland (sc (i + 5).toNat) 4294967295)
        refine r_load (i := 501) (u := 0) (w := 2) rfl rfl rfl ?_
        refine r_load (i := 502) (u := 4) (w := 0) rfl rfl rfl ?_
        refine r_const (i := 503) (u := 6) (z := 6) rfl rfl ?_
        refine r_iadd (i := 504) rfl ?_
        refine r_scA (i := 505) hG rfl (by omega) (by omega) fun h439 => ?_
        have h439 : Rg (sc (i + 6).toNat) := h439
        refine r_i2l (i := 506) rfl ⟨by omega, by omega⟩ ?_
        refine r_const (i := 507) (u := 32) (z := 32) rfl rfl ?_
        refine r_lshl (i := 508) rfl ?_
        refine r_load (i := 509) (u := 0) (w := 2) rfl rfl rfl ?_
        refine r_load (i := 510) (u := 4) (w := 0) rfl rfl rfl ?_
        refine r_const (i := 511) (u := 7) (z := 7) rfl rfl ?_
        refine r_iadd (i := 512) rfl ?_
        refine r_scA (i := 513) hG rfl (by omega) (by omega) fun h440 => ?_
        have h440 : Rg (sc (i + 7).toNat) := h440
        refine r_i2l (i := 514) rfl ⟨by omega, by omega⟩ ?_
        refine r_lconst (i := 515) (u := 4294967295) (z := 4294967295) rfl rfl ?_
        refine r_land (i := 516) rfl ?_
        have h441 := @yland_c (sc (i + 7).toNat) 4294967295 (by decide) (by decide)
        refine r_lor (i := 517) rfl ?_
        have h442 := ylor_rl ((sc (i + 6).toNat) * 4294967296) (yland (sc (i + 7).toNat) 4294967295)
        refine r_load (i := 518) (u := 0) (w := 2) rfl rfl rfl ?_
        refine r_load (i := 519) (u := 4) (w := 0) rfl rfl rfl ?_
        refine r_const (i := 520) (u := 8) (z := 8) rfl rfl ?_
        refine r_iadd (i := 521) rfl ?_
        refine r_scA (i := 522) hG rfl (by omega) (by omega) fun h443 => ?_
        have h443 : Rg (sc (i + 8).toNat) := h443
        refine r_i2l (i := 523) rfl ⟨by omega, by omega⟩ ?_
        refine r_const (i := 524) (u := 32) (z := 32) rfl rfl ?_
        refine r_lshl (i := 525) rfl ?_
        refine r_load (i := 526) (u := 0) (w := 2) rfl rfl rfl ?_
        refine r_load (i := 527) (u := 4) (w := 0) rfl rfl rfl ?_
        refine r_const (i := 528) (u := 9) (z := 9) rfl rfl ?_
        refine r_iadd (i := 529) rfl ?_
        refine r_scA (i := 530) hG rfl (by omega) (by omega) fun h444 => ?_
        have h444 : Rg (sc (i + 9).toNat) := h444
        refine r_i2l (i := 531) rfl ⟨by omega, by omega⟩ ?_
        refine r_lconst (i := 532) (u := 4294967295) (z := 4294967295) rfl rfl ?_
        refine r_land (i := 533) rfl ?_
        have h445 := @yland_c (sc (i + 9).toNat) 4294967295 (by decide) (by decide)
        refine r_lor (i := 534) rfl ?_
        have h446 := ylor_rl ((sc (i + 8).toNat) * 4294967296) (yland (sc (i + 9).toNat) 4294967295)
        refine r_call (i := 535) (u := 11) (v := 188) (w := 0) (b := 0) (na := 4102) (C2 := xC188) (as := [(2, 43), vi (sc (i + 1).toNat), vl (ylor ((sc (i + 2).toNat) * 4294967296) (yland (sc (i + 3).toNat) 4294967295)), vl (ylor ((sc (i + 4).toNat) * 4294967296) (yland (sc (i + 5).toNat) 4294967295)), vl (ylor ((sc (i + 6).toNat) * 4294967296) (yland (sc (i + 7).toNat) 4294967295)), vl (ylor ((sc (i + 8).toNat) * 4294967296) (yland (sc (i + 9).toNat) 4294967295))]) (s := []) rfl rfl rfl rfl rfl rfl rfl (sp188 (k := sc (i + 1).toNat) (a := ylor ((sc (i + 2).toNat) * 4294967296) (yland (sc (i + 3).toNat) 4294967295)) (b := ylor ((sc (i + 4).toNat) * 4294967296) (yland (sc (i + 5).toNat) 4294967295)) (c := ylor ((sc (i + 6).toNat) * 4294967296) (yland (sc (i + 7).toNat) 4294967295)) (e := ylor ((sc (i + 8).toNat) * 4294967296) (yland (sc (i + 9).toNat) 4294967295)) hI427 ⟨by omega, by omega⟩ ⟨by omega, by omega⟩ ⟨by omega, by omega⟩ ⟨by omega, by omega⟩ ⟨by omega, by omega⟩   (by omega)) (fun r447 S448 hq449 => ?_)
        obtain ⟨z450, rfl, h451, h452, hI453, hF454, hR455⟩ := hq449
        have e456 := RTx.fr e429 hF454 rfl rfl
        have e457 := N23x.fr e425 hF454 hR455 rfl rfl rfl
        have e458 := CRx.fr e426 hF454 rfl rfl
        have e459 := wRM_rm rm424 hR455
        refine Or.inr (Or.inl ⟨rfl, ?_⟩)
        refine r_store (i := 536) (u := 6) (w := 0) (L1 := [some ((6, 0)), some ((2, 0)), some ((2, 43)), some ((2, 81)), some (vi i), some (vi z421), some (vi z450)]) rfl rfl rfl rfl ?_
        refine r_goto (i := 537) (v := 654) rfl ?_
        refine r_iinc (i := 654) (u := 10) (v := 4) (s := 10) (L1 := [some ((6, 0)), some ((2, 0)), some ((2, 43)), some ((2, 81)), some (vi (i + 10)), some (vi z421), some (vi z450)]) rfl rfl rfl rfl rfl ?_
        refine r_goto (i := 655) (v := 13) rfl ?_
        refine yT_drop (L1 := [some ((6, 0)), some ((2, 0)), some ((2, 43)), some ((2, 81)), some (vi (i + 10)), none, none]) rfl ?_
        exact ih S448 hI453 e457 e458 e456 (i + 10) ⟨by omega, by omega⟩ (by exact wRM_le e459 (by omega)) (by omega)
      · refine r_swK (i := 24) (u := 1) (v := 654) (k := 11) (t := 538) rfl rfl h16 (by decide) (by decide) rfl ?_
        refine r_load (i := 538) (u := 1) (w := 2) rfl rfl rfl ?_
        refine r_call (i := 539) (u := 0) (v := 16) (w := 0) (b := 0) (na := 257) (C2 := xC16) (as := [(2, 0)]) (s := []) rfl rfl rfl rfl rfl rfl rfl (sp16  hI    (by omega)) (fun r460 S461 hq462 => ?_)
        obtain ⟨z463, rfl, h464, rfl⟩ := hq462
        refine Or.inr (Or.inl ⟨rfl, ?_⟩)
        refine r_pop2 (i := 540) rfl rfl ?_
        refine r_load (i := 541) (u := 2) (w := 2) rfl rfl rfl ?_
        refine r_call (i := 542) (u := 11) (v := 239) (w := 0) (b := 0) (na := 257) (C2 := xC239) (as := [(2, 43)]) (s := []) rfl rfl rfl rfl rfl rfl rfl (sp239  hI    (by omega)) (fun r465 S466 hq467 => ?_)
        obtain ⟨z468, rfl, h469, hI470, hF471, hR472⟩ := hq467
        have e473 := N23x.fr e_N23 hF471 hR472 rfl rfl rfl
        have e474 := CRx.fr e_CR hF471 rfl rfl
        have e475 := RTx.fr e_RT hF471 rfl rfl
        have e476 := wRM_rm q_0 hR472
        refine Or.inr (Or.inl ⟨rfl, ?_⟩)
        refine r_pop2 (i := 543) rfl rfl ?_
        refine r_goto (i := 544) (v := 654) rfl ?_
        refine r_iinc (i := 654) (u := 10) (v := 4) (s := 10) (L1 := [some ((6, 0)), some ((2, 0)), some ((2, 43)), some ((2, 81)), some (vi (i + 10)), none, none]) rfl rfl rfl rfl rfl ?_
        refine r_goto (i := 655) (v := 13) rfl ?_
        exact ih S466 hI470 e473 e474 e475 (i + 10) ⟨by omega, by omega⟩ (by exact wRM_le e476 (by omega)) (by omega)
      · refine r_swK (i := 24) (u := 1) (v := 654) (k := 12) (t := 545) rfl rfl h17 (by decide) (by decide) rfl ?_
        refine r_load (i := 545) (u := 1) (w := 2) rfl rfl rfl ?_
        refine r_call (i := 546) (u := 0) (v := 3) (w := 0) (b := 0) (na := 257) (C2 := xC3) (as := [(2, 0)]) (s := []) rfl rfl rfl rfl rfl rfl rfl (sp3  hI    (by omega)) (fun r477 S478 hq479 => ?_)
        obtain ⟨z480, rfl, h481, h482, rfl⟩ := hq479
        refine Or.inr (Or.inl ⟨rfl, ?_⟩)
        refine r_pop (i := 547) rfl rfl ?_
        refine r_load (i := 548) (u := 2) (w := 2) rfl rfl rfl ?_
        refine r_call (i := 549) (u := 11) (v := 184) (w := 0) (b := 0) (na := 257) (C2 := xC184) (as := [(2, 43)]) (s := []) rfl rfl rfl rfl rfl rfl rfl (sp184  hI    (by omega)) (fun r483 S484 hq485 => ?_)
        obtain ⟨z486, rfl, h487, h488, hI489, hF490, hR491⟩ := hq485
        have e492 := N23x.fr e_N23 hF490 hR491 rfl rfl rfl
        have e493 := CRx.fr e_CR hF490 rfl rfl
        have e494 := RTx.fr e_RT hF490 rfl rfl
        have e495 := wRM_rm q_0 hR491
        refine Or.inr (Or.inl ⟨rfl, ?_⟩)
        refine r_pop (i := 550) rfl rfl ?_
        refine r_goto (i := 551) (v := 654) rfl ?_
        refine r_iinc (i := 654) (u := 10) (v := 4) (s := 10) (L1 := [some ((6, 0)), some ((2, 0)), some ((2, 43)), some ((2, 81)), some (vi (i + 10)), none, none]) rfl rfl rfl rfl rfl ?_
        refine r_goto (i := 655) (v := 13) rfl ?_
        exact ih S484 hI489 e492 e493 e494 (i + 10) ⟨by omega, by omega⟩ (by exact wRM_le e495 (by omega)) (by omega)
      · refine r_swK (i := 24) (u := 1) (v := 654) (k := 13) (t := 552) rfl rfl h18 (by decide) (by decide) rfl ?_
        refine r_load (i := 552) (u := 1) (w := 2) rfl rfl rfl ?_
        refine r_load (i := 553) (u := 0) (w := 2) rfl rfl rfl ?_
        refine r_load (i := 554) (u := 4) (w := 0) rfl rfl rfl ?_
        refine r_const (i := 555) (u := 1) (z := 1) rfl rfl ?_
        refine r_iadd (i := 556) rfl ?_
        refine r_scA (i := 557) hG rfl (by omega) (by omega) fun h496 => ?_
        have h496 : Rg (sc (i + 1).toNat) := h496
        refine r_load (i := 558) (u := 0) (w := 2) rfl rfl rfl ?_
        refine r_load (i := 559) (u := 4) (w := 0) rfl rfl rfl ?_
        refine r_const (i := 560) (u := 2) (z := 2) rfl rfl ?_
        refine r_iadd (i := 561) rfl ?_
        refine r_scA (i := 562) hG rfl (by omega) (by omega) fun h497 => ?_
        have h497 : Rg (sc (i + 2).toNat) := h497
        refine r_call (i := 563) (u := 0) (v := 9) (w := 0) (b := 0) (na := 771) (C2 := xC9) (as := [(2, 0), vi (sc (i + 1).toNat), vi (sc (i + 2).toNat)]) (s := []) rfl rfl rfl rfl rfl rfl rfl (sp9 (i0 := sc (i + 1).toNat) (w0 := sc (i + 2).toNat) hI ⟨by omega, by omega⟩ ⟨by omega, by omega⟩   (by omega)) (fun r498 S499 hq500 => ?_)
        obtain ⟨z501, rfl, h502, rfl⟩ := hq500
        refine Or.inr (Or.inl ⟨rfl, ?_⟩)
        refine r_pop2 (i := 564) rfl rfl ?_
        refine r_load (i := 565) (u := 2) (w := 2) rfl rfl rfl ?_
        refine r_load (i := 566) (u := 0) (w := 2) rfl rfl rfl ?_
        refine r_load (i := 567) (u := 4) (w := 0) rfl rfl rfl ?_
        refine r_const (i := 568) (u := 1) (z := 1) rfl rfl ?_
        refine r_iadd (i := 569) rfl ?_
        refine r_scA (i := 570) hG rfl (by omega) (by omega) fun h503 => ?_
        have h503 : Rg (sc (i + 1).toNat) := h503
        refine r_load (i := 571) (u := 0) (w := 2) rfl rfl rfl ?_
        refine r_load (i := 572) (u := 4) (w := 0) rfl rfl rfl ?_
        refine r_const (i := 573) (u := 2) (z := 2) rfl rfl ?_
        refine r_iadd (i := 574) rfl ?_
        refine r_scA (i := 575) hG rfl (by omega) (by omega) fun h504 => ?_
        have h504 : Rg (sc (i + 2).toNat) := h504
        refine r_call (i := 576) (u := 11) (v := 205) (w := 0) (b := 0) (na := 771) (C2 := xC205) (as := [(2, 43), vi (sc (i + 1).toNat), vi (sc (i + 2).toNat)]) (s := []) rfl rfl rfl rfl rfl rfl rfl (sp205 (i0 := sc (i + 1).toNat) (w0 := sc (i + 2).toNat) hI ⟨by omega, by omega⟩ ⟨by omega, by omega⟩   (by omega)) (fun r505 S506 hq507 => ?_)
        obtain ⟨z508, rfl, h509, hI510, hF511, hR512⟩ := hq507
        have e513 := N23x.fr e_N23 hF511 hR512 rfl rfl rfl
        have e514 := CRx.fr e_CR hF511 rfl rfl
        have e515 := RTx.fr e_RT hF511 rfl rfl
        have e516 := wRM_rm q_0 hR512
        refine Or.inr (Or.inl ⟨rfl, ?_⟩)
        refine r_pop2 (i := 577) rfl rfl ?_
        refine r_goto (i := 578) (v := 654) rfl ?_
        refine r_iinc (i := 654) (u := 10) (v := 4) (s := 10) (L1 := [some ((6, 0)), some ((2, 0)), some ((2, 43)), some ((2, 81)), some (vi (i + 10)), none, none]) rfl rfl rfl rfl rfl ?_
        refine r_goto (i := 655) (v := 13) rfl ?_
        exact ih S506 hI510 e513 e514 e515 (i + 10) ⟨by omega, by omega⟩ (by exact wRM_le e516 (by omega)) (by omega)
      · refine r_swK (i := 24) (u := 1) (v := 654) (k := 14) (t := 579) rfl rfl h19 (by decide) (by decide) rfl ?_
        refine r_load (i := 579) (u := 1) (w := 2) rfl rfl rfl ?_
        refine r_call (i := 580) (u := 0) (v := 17) (w := 0) (b := 0) (na := 257) (C2 := xC17) (as := [(2, 0)]) (s := []) rfl rfl rfl rfl rfl rfl rfl (sp17  hI    (by omega)) (fun r517 S518 hq519 => ?_)
        obtain ⟨z520, rfl, h521, h522, rfl⟩ := hq519
        refine Or.inr (Or.inl ⟨rfl, ?_⟩)
        refine r_pop (i := 581) rfl rfl ?_
        refine r_load (i := 582) (u := 2) (w := 2) rfl rfl rfl ?_
        refine r_call (i := 583) (u := 11) (v := 242) (w := 0) (b := 0) (na := 257) (C2 := xC242) (as := [(2, 43)]) (s := []) rfl rfl rfl rfl rfl rfl rfl (sp242  hI    (by omega)) (fun r523 S524 hq525 => ?_)
        obtain ⟨z526, rfl, h527, h528, hI529, hF530, hR531⟩ := hq525
        have e532 := N23x.fr e_N23 hF530 hR531 rfl rfl rfl
        have e533 := CRx.fr e_CR hF530 rfl rfl
        have e534 := RTx.fr e_RT hF530 rfl rfl
        have e535 := wRM_rm q_0 hR531
        refine Or.inr (Or.inl ⟨rfl, ?_⟩)
        refine r_pop (i := 584) rfl rfl ?_
        refine r_goto (i := 585) (v := 654) rfl ?_
        refine r_iinc (i := 654) (u := 10) (v := 4) (s := 10) (L1 := [some ((6, 0)), some ((2, 0)), some ((2, 43)), some ((2, 81)), some (vi (i + 10)), none, none]) rfl rfl rfl rfl rfl ?_
        refine r_goto (i := 655) (v := 13) rfl ?_
        exact ih S524 hI529 e532 e533 e534 (i + 10) ⟨by omega, by omega⟩ (by exact wRM_le e535 (by omega)) (by omega)
      · refine r_swK (i := 24) (u := 1) (v := 654) (k := 15) (t := 586) rfl rfl h20 (by decide) (by decide) rfl ?_
        refine r_load (i := 586) (u := 1) (w := 2) rfl rfl rfl ?_
        refine r_load (i := 587) (u := 0) (w := 2) rfl rfl rfl ?_
        refine r_load (i := 588) (u := 4) (w := 0) rfl rfl rfl ?_
        refine r_const (i := 589) (u := 1) (z := 1) rfl rfl ?_
        refine r_iadd (i := 590) rfl ?_
        refine r_scA (i := 591) hG rfl (by omega) (by omega) fun h536 => ?_
        have h536 : Rg (sc (i + 1).toNat) := h536
        refine r_call (i := 592) (u := 0) (v := 4) (w := 0) (b := 0) (na := 514) (C2 := xC4) (as := [(2, 0), vi (sc (i + 1).toNat)]) (s := []) rfl rfl rfl rfl rfl rfl rfl (sp4 (k := sc (i + 1).toNat) hI ⟨by omega, by omega⟩   (by omega)) (fun r537 S538 hq539 => ?_)
        obtain ⟨z540, rfl, h541, h542, rfl⟩ := hq539
        refine Or.inr (Or.inl ⟨rfl, ?_⟩)
        refine r_pop (i := 593) rfl rfl ?_
        refine r_load (i := 594) (u := 2) (w := 2) rfl rfl rfl ?_
        refine r_load (i := 595) (u := 0) (w := 2) rfl rfl rfl ?_
        refine r_load (i := 596) (u := 4) (w := 0) rfl rfl rfl ?_
        refine r_const (i := 597) (u := 1) (z := 1) rfl rfl ?_
        refine r_iadd (i := 598) rfl ?_
        refine r_scA (i := 599) hG rfl (by omega) (by omega) fun h543 => ?_
        have h543 : Rg (sc (i + 1).toNat) := h543
        refine r_call (i := 600) (u := 11) (v := 187) (w := 0) (b := 0) (na := 514) (C2 := xC187) (as := [(2, 43), vi (sc (i + 1).toNat)]) (s := []) rfl rfl rfl rfl rfl rfl rfl (sp187 (k := sc (i + 1).toNat) hI ⟨by omega, by omega⟩   (by omega)) (fun r544 S545 hq546 => ?_)
        obtain ⟨z547, rfl, h548, h549, hI550, hF551, hR552⟩ := hq546
        have e553 := N23x.fr e_N23 hF551 hR552 rfl rfl rfl
        have e554 := CRx.fr e_CR hF551 rfl rfl
        have e555 := RTx.fr e_RT hF551 rfl rfl
        have e556 := wRM_rm q_0 hR552
        refine Or.inr (Or.inl ⟨rfl, ?_⟩)
        refine r_pop (i := 601) rfl rfl ?_
        refine r_goto (i := 602) (v := 654) rfl ?_
        refine r_iinc (i := 654) (u := 10) (v := 4) (s := 10) (L1 := [some ((6, 0)), some ((2, 0)), some ((2, 43)), some ((2, 81)), some (vi (i + 10)), none, none]) rfl rfl rfl rfl rfl ?_
        refine r_goto (i := 655) (v := 13) rfl ?_
        exact ih S545 hI550 e553 e554 e555 (i + 10) ⟨by omega, by omega⟩ (by exact wRM_le e556 (by omega)) (by omega)
      · refine r_swK (i := 24) (u := 1) (v := 654) (k := 16) (t := 603) rfl rfl h21 (by decide) (by decide) rfl ?_
        refine r_load (i := 603) (u := 1) (w := 2) rfl rfl rfl ?_
        refine r_load (i := 604) (u := 0) (w := 2) rfl rfl rfl ?_
        refine r_load (i := 605) (u := 4) (w := 0) rfl rfl rfl ?_
        refine r_const (i := 606) (u := 1) (z := 1) rfl rfl ?_
        refine r_iadd (i := 607) rfl ?_
        refine r_scA (i := 608) hG rfl (by omega) (by omega) fun h557 => ?_
        have h557 : Rg (sc (i + 1).toNat) := h557
        refine r_load (i := 609) (u := 0) (w := 2) rfl rfl rfl ?_
        refine r_load (i := 610) (u := 4) (w := 0) rfl rfl rfl ?_
        refine r_const (i := 611) (u := 2) (z := 2) rfl rfl ?_
        refine r_iadd (i := 612) rfl ?_
        refine r_scA (i := 613) hG rfl (by omega) (by omega) fun h558 => ?_
        have h558 : Rg (sc (i + 2).toNat) := h558
        refine r_call (i := 614) (u := 0) (v := 6) (w := 0) (b := 0) (na := 771) (C2 := xC6) (as := [(2, 0), vi (sc (i + 1).toNat), vi (sc (i + 2).toNat)]) (s := []) rfl rfl rfl rfl rfl rfl rfl (sp6 (k := sc (i + 1).toNat) (b := sc (i + 2).toNat) hI ⟨by omega, by omega⟩ ⟨by omega, by omega⟩   (by omega)) (fun r559 S560 hq561 => ?_)
        obtain ⟨z562, rfl, h563, h564, hI565, hF566, hR567⟩ := hq561
        have e568 := N23x.fr e_N23 hF566 hR567 rfl rfl rfl
        have e569 := CRx.fr e_CR hF566 rfl rfl
        have e570 := RTx.fr e_RT hF566 rfl rfl
        have e571 := wRM_rm q_0 hR567
        refine Or.inr (Or.inl ⟨rfl, ?_⟩)
        refine r_pop (i := 615) rfl rfl ?_
        refine r_load (i := 616) (u := 2) (w := 2) rfl rfl rfl ?_
        refine r_load (i := 617) (u := 0) (w := 2) rfl rfl rfl ?_
        refine r_load (i := 618) (u := 4) (w := 0) rfl rfl rfl ?_
        refine r_const (i := 619) (u := 1) (z := 1) rfl rfl ?_
        refine r_iadd (i := 620) rfl ?_
        refine r_scA (i := 621) hG rfl (by omega) (by omega) fun h572 => ?_
        have h572 : Rg (sc (i + 1).toNat) := h572
        refine r_load (i := 622) (u := 0) (w := 2) rfl rfl rfl ?_
        refine r_load (i := 623) (u := 4) (w := 0) rfl rfl rfl ?_
        refine r_const (i := 624) (u := 2) (z := 2) rfl rfl ?_
        refine r_iadd (i := 625) rfl ?_
        refine r_scA (i := 626) hG rfl (by omega) (by omega) fun h573 => ?_
        have h573 : Rg (sc (i + 2).toNat) := h573
        refine r_call (i := 627) (u := 11) (v := 191) (w := 0) (b := 0) (na := 771) (C2 := xC191) (as := [(2, 43), vi (sc (i + 1).toNat), vi (sc (i + 2).toNat)]) (s := []) rfl rfl rfl rfl rfl rfl rfl (sp191 (k := sc (i + 1).toNat) (b := sc (i + 2).toNat) hI565 ⟨by omega, by omega⟩ ⟨by omega, by omega⟩   (by omega)) (fun r574 S575 hq576 => ?_)
        obtain ⟨z577, rfl, h578, h579, hI580, hF581, hR582⟩ := hq576
        have e583 := N23x.fr e568 hF581 hR582 rfl rfl rfl
        have e584 := CRx.fr e569 hF581 rfl rfl
        have e585 := RTx.fr e570 hF581 rfl rfl
        have e586 := wRM_rm e571 hR582
        refine Or.inr (Or.inl ⟨rfl, ?_⟩)
        refine r_pop (i := 628) rfl rfl ?_
        refine r_goto (i := 629) (v := 654) rfl ?_
        refine r_iinc (i := 654) (u := 10) (v := 4) (s := 10) (L1 := [some ((6, 0)), some ((2, 0)), some ((2, 43)), some ((2, 81)), some (vi (i + 10)), none, none]) rfl rfl rfl rfl rfl ?_
        refine r_goto (i := 655) (v := 13) rfl ?_
        exact ih S575 hI580 e583 e584 e585 (i + 10) ⟨by omega, by omega⟩ (by exact wRM_le e586 (by omega)) (by omega)
      · refine r_swK (i := 24) (u := 1) (v := 654) (k := 17) (t := 630) rfl rfl h22 (by decide) (by decide) rfl ?_
        refine r_load (i := 630) (u := 1) (w := 2) rfl rfl rfl ?_
        refine r_load (i := 631) (u := 0) (w := 2) rfl rfl rfl ?_
        refine r_load (i := 632) (u := 4) (w := 0) rfl rfl rfl ?_
        refine r_const (i := 633) (u := 1) (z := 1) rfl rfl ?_
        refine r_iadd (i := 634) rfl ?_
        refine r_scA (i := 635) hG rfl (by omega) (by omega) fun h587 => ?_
        have h587 : Rg (sc (i + 1).toNat) := h587
        refine r_call (i := 636) (u := 0) (v := 7) (w := 0) (b := 0) (na := 514) (C2 := xC7) (as := [(2, 0), vi (sc (i + 1).toNat)]) (s := []) rfl rfl rfl rfl rfl rfl rfl (sp7 (k := sc (i + 1).toNat) hI ⟨by omega, by omega⟩   (by omega)) (fun r588 S589 hq590 => ?_)
        obtain ⟨z591, rfl, h592, h593, hI594, hF595, hR596⟩ := hq590
        have e597 := N23x.fr e_N23 hF595 hR596 rfl rfl rfl
        have e598 := CRx.fr e_CR hF595 rfl rfl
        have e599 := RTx.fr e_RT hF595 rfl rfl
        have e600 := wRM_rm q_0 hR596
        refine Or.inr (Or.inl ⟨rfl, ?_⟩)
        refine r_pop (i := 637) rfl rfl ?_
        refine r_load (i := 638) (u := 2) (w := 2) rfl rfl rfl ?_
        refine r_load (i := 639) (u := 0) (w := 2) rfl rfl rfl ?_
        refine r_load (i := 640) (u := 4) (w := 0) rfl rfl rfl ?_
        refine r_const (i := 641) (u := 1) (z := 1) rfl rfl ?_
        refine r_iadd (i := 642) rfl ?_
        refine r_scA (i := 643) hG rfl (by omega) (by omega) fun h601 => ?_
        have h601 : Rg (sc (i + 1).toNat) := h601
        refine r_call (i := 644) (u := 11) (v := 197) (w := 0) (b := 0) (na := 514) (C2 := xC197) (as := [(2, 43), vi (sc (i + 1).toNat)]) (s := []) rfl rfl rfl rfl rfl rfl rfl (sp197 (k := sc (i + 1).toNat) hI594 ⟨by omega, by omega⟩   (by omega)) (fun r602 S603 hq604 => ?_)
        obtain ⟨z605, rfl, h606, h607, hI608, hF609, hR610⟩ := hq604
        have e611 := N23x.fr e597 hF609 hR610 rfl rfl rfl
        have e612 := CRx.fr e598 hF609 rfl rfl
        have e613 := RTx.fr e599 hF609 rfl rfl
        have e614 := wRM_rm e600 hR610
        refine Or.inr (Or.inl ⟨rfl, ?_⟩)
        refine r_pop (i := 645) rfl rfl ?_
        refine r_goto (i := 646) (v := 654) rfl ?_
        refine r_iinc (i := 654) (u := 10) (v := 4) (s := 10) (L1 := [some ((6, 0)), some ((2, 0)), some ((2, 43)), some ((2, 81)), some (vi (i + 10)), none, none]) rfl rfl rfl rfl rfl ?_
        refine r_goto (i := 655) (v := 13) rfl ?_
        exact ih S603 hI608 e611 e612 e613 (i + 10) ⟨by omega, by omega⟩ (by exact wRM_le e614 (by omega)) (by omega)
      · refine r_swK (i := 24) (u := 1) (v := 654) (k := 18) (t := 647) rfl rfl h23 (by decide) (by decide) rfl ?_
        refine r_load (i := 647) (u := 1) (w := 2) rfl rfl rfl ?_
        refine r_call (i := 648) (u := 0) (v := 15) (w := 0) (b := 0) (na := 257) (C2 := xC15) (as := [(2, 0)]) (s := []) rfl rfl rfl rfl rfl rfl rfl (sp15  hI    (by omega)) (fun r615 S616 hq617 => ?_)
        obtain ⟨z618, rfl, h619, h620, hI621, hF622, hR623⟩ := hq617
        have e624 := N23x.fr e_N23 hF622 hR623 rfl rfl rfl
        have e625 := CRx.fr e_CR hF622 rfl rfl
        have e626 := RTx.fr e_RT hF622 rfl rfl
        have e627 := wRM_rm q_0 hR623
        refine Or.inr (Or.inl ⟨rfl, ?_⟩)
        refine r_pop (i := 649) rfl rfl ?_
        refine r_load (i := 650) (u := 2) (w := 2) rfl rfl rfl ?_
        refine r_call (i := 651) (u := 11) (v := 235) (w := 0) (b := 0) (na := 1025) (C2 := xC235) (as := [(2, 43)]) (s := []) rfl rfl rfl rfl rfl rfl rfl (sp235  hI621    (by omega)) (fun r628 S629 hq630 => ?_)
        obtain ⟨z631, rfl, h632, h633, hI634, hF635, hR636⟩ := hq630
        have e637 := N23x.fr e624 hF635 hR636 rfl rfl rfl
        have e638 := CRx.fr e625 hF635 rfl rfl
        have e639 := RTx.fr e626 hF635 rfl rfl
        have e640 := wRM_rm e627 hR636
        refine Or.inr (Or.inl ⟨rfl, ?_⟩)
        refine r_pop (i := 652) rfl rfl ?_
        refine r_goto (i := 653) (v := 654) rfl ?_
        refine r_iinc (i := 654) (u := 10) (v := 4) (s := 10) (L1 := [some ((6, 0)), some ((2, 0)), some ((2, 43)), some ((2, 81)), some (vi (i + 10)), none, none]) rfl rfl rfl rfl rfl ?_
        refine r_goto (i := 655) (v := 13) rfl ?_
        exact ih S629 hI634 e637 e638 e639 (i + 10) ⟨by omega, by omega⟩ (by exact wRM_le e640 (by omega)) (by omega)
      · refine r_swK (i := 24) (u := 1) (v := 654) (k := 19) (t := 654) rfl rfl h24 (by decide) (by decide) rfl ?_
        refine r_iinc (i := 654) (u := 10) (v := 4) (s := 10) (L1 := [some ((6, 0)), some ((2, 0)), some ((2, 43)), some ((2, 81)), some (vi (i + 10)), none, none]) rfl rfl rfl rfl rfl ?_
        refine r_goto (i := 655) (v := 13) rfl ?_
        exact ih S hI e_N23 e_CR e_RT (i + 10) ⟨by omega, by omega⟩ (by exact wRM_le q_0 (by omega)) (by omega)
      · refine r_swK (i := 24) (u := 1) (v := 654) (k := 20) (t := 654) rfl rfl h25 (by decide) (by decide) rfl ?_
        refine r_iinc (i := 654) (u := 10) (v := 4) (s := 10) (L1 := [some ((6, 0)), some ((2, 0)), some ((2, 43)), some ((2, 81)), some (vi (i + 10)), none, none]) rfl rfl rfl rfl rfl ?_
        refine r_goto (i := 655) (v := 13) rfl ?_
        exact ih S hI e_N23 e_CR e_RT (i + 10) ⟨by omega, by omega⟩ (by exact wRM_le q_0 (by omega)) (by omega)
      · refine r_swK (i := 24) (u := 1) (v := 654) (k := 21) (t := 654) rfl rfl h26 (by decide) (by decide) rfl ?_
        refine r_iinc (i := 654) (u := 10) (v := 4) (s := 10) (L1 := [some ((6, 0)), some ((2, 0)), some ((2, 43)), some ((2, 81)), some (vi (i + 10)), none, none]) rfl rfl rfl rfl rfl ?_
        refine r_goto (i := 655) (v := 13) rfl ?_
        exact ih S hI e_N23 e_CR e_RT (i + 10) ⟨by omega, by omega⟩ (by exact wRM_le q_0 (by omega)) (by omega)
      · refine r_swK (i := 24) (u := 1) (v := 654) (k := 22) (t := 654) rfl rfl h27 (by decide) (by decide) rfl ?_
        refine r_iinc (i := 654) (u := 10) (v := 4) (s := 10) (L1 := [some ((6, 0)), some ((2, 0)), some ((2, 43)), some ((2, 81)), some (vi (i + 10)), none, none]) rfl rfl rfl rfl rfl ?_
        refine r_goto (i := 655) (v := 13) rfl ?_
        exact ih S hI e_N23 e_CR e_RT (i + 10) ⟨by omega, by omega⟩ (by exact wRM_le q_0 (by omega)) (by omega)
      · refine r_swK (i := 24) (u := 1) (v := 654) (k := 23) (t := 654) rfl rfl h28 (by decide) (by decide) rfl ?_
        refine r_iinc (i := 654) (u := 10) (v := 4) (s := 10) (L1 := [some ((6, 0)), some ((2, 0)), some ((2, 43)), some ((2, 81)), some (vi (i + 10)), none, none]) rfl rfl rfl rfl rfl ?_
        refine r_goto (i := 655) (v := 13) rfl ?_
        exact ih S hI e_N23 e_CR e_RT (i + 10) ⟨by omega, by omega⟩ (by exact wRM_le q_0 (by omega)) (by omega)
      · refine r_swK (i := 24) (u := 1) (v := 654) (k := 24) (t := 654) rfl rfl h29 (by decide) (by decide) rfl ?_
        refine r_iinc (i := 654) (u := 10) (v := 4) (s := 10) (L1 := [some ((6, 0)), some ((2, 0)), some ((2, 43)), some ((2, 81)), some (vi (i + 10)), none, none]) rfl rfl rfl rfl rfl ?_
        refine r_goto (i := 655) (v := 13) rfl ?_
        exact ih S hI e_N23 e_CR e_RT (i + 10) ⟨by omega, by omega⟩ (by exact wRM_le q_0 (by omega)) (by omega)
      · refine r_swK (i := 24) (u := 1) (v := 654) (k := 25) (t := 654) rfl rfl h30 (by decide) (by decide) rfl ?_
        refine r_iinc (i := 654) (u := 10) (v := 4) (s := 10) (L1 := [some ((6, 0)), some ((2, 0)), some ((2, 43)), some ((2, 81)), some (vi (i + 10)), none, none]) rfl rfl rfl rfl rfl ?_
        refine r_goto (i := 655) (v := 13) rfl ?_
        exact ih S hI e_N23 e_CR e_RT (i + 10) ⟨by omega, by omega⟩ (by exact wRM_le q_0 (by omega)) (by omega)
      · refine r_swK (i := 24) (u := 1) (v := 654) (k := 26) (t := 654) rfl rfl h31 (by decide) (by decide) rfl ?_
        refine r_iinc (i := 654) (u := 10) (v := 4) (s := 10) (L1 := [some ((6, 0)), some ((2, 0)), some ((2, 43)), some ((2, 81)), some (vi (i + 10)), none, none]) rfl rfl rfl rfl rfl ?_
        refine r_goto (i := 655) (v := 13) rfl ?_
        exact ih S hI e_N23 e_CR e_RT (i + 10) ⟨by omega, by omega⟩ (by exact wRM_le q_0 (by omega)) (by omega)
      · refine r_swK (i := 24) (u := 1) (v := 654) (k := 27) (t := 654) rfl rfl h32 (by decide) (by decide) rfl ?_
        refine r_iinc (i := 654) (u := 10) (v := 4) (s := 10) (L1 := [some ((6, 0)), some ((2, 0)), some ((2, 43)), some ((2, 81)), some (vi (i + 10)), none, none]) rfl rfl rfl rfl rfl ?_
        refine r_goto (i := 655) (v := 13) rfl ?_
        exact ih S hI e_N23 e_CR e_RT (i + 10) ⟨by omega, by omega⟩ (by exact wRM_le q_0 (by omega)) (by omega)
      · refine r_swK (i := 24) (u := 1) (v := 654) (k := 28) (t := 654) rfl rfl h33 (by decide) (by decide) rfl ?_
        refine r_iinc (i := 654) (u := 10) (v := 4) (s := 10) (L1 := [some ((6, 0)), some ((2, 0)), some ((2, 43)), some ((2, 81)), some (vi (i + 10)), none, none]) rfl rfl rfl rfl rfl ?_
        refine r_goto (i := 655) (v := 13) rfl ?_
        exact ih S hI e_N23 e_CR e_RT (i + 10) ⟨by omega, by omega⟩ (by exact wRM_le q_0 (by omega)) (by omega)
      · refine r_swK (i := 24) (u := 1) (v := 654) (k := 29) (t := 654) rfl rfl h34 (by decide) (by decide) rfl ?_
        refine r_iinc (i := 654) (u := 10) (v := 4) (s := 10) (L1 := [some ((6, 0)), some ((2, 0)), some ((2, 43)), some ((2, 81)), some (vi (i + 10)), none, none]) rfl rfl rfl rfl rfl ?_
        refine r_goto (i := 655) (v := 13) rfl ?_
        exact ih S hI e_N23 e_CR e_RT (i + 10) ⟨by omega, by omega⟩ (by exact wRM_le q_0 (by omega)) (by omega)
      · refine r_swK (i := 24) (u := 1) (v := 654) (k := 30) (t := 654) rfl rfl h35 (by decide) (by decide) rfl ?_
        refine r_iinc (i := 654) (u := 10) (v := 4) (s := 10) (L1 := [some ((6, 0)), some ((2, 0)), some ((2, 43)), some ((2, 81)), some (vi (i + 10)), none, none]) rfl rfl rfl rfl rfl ?_
        refine r_goto (i := 655) (v := 13) rfl ?_
        exact ih S hI e_N23 e_CR e_RT (i + 10) ⟨by omega, by omega⟩ (by exact wRM_le q_0 (by omega)) (by omega)
      · refine r_swK (i := 24) (u := 1) (v := 654) (k := 31) (t := 654) rfl rfl h36 (by decide) (by decide) rfl ?_
        refine r_iinc (i := 654) (u := 10) (v := 4) (s := 10) (L1 := [some ((6, 0)), some ((2, 0)), some ((2, 43)), some ((2, 81)), some (vi (i + 10)), none, none]) rfl rfl rfl rfl rfl ?_
        refine r_goto (i := 655) (v := 13) rfl ?_
        exact ih S hI e_N23 e_CR e_RT (i + 10) ⟨by omega, by omega⟩ (by exact wRM_le q_0 (by omega)) (by omega)
end XNC
