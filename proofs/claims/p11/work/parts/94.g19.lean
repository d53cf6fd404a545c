set_option linter.unusedVariables false
set_option maxRecDepth 4000
noncomputable section XNC
/-- ProxyForgeLaw.type -/
theorem sp179 {G : xk} {S : yS} {d : Nat} (hI : yI S) {kR : Int} {p0 : Int} (h_p0 : 0 ≤ p0 ∧ p0 ≤ 1) {p1 : Int} (h_p1 : -2147483648 ≤ p1 ∧ p1 ≤ 2147483647) {p2 : Int} (h_p2 : -2147483648 ≤ p2 ∧ p2 ≤ 2147483647) {p3 : Int} (h_p3 : -2147483648 ≤ p3 ∧ p3 ≤ 2147483647) (p_0 : wRM (kR + 1) S) (p_1 : 0 ≤ kR) (e_N23 : N23 S) (e_CR : CR S) (hd : 7 ≤ d) : yT xPr G LY xC179 0 [some ((2, 0)), some (vi p0), some (vi p1), some (vi p2), some (vi p3), some ((2, 81))] [] S d (fun r S' => ∃ z : Int, r = (1, vi z) ∧ 0 ≤ z ∧ z ≤ 2 ∧ wRM kR S' ∧ hTy S S' p0 p1 p2 p3 z ∧ (z = 0 → c6T S S' p3) ∧ N23 S' ∧ CR S' ∧ yI S' ∧ yFr [(1, 7)] [2, 3, 4, 5, 6, 81] S S') := by
  refine yT_pad 1 ?_
  show yT xPr G LY xC179 0 [some ((2, 0)), some (vi p0), some (vi p1), some (vi p2), some (vi p3), some ((2, 81)), none] [] S d _
  obtain ⟨d, rfl⟩ : ∃ q, d = q + 1 := ⟨d - 1, by omega⟩
  have hF : yFr [(1, 7)] [2, 3, 4, 5, 6, 81] S S := yFr.refl S
  have e_RM := p_0
  refine r_load (i := 0) (u := 5) (w := 2) rfl rfl rfl ?_
  refine r_const (i := 1) (u := 0) (z := 0) rfl rfl ?_
  refine r_load (i := 2) (u := 0) (w := 2) rfl rfl rfl ?_
  refine r_load (i := 3) (u := 1) (w := 0) rfl rfl rfl ?_
  refine r_load (i := 4) (u := 2) (w := 0) rfl rfl rfl ?_
  refine r_load (i := 5) (u := 3) (w := 0) rfl rfl rfl ?_
  refine r_load (i := 6) (u := 4) (w := 0) rfl rfl rfl ?_
  have h1 := hI.f tf1_7
  refine r_call (i := 7) (u := 3940705509310464) (v := 21) (w := 11) (b := 0) (na := 1285) (C2 := xC21) (as := [(2, 0), vi p0, vi p1, vi p2, vi p3]) (s := [vi 0, (2, 81)]) rfl rfl rfl rfl rfl rfl rfl (sp21 (b := p0) (fl := p1) (p := p2) (up := p3) hI ⟨by omega, by omega⟩ ⟨by omega, by omega⟩ ⟨by omega, by omega⟩ ⟨by omega, by omega⟩   (by omega)) (fun r2 S3 hq4 => ?_)
  rcases hq4 with hq5 | ⟨a7, c9, rfl, hc6, rfl⟩
  · obtain ⟨z8, rfl, h9, h10, tc11, tl12, tz13, ct14, c6t15, hI16, hF17, hR18⟩ := hq5
    have hF19 := hF.trans hF17 rfl rfl
    have e20 := N23x.fr e_N23 hF17 hR18 rfl rfl rfl
    have e21 := CRx.fr e_CR hF17 rfl rfl
    have e22 := wRM_rm e_RM hR18
    refine Or.inr (Or.inl ⟨rfl, ?_⟩)
    refine r_i2l (i := 8) rfl ⟨by omega, by omega⟩ ?_
    refine r_lastore (i := 9) rfl ly81 (by decide) (by omega) (by omega) ⟨by omega, by omega⟩ ?_
    have hI24 := hI16.seta0 (b := 81) (j := (0 : Int).toNat) (z := z8) rfl rfl
    have hF26 := hF19.seta (b := 81) (j := (0 : Int).toNat) (z := z8) rfl
    have e28 := N23x.seta e20 (b := 81) (j := (0 : Int).toNat) (z := z8) rfl
    have e29 := CRx.seta e21 (b := 81) (j := (0 : Int).toNat) (z := z8) rfl
    have e30 := wRM_a e22 (b := 81) (j := (0 : Int).toNat) (z := z8)
    refine yT_gen (fun S23 hS25 => ?_)
    rw [hS25] at hI24 hF26  e28 e29 e30
    refine r_goto (i := 10) (v := 17) rfl ?_
    refine r_const (i := 17) (u := 0) (z := 0) rfl rfl ?_
    exact r_retI (i := 18) rfl ⟨0, rfl, by omega, by omega, (by exact wRM_le e30 (by omega)), (by exact Or.inl ⟨rfl, tc11, tl12, by first | (subst hS25; exact ysa_eq.trans tz13) | (subst_vars; rfl), by subst hS25; exact cTy81 ct14⟩), (by intro _; subst hS25; exact c6t15), e28, e29, hI24, hF26⟩
  · obtain ⟨hI31, rm32⟩ := wRM_cost e_RM hI (by omega)
    have e33 : N23 (ycost S 1 6) := e_N23
    have e34 : CR (ycost S 1 6) := e_CR
    have hF35 : yFr [(1, 7)] [2, 3, 4, 5, 6, 81] S (ycost S 1 6) := hF
    rcases hc6 with ⟨rfl, xphc6⟩ | ⟨rfl, xphc6⟩
    · refine Or.inr (Or.inr (Or.inl ⟨rfl, rfl, by decide, ?_⟩))
      refine r_store (i := 11) (u := 6) (w := 2) (L1 := [some ((2, 0)), some (vi p0), some (vi p1), some (vi p2), some (vi p3), some ((2, 81)), some ((2, a7))]) rfl rfl rfl rfl ?_
      refine r_const (i := 12) (u := 1) (z := 1) rfl rfl ?_
      exact r_retI (i := 13) rfl ⟨1, rfl, by omega, by omega, (by exact wRM_le rm32 (by omega)), (by first | exact Or.inr (Or.inl ⟨rfl, xphc6, rfl, rfl⟩) | exact Or.inr (Or.inr ⟨rfl, xphc6.1, xphc6.2, rfl, rfl⟩)), (by intro hz; exact absurd hz (by omega)), e33, e34, hI31, hF35⟩
    · refine Or.inr (Or.inr (Or.inr ⟨rfl, (show (13 : Nat) ≠ 3940705509310464 / 65536 % 65536 by decide), rfl, by decide, ?_⟩))
      refine r_store (i := 14) (u := 6) (w := 2) (L1 := [some ((2, 0)), some (vi p0), some (vi p1), some (vi p2), some (vi p3), some ((2, 81)), some ((2, a7))]) rfl rfl rfl rfl ?_
      refine r_const (i := 15) (u := 2) (z := 2) rfl rfl ?_
      exact r_retI (i := 16) rfl ⟨2, rfl, by omega, by omega, (by exact wRM_le rm32 (by omega)), (by first | exact Or.inr (Or.inl ⟨rfl, xphc6, rfl, rfl⟩) | exact Or.inr (Or.inr ⟨rfl, xphc6.1, xphc6.2, rfl, rfl⟩)), (by intro hz; exact absurd hz (by omega)), e33, e34, hI31, hF35⟩
/-- ProxyForgeLaw.implement -/
theorem sp176 {G : xk} {S : yS} {d : Nat} (hI : yI S) {kR : Int} {p0 : Int} (h_p0 : -2147483648 ≤ p0 ∧ p0 ≤ 2147483647) {p1 : Int} (h_p1 : -2147483648 ≤ p1 ∧ p1 ≤ 2147483647) (p_0 : wRM (kR + 1) S) (p_1 : 0 ≤ kR) (e_N23 : N23 S) (e_CR : CR S) (hd : 7 ≤ d) : yT xPr G LY xC176 0 [some ((2, 0)), some (vi p0), some (vi p1)] [] S d (fun r S' => ∃ z : Int, r = (1, vi z) ∧ 0 ≤ z ∧ z ≤ 2 ∧ wRM kR S' ∧ hIm S S' p0 p1 z ∧ N23 S' ∧ CR S' ∧ yI S' ∧ yFr [] [6, 7, 8] S S') := by
  refine yT_pad 1 ?_
  show yT xPr G LY xC176 0 [some ((2, 0)), some (vi p0), some (vi p1), none] [] S d _
  obtain ⟨d, rfl⟩ : ∃ q, d = q + 1 := ⟨d - 1, by omega⟩
  have hF : yFr [] [6, 7, 8] S S := yFr.refl S
  have e_RM := p_0
  refine r_load (i := 0) (u := 0) (w := 2) rfl rfl rfl ?_
  refine r_load (i := 1) (u := 1) (w := 0) rfl rfl rfl ?_
  refine r_load (i := 2) (u := 2) (w := 0) rfl rfl rfl ?_
  refine r_call (i := 3) (u := 786432) (v := 10) (w := 5) (b := 0) (na := 771) (C2 := xC10) (as := [(2, 0), vi p0, vi p1]) (s := []) rfl rfl rfl rfl rfl rfl rfl (sp10 (t := p0) (f := p1) hI ⟨by omega, by omega⟩ ⟨by omega, by omega⟩   (by omega)) (fun r1 S2 hq3 => ?_)
  rcases hq3 with hq4 | ⟨a6, c9, rfl, hc5, rfl⟩
  · obtain ⟨rfl, ic7, ci28, hI9, hF10, hR11⟩ := hq4
    have hF12 := hF.trans hF10 rfl rfl
    have e13 := N23x.fr e_N23 hF10 hR11 rfl rfl rfl
    have e14 := CRx.fr e_CR hF10 rfl rfl
    have e15 := wRM_rm e_RM hR11
    refine Or.inl ⟨rfl, ?_⟩
    refine r_goto (i := 4) (v := 8) rfl ?_
    refine r_const (i := 8) (u := 0) (z := 0) rfl rfl ?_
    exact r_retI (i := 9) rfl ⟨0, rfl, by omega, by omega, (by exact wRM_le e15 (by omega)), (by exact Or.inl ⟨rfl, ic7, ci28⟩), e13, e14, hI9, hF12⟩
  · obtain ⟨hI16, rm17⟩ := wRM_cost e_RM hI (by omega)
    have e18 : N23 (ycost S 1 6) := e_N23
    have e19 : CR (ycost S 1 6) := e_CR
    have hF20 : yFr [] [6, 7, 8] S (ycost S 1 6) := hF
    obtain ⟨rfl, xphc5⟩ := hc5
    · refine Or.inr (Or.inr (Or.inl ⟨rfl, rfl, by decide, ?_⟩))
      refine r_store (i := 5) (u := 3) (w := 2) (L1 := [some ((2, 0)), some (vi p0), some (vi p1), some ((2, a6))]) rfl rfl rfl rfl ?_
      refine r_const (i := 6) (u := 1) (z := 1) rfl rfl ?_
      exact r_retI (i := 7) rfl ⟨1, rfl, by omega, by omega, (by exact wRM_le rm17 (by omega)), (by exact Or.inr ⟨rfl, xphc5, rfl, rfl⟩), e18, e19, hI16, hF20⟩
/-- ProxyForgeLaw.method -/
theorem sp177 {G : xk} {S : yS} {d : Nat} (hI : yI S) {kR : Int} {p0 : Int} (h_p0 : -2147483648 ≤ p0 ∧ p0 ≤ 2147483647) {p1 : Int} (h_p1 : -2147483648 ≤ p1 ∧ p1 ≤ 2147483647) {p2 : Int} (h_p2 : -2147483648 ≤ p2 ∧ p2 ≤ 2147483647) {p3 : Int} (h_p3 : -2147483648 ≤ p3 ∧ p3 ≤ 2147483647) {p4 : Int} (h_p4 : -2147483648 ≤ p4 ∧ p4 ≤ 2147483647) (p_0 : wRM (kR + 1) S) (p_1 : 0 ≤ kR) (e_N23 : N23 S) (e_CR : CR S) (hd : 7 ≤ d) : yT xPr G LY xC177 0 [some ((2, 0)), some (vi p0), some (vi p1), some (vi p2), some (vi p3), some (vi p4), some ((2, 81))] [] S d (fun r S' => ∃ z : Int, r = (1, vi z) ∧ 0 ≤ z ∧ z ≤ 2 ∧ wRM kR S' ∧ N23 S' ∧ CR S' ∧ yI S' ∧ yFr [(9, 8)] [10, 11, 12, 13, 14, 81] S S') := by
  refine yT_pad 1 ?_
  show yT xPr G LY xC177 0 [some ((2, 0)), some (vi p0), some (vi p1), some (vi p2), some (vi p3), some (vi p4), some ((2, 81)), none] [] S d _
  obtain ⟨d, rfl⟩ : ∃ q, d = q + 1 := ⟨d - 1, by omega⟩
  have hF : yFr [(9, 8)] [10, 11, 12, 13, 14, 81] S S := yFr.refl S
  have e_RM := p_0
  refine r_load (i := 0) (u := 6) (w := 2) rfl rfl rfl ?_
  refine r_const (i := 1) (u := 0) (z := 0) rfl rfl ?_
  refine r_load (i := 2) (u := 0) (w := 2) rfl rfl rfl ?_
  refine r_load (i := 3) (u := 1) (w := 0) rfl rfl rfl ?_
  refine r_load (i := 4) (u := 2) (w := 0) rfl rfl rfl ?_
  refine r_load (i := 5) (u := 3) (w := 0) rfl rfl rfl ?_
  refine r_load (i := 6) (u := 4) (w := 0) rfl rfl rfl ?_
  refine r_load (i := 7) (u := 5) (w := 0) rfl rfl rfl ?_
  refine r_call (i := 8) (u := 4222180486021120) (v := 13) (w := 12) (b := 0) (na := 1542) (C2 := xC13) (as := [(2, 0), vi p0, vi p1, vi p2, vi p3, vi p4]) (s := [vi 0, (2, 81)]) rfl rfl rfl rfl rfl rfl rfl (sp13 (t := p0) (w0 := p1) (fl := p2) (p := p3) (b := p4) hI ⟨by omega, by omega⟩ ⟨by omega, by omega⟩ ⟨by omega, by omega⟩ ⟨by omega, by omega⟩ ⟨by omega, by omega⟩   (by omega)) (fun r1 S2 hq3 => ?_)
  rcases hq3 with hq4 | ⟨a6, c9, rfl, hc5, rfl⟩
  · obtain ⟨z7, rfl, h8, h9, hI10, hF11, hR12⟩ := hq4
    have hF13 := hF.trans hF11 rfl rfl
    have e14 := N23x.fr e_N23 hF11 hR12 rfl rfl rfl
    have e15 := CRx.fr e_CR hF11 rfl rfl
    have e16 := wRM_rm e_RM hR12
    refine Or.inr (Or.inl ⟨rfl, ?_⟩)
    refine r_i2l (i := 9) rfl ⟨by omega, by omega⟩ ?_
    refine r_lastore (i := 10) rfl ly81 (by decide) (by omega) (by omega) ⟨by omega, by omega⟩ ?_
    have hI18 := hI10.seta0 (b := 81) (j := (0 : Int).toNat) (z := z7) rfl rfl
    have hF20 := hF13.seta (b := 81) (j := (0 : Int).toNat) (z := z7) rfl
    have e22 := N23x.seta e14 (b := 81) (j := (0 : Int).toNat) (z := z7) rfl
    have e23 := CRx.seta e15 (b := 81) (j := (0 : Int).toNat) (z := z7) rfl
    have e24 := wRM_a e16 (b := 81) (j := (0 : Int).toNat) (z := z7)
    refine yT_gen (fun S17 hS19 => ?_)
    rw [hS19] at hI18 hF20  e22 e23 e24
    refine r_goto (i := 11) (v := 18) rfl ?_
    refine r_const (i := 18) (u := 0) (z := 0) rfl rfl ?_
    exact r_retI (i := 19) rfl ⟨0, rfl, by omega, by omega, (by exact wRM_le e24 (by omega)), e22, e23, hI18, hF20⟩
  · obtain ⟨hI25, rm26⟩ := wRM_cost e_RM hI (by omega)
    have e27 : N23 (ycost S 1 6) := e_N23
    have e28 : CR (ycost S 1 6) := e_CR
    have hF29 : yFr [(9, 8)] [10, 11, 12, 13, 14, 81] S (ycost S 1 6) := hF
    rcases hc5 with rfl | rfl
    · refine Or.inr (Or.inr (Or.inl ⟨rfl, rfl, by decide, ?_⟩))
      refine r_store (i := 12) (u := 7) (w := 2) (L1 := [some ((2, 0)), some (vi p0), some (vi p1), some (vi p2), some (vi p3), some (vi p4), some ((2, 81)), some ((2, a6))]) rfl rfl rfl rfl ?_
      refine r_const (i := 13) (u := 1) (z := 1) rfl rfl ?_
      exact r_retI (i := 14) rfl ⟨1, rfl, by omega, by omega, (by exact wRM_le rm26 (by omega)), e27, e28, hI25, hF29⟩
    · refine Or.inr (Or.inr (Or.inr ⟨rfl, (show (13 : Nat) ≠ 4222180486021120 / 65536 % 65536 by decide), rfl, by decide, ?_⟩))
      refine r_store (i := 15) (u := 7) (w := 2) (L1 := [some ((2, 0)), some (vi p0), some (vi p1), some (vi p2), some (vi p3), some (vi p4), some ((2, 81)), some ((2, a6))]) rfl rfl rfl rfl ?_
      refine r_const (i := 16) (u := 2) (z := 2) rfl rfl ?_
      exact r_retI (i := 17) rfl ⟨2, rfl, by omega, by omega, (by exact wRM_le rm26 (by omega)), e27, e28, hI25, hF29⟩
/-- ProxyForgeLaw.throwing -/
theorem sp178 {G : xk} {S : yS} {d : Nat} (hI : yI S) {kR : Int} {p0 : Int} (h_p0 : -2147483648 ≤ p0 ∧ p0 ≤ 2147483647) {p1 : Int} (h_p1 : -2147483648 ≤ p1 ∧ p1 ≤ 2147483647) (p_0 : wRM (kR + 1) S) (p_1 : 0 ≤ kR) (e_N23 : N23 S) (e_CR : CR S) (hd : 7 ≤ d) : yT xPr G LY xC178 0 [some ((2, 0)), some (vi p0), some (vi p1)] [] S d (fun r S' => ∃ z : Int, r = (1, vi z) ∧ 0 ≤ z ∧ z ≤ 2 ∧ wRM kR S' ∧ N23 S' ∧ CR S' ∧ yI S' ∧ yFr [] [15, 16] S S') := by
  refine yT_pad 1 ?_
  show yT xPr G LY xC178 0 [some ((2, 0)), some (vi p0), some (vi p1), none] [] S d _
  obtain ⟨d, rfl⟩ : ∃ q, d = q + 1 := ⟨d - 1, by omega⟩
  have hF : yFr [] [15, 16] S S := yFr.refl S
  have e_RM := p_0
  refine r_load (i := 0) (u := 0) (w := 2) rfl rfl rfl ?_
  refine r_load (i := 1) (u := 1) (w := 0) rfl rfl rfl ?_
  refine r_load (i := 2) (u := 2) (w := 0) rfl rfl rfl ?_
  refine r_call (i := 3) (u := 786432) (v := 20) (w := 5) (b := 0) (na := 771) (C2 := xC20) (as := [(2, 0), vi p0, vi p1]) (s := []) rfl rfl rfl rfl rfl rfl rfl (sp20 (m := p0) (t := p1) hI ⟨by omega, by omega⟩ ⟨by omega, by omega⟩   (by omega)) (fun r1 S2 hq3 => ?_)
  rcases hq3 with hq4 | ⟨a6, c9, rfl, hc5, rfl⟩
  · obtain ⟨rfl, hI7, hF8, hR9⟩ := hq4
    have hF10 := hF.trans hF8 rfl rfl
    have e11 := N23x.fr e_N23 hF8 hR9 rfl rfl rfl
    have e12 := CRx.fr e_CR hF8 rfl rfl
    have e13 := wRM_rm e_RM hR9
    refine Or.inl ⟨rfl, ?_⟩
    refine r_goto (i := 4) (v := 8) rfl ?_
    refine r_const (i := 8) (u := 0) (z := 0) rfl rfl ?_
    exact r_retI (i := 9) rfl ⟨0, rfl, by omega, by omega, (by exact wRM_le e13 (by omega)), e11, e12, hI7, hF10⟩
  · obtain ⟨hI14, rm15⟩ := wRM_cost e_RM hI (by omega)
    have e16 : N23 (ycost S 1 6) := e_N23
    have e17 : CR (ycost S 1 6) := e_CR
    have hF18 : yFr [] [15, 16] S (ycost S 1 6) := hF
    obtain rfl := hc5
    · refine Or.inr (Or.inr (Or.inl ⟨rfl, rfl, by decide, ?_⟩))
      refine r_store (i := 5) (u := 3) (w := 2) (L1 := [some ((2, 0)), some (vi p0), some (vi p1), some ((2, a6))]) rfl rfl rfl rfl ?_
      refine r_const (i := 6) (u := 1) (z := 1) rfl rfl ?_
      exact r_retI (i := 7) rfl ⟨1, rfl, by omega, by omega, (by exact wRM_le rm15 (by omega)), e16, e17, hI14, hF18⟩
/-- ProxyForgeLaw.forge -/
theorem sp175 {G : xk} {S : yS} {d : Nat} (hI : yI S) {kR : Int} {p0 : Int} (h_p0 : -2147483648 ≤ p0 ∧ p0 ≤ 2147483647) {p1 : Int} (h_p1 : -2147483648 ≤ p1 ∧ p1 ≤ 2147483647) {p2 : Int} (h_p2 : -2147483648 ≤ p2 ∧ p2 ≤ 2147483647) {p3 : Int} (h_p3 : -2147483648 ≤ p3 ∧ p3 ≤ 2147483647) (p_0 : wRM (kR + 1) S) (p_1 : 0 ≤ kR) (e_N23 : N23 S) (e_CR : CR S) (hd : 26 ≤ d) : yT xPr G LY xC175 0 [some ((2, 0)), some (vi p0), some (vi p1), some (vi p2), some (vi p3), some ((2, 81))] [] S d (fun r S' => ∃ z : Int, r = (1, vi z) ∧ 0 ≤ z ∧ z ≤ 2 ∧ wRM kR S' ∧ N23 S' ∧ CR S' ∧ yI S' ∧ yFr [(17, 6), (17, 7), (17, 8), (17, 9), (17, 10), (17, 11), (17, 12), (22, 3), (31, 1), (33, 7), (33, 8), (33, 9), (33, 10), (33, 11), (33, 12), (33, 13), (33, 14), (33, 15), (34, 1), (36, 5)] [18, 19, 20, 21, 23, 24, 25, 37, 81, 100, 101, 102, 103, 105] S S') := by
  refine yT_pad 1 ?_
  show yT xPr G LY xC175 0 [some ((2, 0)), some (vi p0), some (vi p1), some (vi p2), some (vi p3), some ((2, 81)), none] [] S d _
  obtain ⟨d, rfl⟩ : ∃ q, d = q + 1 := ⟨d - 1, by omega⟩
  have hF : yFr [(17, 6), (17, 7), (17, 8), (17, 9), (17, 10), (17, 11), (17, 12), (22, 3), (31, 1), (33, 7), (33, 8), (33, 9), (33, 10), (33, 11), (33, 12), (33, 13), (33, 14), (33, 15), (34, 1), (36, 5)] [18, 19, 20, 21, 23, 24, 25, 37, 81, 100, 101, 102, 103, 105] S S := yFr.refl S
  have e_RM := p_0
  refine r_load (i := 0) (u := 5) (w := 2) rfl rfl rfl ?_
  refine r_const (i := 1) (u := 0) (z := 0) rfl rfl ?_
  refine r_load (i := 2) (u := 0) (w := 2) rfl rfl rfl ?_
  refine r_load (i := 3) (u := 1) (w := 0) rfl rfl rfl ?_
  refine r_load (i := 4) (u := 2) (w := 0) rfl rfl rfl ?_
  refine r_load (i := 5) (u := 3) (w := 0) rfl rfl rfl ?_
  refine r_load (i := 6) (u := 4) (w := 0) rfl rfl rfl ?_
  refine r_call (i := 7) (u := 786432) (v := 8) (w := 11) (b := 0) (na := 1797) (C2 := xC8) (as := [(2, 0), vi p0, vi p1, vi p2, vi p3]) (s := [vi 0, (2, 81)]) rfl rfl rfl rfl rfl rfl rfl (sp8 (t := p0) (fa := p1) (fb := p2) (fc := p3) hI ⟨by omega, by omega⟩ ⟨by omega, by omega⟩ ⟨by omega, by omega⟩ ⟨by omega, by omega⟩  e_N23 (by omega)) (fun r1 S2 hq3 => ?_)
  rcases hq3 with hq4 | ⟨a6, c9, rfl, hc5, rfl⟩
  · obtain ⟨z7, rfl, h8, h9, e10, hI11, hF12, hR13⟩ := hq4
    have hF14 := hF.trans hF12 rfl rfl
    have e15 := CRx.fr e_CR hF12 rfl rfl
    have e16 := wRM_rm e_RM hR13
    refine Or.inr (Or.inl ⟨rfl, ?_⟩)
    refine r_i2l (i := 8) rfl ⟨by omega, by omega⟩ ?_
    refine r_lastore (i := 9) rfl ly81 (by decide) (by omega) (by omega) ⟨by omega, by omega⟩ ?_
    have hI18 := hI11.seta0 (b := 81) (j := (0 : Int).toNat) (z := z7) rfl rfl
    have hF20 := hF14.seta (b := 81) (j := (0 : Int).toNat) (z := z7) rfl
    have e22 := CRx.seta e15 (b := 81) (j := (0 : Int).toNat) (z := z7) rfl
    have e23 := wRM_a e16 (b := 81) (j := (0 : Int).toNat) (z := z7)
    have e24 := N23x.seta e10 (b := 81) (j := (0 : Int).toNat) (z := z7) rfl
    refine yT_gen (fun S17 hS19 => ?_)
    rw [hS19] at hI18 hF20  e22 e23 e24
    refine r_goto (i := 10) (v := 14) rfl ?_
    refine r_const (i := 14) (u := 0) (z := 0) rfl rfl ?_
    exact r_retI (i := 15) rfl ⟨0, rfl, by omega, by omega, (by exact wRM_le e23 (by omega)), e24, e22, hI18, hF20⟩
  · obtain ⟨hI25, rm26⟩ := wRM_cost e_RM hI (by omega)
    have e27 : N23 (ycost S 1 6) := e_N23
    have e28 : CR (ycost S 1 6) := e_CR
    have hF29 : yFr [(17, 6), (17, 7), (17, 8), (17, 9), (17, 10), (17, 11), (17, 12), (22, 3), (31, 1), (33, 7), (33, 8), (33, 9), (33, 10), (33, 11), (33, 12), (33, 13), (33, 14), (33, 15), (34, 1), (36, 5)] [18, 19, 20, 21, 23, 24, 25, 37, 81, 100, 101, 102, 103, 105] S (ycost S 1 6) := hF
    obtain rfl := hc5
    · refine Or.inr (Or.inr (Or.inl ⟨rfl, rfl, by decide, ?_⟩))
      refine r_store (i := 11) (u := 6) (w := 2) (L1 := [some ((2, 0)), some (vi p0), some (vi p1), some (vi p2), some (vi p3), some ((2, 81)), some ((2, a6))]) rfl rfl rfl rfl ?_
      refine r_const (i := 12) (u := 1) (z := 1) rfl rfl ?_
      exact r_retI (i := 13) rfl ⟨1, rfl, by omega, by omega, (by exact wRM_le rm26 (by omega)), e27, e28, hI25, hF29⟩
/-- ProxyForgeLaw.answer -/
theorem sp173 {G : xk} {S : yS} {d : Nat} (hI : yI S) {kR : Int} {p0 : Int} (h_p0 : -2147483648 ≤ p0 ∧ p0 ≤ 2147483647) {p1 : Int} (h_p1 : Rl p1) (p_0 : wRM (kR + 1) S) (p_1 : 0 ≤ kR) (e_N23 : N23 S) (e_CR : CR S) (hd : 7 ≤ d) : yT xPr G LY xC173 0 [some ((2, 0)), some (vi p0), some (vl p1), none] [] S d (fun r S' => ∃ z : Int, r = (1, vi z) ∧ 0 ≤ z ∧ z ≤ 2 ∧ wRM kR S' ∧ hAn S p0 p1 z ∧ N23 S' ∧ CR S' ∧ yI S' ∧ yFr [(26, 4), (26, 5)] [] S S') := by
  refine yT_pad 1 ?_
  show yT xPr G LY xC173 0 [some ((2, 0)), some (vi p0), some (vl p1), none, none] [] S d _
  obtain ⟨d, rfl⟩ : ∃ q, d = q + 1 := ⟨d - 1, by omega⟩
  have hF : yFr [(26, 4), (26, 5)] [] S S := yFr.refl S
  have e_RM := p_0
  refine r_load (i := 0) (u := 0) (w := 2) rfl rfl rfl ?_
  refine r_load (i := 1) (u := 1) (w := 0) rfl rfl rfl ?_
  refine r_load (i := 2) (u := 2) (w := 1) rfl rfl rfl ?_
  refine r_call (i := 3) (u := 786432) (v := 1) (w := 5) (b := 0) (na := 1027) (C2 := xC1) (as := [(2, 0), vi p0, vl p1]) (s := []) rfl rfl rfl rfl rfl rfl rfl (sp1 (k := p0) (v := p1) hI ⟨by omega, by omega⟩ ⟨by omega, by omega⟩   (by omega)) (fun r1 S2 hq3 => ?_)
  rcases hq3 with hq4 | ⟨a6, c9, rfl, hc5, rfl⟩
  · obtain ⟨rfl, ac7, hI8, hF9, hR10⟩ := hq4
    have hF11 := hF.trans hF9 rfl rfl
    have e12 := N23x.fr e_N23 hF9 hR10 rfl rfl rfl
    have e13 := CRx.fr e_CR hF9 rfl rfl
    have e14 := wRM_rm e_RM hR10
    refine Or.inl ⟨rfl, ?_⟩
    refine r_goto (i := 4) (v := 8) rfl ?_
    refine r_const (i := 8) (u := 0) (z := 0) rfl rfl ?_
    exact r_retI (i := 9) rfl ⟨0, rfl, by omega, by omega, (by exact wRM_le e14 (by omega)), (by exact Or.inl ⟨rfl, ac7⟩), e12, e13, hI8, hF11⟩
  · obtain ⟨hI15, rm16⟩ := wRM_cost e_RM hI (by omega)
    have e17 : N23 (ycost S 1 6) := e_N23
    have e18 : CR (ycost S 1 6) := e_CR
    have hF19 : yFr [(26, 4), (26, 5)] [] S (ycost S 1 6) := hF
    obtain ⟨rfl, xphc5⟩ := hc5
    · refine Or.inr (Or.inr (Or.inl ⟨rfl, rfl, by decide, ?_⟩))
      refine r_store (i := 5) (u := 4) (w := 2) (L1 := [some ((2, 0)), some (vi p0), some (vl p1), none, some ((2, a6))]) rfl rfl rfl rfl ?_
      refine r_const (i := 6) (u := 1) (z := 1) rfl rfl ?_
      exact r_retI (i := 7) rfl ⟨1, rfl, by omega, by omega, (by exact wRM_le rm16 (by omega)), (by exact Or.inr ⟨rfl, xphc5⟩), e17, e18, hI15, hF19⟩
/-- ProxyForgeLaw.call -/
theorem sp174 {G : xk} {S : yS} {d : Nat} (hI : yI S) {kR : Int} {p0 : Int} (h_p0 : -2147483648 ≤ p0 ∧ p0 ≤ 2147483647) {p1 : Int} (h_p1 : Rl p1) {p2 : Int} (h_p2 : Rl p2) {p3 : Int} (h_p3 : Rl p3) {p4 : Int} (h_p4 : Rl p4) (p_0 : wRM (kR + 1) S) (p_1 : 0 ≤ kR) (e_N23 : N23 S) (e_CR : CR S) (hd : 7 ≤ d) : yT xPr G LY xC174 0 [some ((2, 0)), some (vi p0), some (vl p1), none, some (vl p2), none, some (vl p3), none, some (vl p4), none, some ((2, 81))] [] S d (fun r S' => ∃ z : Int, r = (1, vi z) ∧ 0 ≤ z ∧ z ≤ 2 ∧ wRM kR S' ∧ N23 S' ∧ CR S' ∧ yI S' ∧ yFr [(26, 2), (26, 3), (29, 5)] [27, 28, 30, 81] S S') := by
  refine yT_pad 1 ?_
  show yT xPr G LY xC174 0 [some ((2, 0)), some (vi p0), some (vl p1), none, some (vl p2), none, some (vl p3), none, some (vl p4), none, some ((2, 81)), none] [] S d _
  obtain ⟨d, rfl⟩ : ∃ q, d = q + 1 := ⟨d - 1, by omega⟩
  have hF : yFr [(26, 2), (26, 3), (29, 5)] [27, 28, 30, 81] S S := yFr.refl S
  have e_RM := p_0
  refine r_load (i := 0) (u := 10) (w := 2) rfl rfl rfl ?_
  refine r_const (i := 1) (u := 0) (z := 0) rfl rfl ?_
  refine r_load (i := 2) (u := 0) (w := 2) rfl rfl rfl ?_
  refine r_load (i := 3) (u := 1) (w := 0) rfl rfl rfl ?_
  refine r_load (i := 4) (u := 2) (w := 1) rfl rfl rfl ?_
  refine r_load (i := 5) (u := 4) (w := 1) rfl rfl rfl ?_
  refine r_load (i := 6) (u := 6) (w := 1) rfl rfl rfl ?_
  refine r_load (i := 7) (u := 8) (w := 1) rfl rfl rfl ?_
  refine r_call (i := 8) (u := 786432) (v := 5) (w := 12) (b := 0) (na := 2566) (C2 := xC5) (as := [(2, 0), vi p0, vl p1, vl p2, vl p3, vl p4]) (s := [vi 0, (2, 81)]) rfl rfl rfl rfl rfl rfl rfl (sp5 (k := p0) (a := p1) (b := p2) (c := p3) (e := p4) hI ⟨by omega, by omega⟩ ⟨by omega, by omega⟩ ⟨by omega, by omega⟩ ⟨by omega, by omega⟩ ⟨by omega, by omega⟩   (by omega)) (fun r1 S2 hq3 => ?_)
  rcases hq3 with hq4 | ⟨a6, c9, rfl, hc5, rfl⟩
  · obtain ⟨z7, rfl, h8, h9, hI10, hF11, hR12⟩ := hq4
    have hF13 := hF.trans hF11 rfl rfl
    have e14 := N23x.fr e_N23 hF11 hR12 rfl rfl rfl
    have e15 := CRx.fr e_CR hF11 rfl rfl
    have e16 := wRM_rm e_RM hR12
    refine Or.inr (Or.inl ⟨rfl, ?_⟩)
    refine r_i2l (i := 9) rfl ⟨by omega, by omega⟩ ?_
    refine r_lastore (i := 10) rfl ly81 (by decide) (by omega) (by omega) ⟨by omega, by omega⟩ ?_
    have hI18 := hI10.seta0 (b := 81) (j := (0 : Int).toNat) (z := z7) rfl rfl
    have hF20 := hF13.seta (b := 81) (j := (0 : Int).toNat) (z := z7) rfl
    have e22 := N23x.seta e14 (b := 81) (j := (0 : Int).toNat) (z := z7) rfl
    have e23 := CRx.seta e15 (b := 81) (j := (0 : Int).toNat) (z := z7) rfl
    have e24 := wRM_a e16 (b := 81) (j := (0 : Int).toNat) (z := z7)
    refine yT_gen (fun S17 hS19 => ?_)
    rw [hS19] at hI18 hF20  e22 e23 e24
    refine r_goto (i := 11) (v := 15) rfl ?_
    refine r_const (i := 15) (u := 0) (z := 0) rfl rfl ?_
    exact r_retI (i := 16) rfl ⟨0, rfl, by omega, by omega, (by exact wRM_le e24 (by omega)), e22, e23, hI18, hF20⟩
  · obtain ⟨hI25, rm26⟩ := wRM_cost e_RM hI (by omega)
    have e27 : N23 (ycost S 1 6) := e_N23
    have e28 : CR (ycost S 1 6) := e_CR
    have hF29 : yFr [(26, 2), (26, 3), (29, 5)] [27, 28, 30, 81] S (ycost S 1 6) := hF
    obtain rfl := hc5
    · refine Or.inr (Or.inr (Or.inl ⟨rfl, rfl, by decide, ?_⟩))
      refine r_store (i := 12) (u := 11) (w := 2) (L1 := [some ((2, 0)), some (vi p0), some (vl p1), none, some (vl p2), none, some (vl p3), none, some (vl p4), none, some ((2, 81)), some ((2, a6))]) rfl rfl rfl rfl ?_
      refine r_const (i := 13) (u := 1) (z := 1) rfl rfl ?_
      exact r_retI (i := 14) rfl ⟨1, rfl, by omega, by omega, (by exact wRM_le rm26 (by omega)), e27, e28, hI25, hF29⟩
set_option maxHeartbeats 4000000 in
theorem lp281_13 {G : xk} {d : Nat} {S0 : yS} {nS : Nat} {sc : Nat → Int} (hG : ySc G nS sc) (hn5 : nS ≤ 5120) (hd : 27 ≤ d + 1) : ∀ (n : Nat), ∀ (S : yS) (hI : yI S) (e_N23 : N23 S) (e_CR : CR S) (e_RT : RT S) (e_RS : RS S) (i : Int) (h_i : 0 ≤ i ∧ i ≤ 5120) (q_0 : wRM (5200 - i) S) (hn : 5120 - i < (n : Nat)), yT xPr G LY xC281 13 [some ((6, 0)), some ((2, 0)), some ((2, 43)), some ((2, 81)), some (vi i), none, none] [] S (d + 1) (fun r S' => ∃ z : Int, r = (1, vi z) ∧ 1 ≤ z ∧ z ≤ 1) := by
  intro n
  induction n with
  | zero => intro S hI e_N23 e_CR e_RT e_RS i h_i q_0 hn; exact absurd hn (by omega)
  | succ n ih =>
    intro S hI e_N23 e_CR e_RT e_RS i h_i q_0 hn
    refine r_load (i := 13) (u := 4) (w := 0) rfl rfl rfl ?_
    refine r_load (i := 14) (u := 0) (w := 2) rfl rfl rfl ?_
    refine r_scN (i := 15) hG rfl ?_
    refine r_const (i := 16) (u := 10) (z := 10) rfl rfl ?_
    refine r_isub (i := 17) rfl ?_
    refine c_gt (i := 18) (v := 645) rfl ⟨by omega, by omega⟩ ⟨by omega, by omega⟩ (fun h1 => ?_) (fun h2 => ?_)
    · refine r_const (i := 645) (u := 1) (z := 1) rfl rfl ?_
      exact r_retZ (i := 646) rfl (by omega) (by omega) ⟨1, rfl, by omega, by omega⟩
    · refine r_load (i := 19) (u := 0) (w := 2) rfl rfl rfl ?_
      refine r_load (i := 20) (u := 4) (w := 0) rfl rfl rfl ?_
      refine r_scA (i := 21) hG rfl (by omega) (by omega) fun h3 => ?_
      have h3 : Rg (sc i.toNat) := h3
      refine r_const (i := 22) (u := 31) (z := 31) rfl rfl ?_
      refine r_iand (i := 23) rfl ?_
      have h4 := @yand_c (sc i.toNat) 31 (by decide) (by decide)
      rcases (show (yand (sc i.toNat) 31) = 0 ∨ (yand (sc i.toNat) 31) = 1 ∨ (yand (sc i.toNat) 31) = 2 ∨ (yand (sc i.toNat) 31) = 3 ∨ (yand (sc i.toNat) 31) = 4 ∨ (yand (sc i.toNat) 31) = 5 ∨ (yand (sc i.toNat) 31) = 6 ∨ (yand (sc i.toNat) 31) = 7 ∨ (yand (sc i.toNat) 31) = 8 ∨ (yand (sc i.toNat) 31) = 9 ∨ (yand (sc i.toNat) 31) = 10 ∨ (yand (sc i.toNat) 31) = 11 ∨ (yand (sc i.toNat) 31) = 12 ∨ (yand (sc i.toNat) 31) = 13 ∨ (yand (sc i.toNat) 31) = 14 ∨ (yand (sc i.toNat) 31) = 15 ∨ (yand (sc i.toNat) 31) = 16 ∨ (yand (sc i.toNat) 31) = 17 ∨ (yand (sc i.toNat) 31) = 18 ∨ (yand (sc i.toNat) 31) = 19 ∨ (yand (sc i.toNat) 31) = 20 ∨ (yand (sc i.toNat) 31) = 21 ∨ (yand (sc i.toNat) 31) = 22 ∨ (yand (sc i.toNat) 31) = 23 ∨ (yand (sc i.toNat) 31) = 24 ∨ (yand (sc i.toNat) 31) = 25 ∨ (yand (sc i.toNat) 31) = 26 ∨ (yand (sc i.toNat) 31) = 27 ∨ (yand (sc i.toNat) 31) = 28 ∨ (yand (sc i.toNat) 31) = 29 ∨ (yand (sc i.toNat) 31) = 30 ∨ (yand (sc i.toNat) 31) = 31 by omega) with h5 | h6 | h7 | h8 | h9 | h10 | h11 | h12 | h13 | h14 | h15 | h16 | h17 | h18 | h19 | h20 | h21 | h22 | h23 | h24 | h25 | h26 | h27 | h28 | h29 | h30 | h31 | h32 | h33 | h34 | h35 | h36
      · refine r_swK (i := 24) (u := 1) (v := 643) (k := 0) (t := 25) rfl rfl h5 (by decide) (by decide) rfl ?_
        refine r_load (i := 25) (u := 1) (w := 2) rfl rfl rfl ?_
        refine r_load (i := 26) (u := 0) (w := 2) rfl rfl rfl ?_
        refine r_load (i := 27) (u := 4) (w := 0) rfl rfl rfl ?_
        refine r_const (i := 28) (u := 1) (z := 1) rfl rfl ?_
        refine r_iadd (i := 29) rfl ?_
        refine r_scA (i := 30) hG rfl (by omega) (by omega) fun h37 => ?_
        have h37 : Rg (sc (i + 1).toNat) := h37
        refine z_eq (i := 31) (v := 34) rfl ⟨by omega, by omega⟩ (fun h38 => ?_) (fun h39 => ?_)
        · refine r_const (i := 34) (u := 0) (z := 0) rfl rfl ?_
          refine r_load (i := 35) (u := 0) (w := 2) rfl rfl rfl ?_
          refine r_load (i := 36) (u := 4) (w := 0) rfl rfl rfl ?_
          refine r_const (i := 37) (u := 2) (z := 2) rfl rfl ?_
          refine r_iadd (i := 38) rfl ?_
          refine r_scA (i := 39) hG rfl (by omega) (by omega) fun h40 => ?_
          have h40 : Rg (sc (i + 2).toNat) := h40
          refine r_load (i := 40) (u := 0) (w := 2) rfl rfl rfl ?_
          refine r_load (i := 41) (u := 4) (w := 0) rfl rfl rfl ?_
          refine r_const (i := 42) (u := 3) (z := 3) rfl rfl ?_
          refine r_iadd (i := 43) rfl ?_
          refine r_scA (i := 44) hG rfl (by omega) (by omega) fun h41 => ?_
          have h41 : Rg (sc (i + 3).toNat) := h41
          refine r_load (i := 45) (u := 0) (w := 2) rfl rfl rfl ?_
          refine r_load (i := 46) (u := 4) (w := 0) rfl rfl rfl ?_
          refine r_const (i := 47) (u := 4) (z := 4) rfl rfl ?_
          refine r_iadd (i := 48) rfl ?_
          refine r_scA (i := 49) hG rfl (by omega) (by omega) fun h42 => ?_
          have h42 : Rg (sc (i + 4).toNat) := h42
          refine r_load (i := 50) (u := 3) (w := 2) rfl rfl rfl ?_
          refine r_call (i := 51) (u := 65535) (v := 179) (w := 0) (b := 2) (na := 1798) (C2 := xC179) (as := [(2, 0), vi 0, vi (sc (i + 2).toNat), vi (sc (i + 3).toNat), vi (sc (i + 4).toNat), (2, 81)]) (s := []) rfl rfl rfl rfl rfl rfl rfl (sp179 (p0 := 0) (p1 := sc (i + 2).toNat) (p2 := sc (i + 3).toNat) (p3 := sc (i + 4).toNat) (kR := 5199 - i) hI ⟨by omega, by omega⟩ ⟨by omega, by omega⟩ ⟨by omega, by omega⟩ ⟨by omega, by omega⟩ (by exact wRM_le q_0 (by omega)) (by omega) e_N23 e_CR (by omega)) (fun r43 S44 hq45 => ?_)
          obtain ⟨z46, rfl, h47, h48, rm49, ht50, c6h51, e52, e53, hI54, hF55⟩ := hq45
          refine Or.inr (Or.inl ⟨rfl, ?_⟩)
          have rs9 := RS_type e_RS (hI.f tf1_7).1 (by omega) ht50 c6h51 hF55 rfl
          refine r_store (i := 52) (u := 5) (w := 0) (L1 := [some ((6, 0)), some ((2, 0)), some ((2, 43)), some ((2, 81)), some (vi i), some (vi z46), none]) rfl rfl rfl rfl ?_
          refine r_load (i := 53) (u := 2) (w := 2) rfl rfl rfl ?_
          refine r_load (i := 54) (u := 0) (w := 2) rfl rfl rfl ?_
          refine r_load (i := 55) (u := 4) (w := 0) rfl rfl rfl ?_
          refine r_const (i := 56) (u := 1) (z := 1) rfl rfl ?_
          refine r_iadd (i := 57) rfl ?_
          refine r_scA (i := 58) hG rfl (by omega) (by omega) fun h56 => ?_
          have h56 : Rg (sc (i + 1).toNat) := h56
          refine z_eq (i := 59) (v := 62) rfl ⟨by omega, by omega⟩ (fun h57 => ?_) (fun h58 => absurd h58 (by omega))
          refine r_const (i := 62) (u := 0) (z := 0) rfl rfl ?_
          refine r_load (i := 63) (u := 0) (w := 2) rfl rfl rfl ?_
          refine r_load (i := 64) (u := 4) (w := 0) rfl rfl rfl ?_
          refine r_const (i := 65) (u := 2) (z := 2) rfl rfl ?_
          refine r_iadd (i := 66) rfl ?_
          refine r_scA (i := 67) hG rfl (by omega) (by omega) fun h59 => ?_
          have h59 : Rg (sc (i + 2).toNat) := h59
          refine r_load (i := 68) (u := 0) (w := 2) rfl rfl rfl ?_
          refine r_load (i := 69) (u := 4) (w := 0) rfl rfl rfl ?_
          refine r_const (i := 70) (u := 3) (z := 3) rfl rfl ?_
          refine r_iadd (i := 71) rfl ?_
          refine r_scA (i := 72) hG rfl (by omega) (by omega) fun h60 => ?_
          have h60 : Rg (sc (i + 3).toNat) := h60
          refine r_load (i := 73) (u := 0) (w := 2) rfl rfl rfl ?_
          refine r_load (i := 74) (u := 4) (w := 0) rfl rfl rfl ?_
          refine r_const (i := 75) (u := 4) (z := 4) rfl rfl ?_
          refine r_iadd (i := 76) rfl ?_
          refine r_scA (i := 77) hG rfl (by omega) (by omega) fun h61 => ?_
          have h61 : Rg (sc (i + 4).toNat) := h61
          refine r_call (i := 78) (u := 11) (v := 259) (w := 0) (b := 0) (na := 1541) (C2 := xC259) (as := [(2, 43), vi 0, vi (sc (i + 2).toNat), vi (sc (i + 3).toNat), vi (sc (i + 4).toNat)]) (s := []) rfl rfl rfl rfl rfl rfl rfl (sp259 (b := 0) (bits := sc (i + 2).toNat) (p := sc (i + 3).toNat) (up := sc (i + 4).toNat) hI54 ⟨by omega, by omega⟩ ⟨by omega, by omega⟩ ⟨by omega, by omega⟩ ⟨by omega, by omega⟩   (by omega)) (fun r62 S63 hq64 => ?_)
          obtain ⟨z65, rfl, h66, h67, mq68, hI69, hF70, hR71⟩ := hq64
          have e72 := N23x.fr e52 hF70 hR71 rfl rfl rfl
          have e73 := CRx.fr e53 hF70 rfl rfl
          have e74 := wRM_rm rm49 hR71
          have e75 := RSx.fr rs9 hF70 rfl rfl
          refine Or.inr (Or.inl ⟨rfl, ?_⟩)
          have rt9 := (RT_type e_RT (by omega) (Int.le_trans (by decide) (hI.f tf1_7).1) ht50 hF55 rfl rfl mq68 hF70 rfl rfl).1
          have rk9 := (RT_type e_RT (by omega) (Int.le_trans (by decide) (hI.f tf1_7).1) ht50 hF55 rfl rfl mq68 hF70 rfl rfl).2.1
          have ro9 := (RT_type e_RT (by omega) (Int.le_trans (by decide) (hI.f tf1_7).1) ht50 hF55 rfl rfl mq68 hF70 rfl rfl).2.2
          refine r_store (i := 79) (u := 6) (w := 0) (L1 := [some ((6, 0)), some ((2, 0)), some ((2, 43)), some ((2, 81)), some (vi i), some (vi z46), some (vi z65)]) rfl rfl rfl rfl ?_
          refine r_goto (i := 80) (v := 643) rfl ?_
          refine r_iinc (i := 643) (u := 10) (v := 4) (s := 10) (L1 := [some ((6, 0)), some ((2, 0)), some ((2, 43)), some ((2, 81)), some (vi (i + 10)), some (vi z46), some (vi z65)]) rfl rfl rfl rfl rfl ?_
          refine r_goto (i := 644) (v := 13) rfl ?_
          refine yT_drop (L1 := [some ((6, 0)), some ((2, 0)), some ((2, 43)), some ((2, 81)), some (vi (i + 10)), none, none]) rfl ?_
          exact ih S63 hI69 e72 e73 rt9 e75 (i + 10) ⟨by omega, by omega⟩ (by exact wRM_le e74 (by omega)) (by omega)
        · refine r_const (i := 32) (u := 1) (z := 1) rfl rfl ?_
          refine r_goto (i := 33) (v := 35) rfl ?_
          refine r_load (i := 35) (u := 0) (w := 2) rfl rfl rfl ?_
          refine r_load (i := 36) (u := 4) (w := 0) rfl rfl rfl ?_
          refine r_const (i := 37) (u := 2) (z := 2) rfl rfl ?_
          refine r_iadd (i := 38) rfl ?_
          refine r_scA (i := 39) hG rfl (by omega) (by omega) fun h76 => ?_
          have h76 : Rg (sc (i + 2).toNat) := h76
          refine r_load (i := 40) (u := 0) (w := 2) rfl rfl rfl ?_
          refine r_load (i := 41) (u := 4) (w := 0) rfl rfl rfl ?_
          refine r_const (i := 42) (u := 3) (z := 3) rfl rfl ?_
          refine r_iadd (i := 43) rfl ?_
          refine r_scA (i := 44) hG rfl (by omega) (by omega) fun h77 => ?_
          have h77 : Rg (sc (i + 3).toNat) := h77
          refine r_load (i := 45) (u := 0) (w := 2) rfl rfl rfl ?_
          refine r_load (i := 46) (u := 4) (w := 0) rfl rfl rfl ?_
          refine r_const (i := 47) (u := 4) (z := 4) rfl rfl ?_
          refine r_iadd (i := 48) rfl ?_
          refine r_scA (i := 49) hG rfl (by omega) (by omega) fun h78 => ?_
          have h78 : Rg (sc (i + 4).toNat) := h78
          refine r_load (i := 50) (u := 3) (w := 2) rfl rfl rfl ?_
          refine r_call (i := 51) (u := 65535) (v := 179) (w := 0) (b := 2) (na := 1798) (C2 := xC179) (as := [(2, 0), vi 1, vi (sc (i + 2).toNat), vi (sc (i + 3).toNat), vi (sc (i + 4).toNat), (2, 81)]) (s := []) rfl rfl rfl rfl rfl rfl rfl (sp179 (p0 := 1) (p1 := sc (i + 2).toNat) (p2 := sc (i + 3).toNat) (p3 := sc (i + 4).toNat) (kR := 5199 - i) hI ⟨by omega, by omega⟩ ⟨by omega, by omega⟩ ⟨by omega, by omega⟩ ⟨by omega, by omega⟩ (by exact wRM_le q_0 (by omega)) (by omega) e_N23 e_CR (by omega)) (fun r79 S80 hq81 => ?_)
          obtain ⟨z82, rfl, h83, h84, rm85, ht86, c6h87, e88, e89, hI90, hF91⟩ := hq81
          refine Or.inr (Or.inl ⟨rfl, ?_⟩)
          have rs9 := RS_type e_RS (hI.f tf1_7).1 (by omega) ht86 c6h87 hF91 rfl
          refine r_store (i := 52) (u := 5) (w := 0) (L1 := [some ((6, 0)), some ((2, 0)), some ((2, 43)), some ((2, 81)), some (vi i), some (vi z82), none]) rfl rfl rfl rfl ?_
          refine r_load (i := 53) (u := 2) (w := 2) rfl rfl rfl ?_
          refine r_load (i := 54) (u := 0) (w := 2) rfl rfl rfl ?_
          refine r_load (i := 55) (u := 4) (w := 0) rfl rfl rfl ?_
          refine r_const (i := 56) (u := 1) (z := 1) rfl rfl ?_
          refine r_iadd (i := 57) rfl ?_
          refine r_scA (i := 58) hG rfl (by omega) (by omega) fun h92 => ?_
          have h92 : Rg (sc (i + 1).toNat) := h92
          refine z_eq (i := 59) (v := 62) rfl ⟨by omega, by omega⟩ (fun h93 => absurd h93 (by omega)) (fun h94 => ?_)
          refine r_const (i := 60) (u := 1) (z := 1) rfl rfl ?_
          refine r_goto (i := 61) (v := 63) rfl ?_
          refine r_load (i := 63) (u := 0) (w := 2) rfl rfl rfl ?_
          refine r_load (i := 64) (u := 4) (w := 0) rfl rfl rfl ?_
          refine r_const (i := 65) (u := 2) (z := 2) rfl rfl ?_
          refine r_iadd (i := 66) rfl ?_
          refine r_scA (i := 67) hG rfl (by omega) (by omega) fun h95 => ?_
          have h95 : Rg (sc (i + 2).toNat) := h95
          refine r_load (i := 68) (u := 0) (w := 2) rfl rfl rfl ?_
          refine r_load (i := 69) (u := 4) (w := 0) rfl rfl rfl ?_
          refine r_const (i := 70) (u := 3) (z := 3) rfl rfl ?_
          refine r_iadd (i := 71) rfl ?_
          refine r_scA (i := 72) hG rfl (by omega) (by omega) fun h96 => ?_
          have h96 : Rg (sc (i + 3).toNat) := h96
          refine r_load (i := 73) (u := 0) (w := 2) rfl rfl rfl ?_
          refine r_load (i := 74) (u := 4) (w := 0) rfl rfl rfl ?_
          refine r_const (i := 75) (u := 4) (z := 4) rfl rfl ?_
          refine r_iadd (i := 76) rfl ?_
          refine r_scA (i := 77) hG rfl (by omega) (by omega) fun h97 => ?_
          have h97 : Rg (sc (i + 4).toNat) := h97
          refine r_call (i := 78) (u := 11) (v := 259) (w := 0) (b := 0) (na := 1541) (C2 := xC259) (as := [(2, 43), vi 1, vi (sc (i + 2).toNat), vi (sc (i + 3).toNat), vi (sc (i + 4).toNat)]) (s := []) rfl rfl rfl rfl rfl rfl rfl (sp259 (b := 1) (bits := sc (i + 2).toNat) (p := sc (i + 3).toNat) (up := sc (i + 4).toNat) hI90 ⟨by omega, by omega⟩ ⟨by omega, by omega⟩ ⟨by omega, by omega⟩ ⟨by omega, by omega⟩   (by omega)) (fun r98 S99 hq100 => ?_)
          obtain ⟨z101, rfl, h102, h103, mq104, hI105, hF106, hR107⟩ := hq100
          have e108 := N23x.fr e88 hF106 hR107 rfl rfl rfl
          have e109 := CRx.fr e89 hF106 rfl rfl
          have e110 := wRM_rm rm85 hR107
          have e111 := RSx.fr rs9 hF106 rfl rfl
          refine Or.inr (Or.inl ⟨rfl, ?_⟩)
          have rt9 := (RT_type e_RT (by omega) (Int.le_trans (by decide) (hI.f tf1_7).1) ht86 hF91 rfl rfl mq104 hF106 rfl rfl).1
          have rk9 := (RT_type e_RT (by omega) (Int.le_trans (by decide) (hI.f tf1_7).1) ht86 hF91 rfl rfl mq104 hF106 rfl rfl).2.1
          have ro9 := (RT_type e_RT (by omega) (Int.le_trans (by decide) (hI.f tf1_7).1) ht86 hF91 rfl rfl mq104 hF106 rfl rfl).2.2
          refine r_store (i := 79) (u := 6) (w := 0) (L1 := [some ((6, 0)), some ((2, 0)), some ((2, 43)), some ((2, 81)), some (vi i), some (vi z82), some (vi z101)]) rfl rfl rfl rfl ?_
          refine r_goto (i := 80) (v := 643) rfl ?_
          refine r_iinc (i := 643) (u := 10) (v := 4) (s := 10) (L1 := [some ((6, 0)), some ((2, 0)), some ((2, 43)), some ((2, 81)), some (vi (i + 10)), some (vi z82), some (vi z101)]) rfl rfl rfl rfl rfl ?_
          refine r_goto (i := 644) (v := 13) rfl ?_
          refine yT_drop (L1 := [some ((6, 0)), some ((2, 0)), some ((2, 43)), some ((2, 81)), some (vi (i + 10)), none, none]) rfl ?_
          exact ih S99 hI105 e108 e109 rt9 e111 (i + 10) ⟨by omega, by omega⟩ (by exact wRM_le e110 (by omega)) (by omega)
      · refine r_swK (i := 24) (u := 1) (v := 643) (k := 1) (t := 81) rfl rfl h6 (by decide) (by decide) rfl ?_
        refine r_load (i := 81) (u := 1) (w := 2) rfl rfl rfl ?_
        refine r_load (i := 82) (u := 0) (w := 2) rfl rfl rfl ?_
        refine r_load (i := 83) (u := 4) (w := 0) rfl rfl rfl ?_
        refine r_const (i := 84) (u := 1) (z := 1) rfl rfl ?_
        refine r_iadd (i := 85) rfl ?_
        refine r_scA (i := 86) hG rfl (by omega) (by omega) fun h112 => ?_
        have h112 : Rg (sc (i + 1).toNat) := h112
        refine r_load (i := 87) (u := 0) (w := 2) rfl rfl rfl ?_
        refine r_load (i := 88) (u := 4) (w := 0) rfl rfl rfl ?_
        refine r_const (i := 89) (u := 2) (z := 2) rfl rfl ?_
        refine r_iadd (i := 90) rfl ?_
        refine r_scA (i := 91) hG rfl (by omega) (by omega) fun h113 => ?_
        have h113 : Rg (sc (i + 2).toNat) := h113
        refine r_call (i := 92) (u := 65535) (v := 176) (w := 0) (b := 2) (na := 1027) (C2 := xC176) (as := [(2, 0), vi (sc (i + 1).toNat), vi (sc (i + 2).toNat)]) (s := []) rfl rfl rfl rfl rfl rfl rfl (sp176 (p0 := sc (i + 1).toNat) (p1 := sc (i + 2).toNat) (kR := 5199 - i) hI ⟨by omega, by omega⟩ ⟨by omega, by omega⟩ (by exact wRM_le q_0 (by omega)) (by omega) e_N23 e_CR (by omega)) (fun r114 S115 hq116 => ?_)
        obtain ⟨z117, rfl, h118, h119, rm120, him121, e122, e123, hI124, hF125⟩ := hq116
        have e126 := RTx.fr e_RT hF125 rfl rfl
        refine Or.inr (Or.inl ⟨rfl, ?_⟩)
        refine r_store (i := 93) (u := 5) (w := 0) (L1 := [some ((6, 0)), some ((2, 0)), some ((2, 43)), some ((2, 81)), some (vi i), some (vi z117), none]) rfl rfl rfl rfl ?_
        refine r_load (i := 94) (u := 2) (w := 2) rfl rfl rfl ?_
        refine r_load (i := 95) (u := 0) (w := 2) rfl rfl rfl ?_
        refine r_load (i := 96) (u := 4) (w := 0) rfl rfl rfl ?_
        refine r_const (i := 97) (u := 1) (z := 1) rfl rfl ?_
        refine r_iadd (i := 98) rfl ?_
        refine r_scA (i := 99) hG rfl (by omega) (by omega) fun h127 => ?_
        have h127 : Rg (sc (i + 1).toNat) := h127
        refine r_load (i := 100) (u := 0) (w := 2) rfl rfl rfl ?_
        refine r_load (i := 101) (u := 4) (w := 0) rfl rfl rfl ?_
        refine r_const (i := 102) (u := 2) (z := 2) rfl rfl ?_
        refine r_iadd (i := 103) rfl ?_
        refine r_scA (i := 104) hG rfl (by omega) (by omega) fun h128 => ?_
        have h128 : Rg (sc (i + 2).toNat) := h128
        refine r_call (i := 105) (u := 11) (v := 206) (w := 0) (b := 0) (na := 1283) (C2 := xC206) (as := [(2, 43), vi (sc (i + 1).toNat), vi (sc (i + 2).toNat)]) (s := []) rfl rfl rfl rfl rfl rfl rfl (sp206 (t := sc (i + 1).toNat) (f := sc (i + 2).toNat) hI124 ⟨by omega, by omega⟩ ⟨by omega, by omega⟩   (by omega)) (fun r129 S130 hq131 => ?_)
        obtain ⟨rfl, mi132, hI133, hF134, hR135⟩ := hq131
        have e136 := RTx.fr e126 hF134 rfl rfl
        have e137 := N23x.fr e122 hF134 hR135 rfl rfl rfl
        have e138 := CRx.fr e123 hF134 rfl rfl
        have e139 := wRM_rm rm120 hR135
        refine Or.inl ⟨rfl, ?_⟩
        have rs9 := (RS_impl e_RT e_RS hI.m3 (fun j => hI.a ta7 j) (hI.f tf1_7).2 him121 hF125 rfl rfl mi132 hF134 rfl rfl).1
        have rk9 := (RS_impl e_RT e_RS hI.m3 (fun j => hI.a ta7 j) (hI.f tf1_7).2 him121 hF125 rfl rfl mi132 hF134 rfl rfl).2
        refine r_goto (i := 106) (v := 643) rfl ?_
        refine r_iinc (i := 643) (u := 10) (v := 4) (s := 10) (L1 := [some ((6, 0)), some ((2, 0)), some ((2, 43)), some ((2, 81)), some (vi (i + 10)), some (vi z117), none]) rfl rfl rfl rfl rfl ?_
        refine r_goto (i := 644) (v := 13) rfl ?_
        refine yT_drop (L1 := [some ((6, 0)), some ((2, 0)), some ((2, 43)), some ((2, 81)), some (vi (i + 10)), none, none]) rfl ?_
        exact ih S130 hI133 e137 e138 e136 rs9 (i + 10) ⟨by omega, by omega⟩ (by exact wRM_le e139 (by omega)) (by omega)
      · refine r_swK (i := 24) (u := 1) (v := 643) (k := 2) (t := 107) rfl rfl h7 (by decide) (by decide) rfl ?_
        refine r_load (i := 107) (u := 1) (w := 2) rfl rfl rfl ?_
        refine r_load (i := 108) (u := 0) (w := 2) rfl rfl rfl ?_
        refine r_load (i := 109) (u := 4) (w := 0) rfl rfl rfl ?_
        refine r_const (i := 110) (u := 1) (z := 1) rfl rfl ?_
        refine r_iadd (i := 111) rfl ?_
        refine r_scA (i := 112) hG rfl (by omega) (by omega) fun h140 => ?_
        have h140 : Rg (sc (i + 1).toNat) := h140
        refine r_load (i := 113) (u := 0) (w := 2) rfl rfl rfl ?_
        refine r_load (i := 114) (u := 4) (w := 0) rfl rfl rfl ?_
        refine r_const (i := 115) (u := 2) (z := 2) rfl rfl ?_
        refine r_iadd (i := 116) rfl ?_
        refine r_scA (i := 117) hG rfl (by omega) (by omega) fun h141 => ?_
        have h141 : Rg (sc (i + 2).toNat) := h141
        refine r_load (i := 118) (u := 0) (w := 2) rfl rfl rfl ?_
        refine r_load (i := 119) (u := 4) (w := 0) rfl rfl rfl ?_
        refine r_const (i := 120) (u := 3) (z := 3) rfl rfl ?_
        refine r_iadd (i := 121) rfl ?_
        refine r_scA (i := 122) hG rfl (by omega) (by omega) fun h142 => ?_
        have h142 : Rg (sc (i + 3).toNat) := h142
        refine r_load (i := 123) (u := 0) (w := 2) rfl rfl rfl ?_
        refine r_load (i := 124) (u := 4) (w := 0) rfl rfl rfl ?_
        refine r_const (i := 125) (u := 4) (z := 4) rfl rfl ?_
        refine r_iadd (i := 126) rfl ?_
        refine r_scA (i := 127) hG rfl (by omega) (by omega) fun h143 => ?_
        have h143 : Rg (sc (i + 4).toNat) := h143
        refine r_load (i := 128) (u := 0) (w := 2) rfl rfl rfl ?_
        refine r_load (i := 129) (u := 4) (w := 0) rfl rfl rfl ?_
        refine r_const (i := 130) (u := 5) (z := 5) rfl rfl ?_
        refine r_iadd (i := 131) rfl ?_
        refine r_scA (i := 132) hG rfl (by omega) (by omega) fun h144 => ?_
        have h144 : Rg (sc (i + 5).toNat) := h144
        refine r_load (i := 133) (u := 3) (w := 2) rfl rfl rfl ?_
        refine r_call (i := 134) (u := 65535) (v := 177) (w := 0) (b := 2) (na := 2055) (C2 := xC177) (as := [(2, 0), vi (sc (i + 1).toNat), vi (sc (i + 2).toNat), vi (sc (i + 3).toNat), vi (sc (i + 4).toNat), vi (sc (i + 5).toNat), (2, 81)]) (s := []) rfl rfl rfl rfl rfl rfl rfl (sp177 (p0 := sc (i + 1).toNat) (p1 := sc (i + 2).toNat) (p2 := sc (i + 3).toNat) (p3 := sc (i + 4).toNat) (p4 := sc (i + 5).toNat) (kR := 5199 - i) hI ⟨by omega, by omega⟩ ⟨by omega, by omega⟩ ⟨by omega, by omega⟩ ⟨by omega, by omega⟩ ⟨by omega, by omega⟩ (by exact wRM_le q_0 (by omega)) (by omega) e_N23 e_CR (by omega)) (fun r145 S146 hq147 => ?_)
        obtain ⟨z148, rfl, h149, h150, rm151, e152, e153, hI154, hF155⟩ := hq147
        have e156 := RTx.fr e_RT hF155 rfl rfl
        have e157 := RSx.fr e_RS hF155 rfl rfl
        refine Or.inr (Or.inl ⟨rfl, ?_⟩)
        refine r_store (i := 135) (u := 5) (w := 0) (L1 := [some ((6, 0)), some ((2, 0)), some ((2, 43)), some ((2, 81)), some (vi i), some (vi z148), none]) rfl rfl rfl rfl ?_
        refine r_load (i := 136) (u := 2) (w := 2) rfl rfl rfl ?_
        refine r_load (i := 137) (u := 0) (w := 2) rfl rfl rfl ?_
        refine r_load (i := 138) (u := 4) (w := 0) rfl rfl rfl ?_
        refine r_const (i := 139) (u := 1) (z := 1) rfl rfl ?_
        refine r_iadd (i := 140) rfl ?_
        refine r_scA (i := 141) hG rfl (by omega) (by omega) fun h158 => ?_
        have h158 : Rg (sc (i + 1).toNat) := h158
        refine r_load (i := 142) (u := 0) (w := 2) rfl rfl rfl ?_
        refine r_load (i := 143) (u := 4) (w := 0) rfl rfl rfl ?_
        refine r_const (i := 144) (u := 2) (z := 2) rfl rfl ?_
        refine r_iadd (i := 145) rfl ?_
        refine r_scA (i := 146) hG rfl (by omega) (by omega) fun h159 => ?_
        have h159 : Rg (sc (i + 2).toNat) := h159
        refine r_load (i := 147) (u := 0) (w := 2) rfl rfl rfl ?_
        refine r_load (i := 148) (u := 4) (w := 0) rfl rfl rfl ?_
        refine r_const (i := 149) (u := 3) (z := 3) rfl rfl ?_
        refine r_iadd (i := 150) rfl ?_
        refine r_scA (i := 151) hG rfl (by omega) (by omega) fun h160 => ?_
        have h160 : Rg (sc (i + 3).toNat) := h160
        refine r_load (i := 152) (u := 0) (w := 2) rfl rfl rfl ?_
        refine r_load (i := 153) (u := 4) (w := 0) rfl rfl rfl ?_
        refine r_const (i := 154) (u := 4) (z := 4) rfl rfl ?_
        refine r_iadd (i := 155) rfl ?_
        refine r_scA (i := 156) hG rfl (by omega) (by omega) fun h161 => ?_
        have h161 : Rg (sc (i + 4).toNat) := h161
        refine r_load (i := 157) (u := 0) (w := 2) rfl rfl rfl ?_
        refine r_load (i := 158) (u := 4) (w := 0) rfl rfl rfl ?_
        refine r_const (i := 159) (u := 5) (z := 5) rfl rfl ?_
        refine r_iadd (i := 160) rfl ?_
        refine r_scA (i := 161) hG rfl (by omega) (by omega) fun h162 => ?_
        have h162 : Rg (sc (i + 5).toNat) := h162
        refine r_call (i := 162) (u := 11) (v := 220) (w := 0) (b := 0) (na := 1542) (C2 := xC220) (as := [(2, 43), vi (sc (i + 1).toNat), vi (sc (i + 2).toNat), vi (sc (i + 3).toNat), vi (sc (i + 4).toNat), vi (sc (i + 5).toNat)]) (s := []) rfl rfl rfl rfl rfl rfl rfl (sp220 (t := sc (i + 1).toNat) (w0 := sc (i + 2).toNat) (bits := sc (i + 3).toNat) (al := sc (i + 4).toNat) (back := sc (i + 5).toNat) hI154 ⟨by omega, by omega⟩ ⟨by omega, by omega⟩ ⟨by omega, by omega⟩ ⟨by omega, by omega⟩ ⟨by omega, by omega⟩  e153 (by omega)) (fun r163 S164 hq165 => ?_)
        obtain ⟨z166, rfl, h167, h168, e169, hI170, hF171, hR172⟩ := hq165
        have e173 := RTx.fr e156 hF171 rfl rfl
        have e174 := RSx.fr e157 hF171 rfl rfl
        have e175 := N23x.fr e152 hF171 hR172 rfl rfl rfl
        have e176 := wRM_rm rm151 hR172
        refine Or.inr (Or.inl ⟨rfl, ?_⟩)
        refine r_store (i := 163) (u := 6) (w := 0) (L1 := [some ((6, 0)), some ((2, 0)), some ((2, 43)), some ((2, 81)), some (vi i), some (vi z148), some (vi z166)]) rfl rfl rfl rfl ?_
        refine r_goto (i := 164) (v := 643) rfl ?_
        refine r_iinc (i := 643) (u := 10) (v := 4) (s := 10) (L1 := [some ((6, 0)), some ((2, 0)), some ((2, 43)), some ((2, 81)), some (vi (i + 10)), some (vi z148), some (vi z166)]) rfl rfl rfl rfl rfl ?_
        refine r_goto (i := 644) (v := 13) rfl ?_
        refine yT_drop (L1 := [some ((6, 0)), some ((2, 0)), some ((2, 43)), some ((2, 81)), some (vi (i + 10)), none, none]) rfl ?_
        exact ih S164 hI170 e175 e169 e173 e174 (i + 10) ⟨by omega, by omega⟩ (by exact wRM_le e176 (by omega)) (by omega)
      · refine r_swK (i := 24) (u := 1) (v := 643) (k := 3) (t := 165) rfl rfl h8 (by decide) (by decide) rfl ?_
        refine r_load (i := 165) (u := 1) (w := 2) rfl rfl rfl ?_
        refine r_load (i := 166) (u := 0) (w := 2) rfl rfl rfl ?_
        refine r_load (i := 167) (u := 4) (w := 0) rfl rfl rfl ?_
        refine r_const (i := 168) (u := 1) (z := 1) rfl rfl ?_
        refine r_iadd (i := 169) rfl ?_
        refine r_scA (i := 170) hG rfl (by omega) (by omega) fun h177 => ?_
        have h177 : Rg (sc (i + 1).toNat) := h177
        refine r_load (i := 171) (u := 0) (w := 2) rfl rfl rfl ?_
        refine r_load (i := 172) (u := 4) (w := 0) rfl rfl rfl ?_
        refine r_const (i := 173) (u := 2) (z := 2) rfl rfl ?_
        refine r_iadd (i := 174) rfl ?_
        refine r_scA (i := 175) hG rfl (by omega) (by omega) fun h178 => ?_
        have h178 : Rg (sc (i + 2).toNat) := h178
        refine r_call (i := 176) (u := 65535) (v := 178) (w := 0) (b := 2) (na := 1027) (C2 := xC178) (as := [(2, 0), vi (sc (i + 1).toNat), vi (sc (i + 2).toNat)]) (s := []) rfl rfl rfl rfl rfl rfl rfl (sp178 (p0 := sc (i + 1).toNat) (p1 := sc (i + 2).toNat) (kR := 5199 - i) hI ⟨by omega, by omega⟩ ⟨by omega, by omega⟩ (by exact wRM_le q_0 (by omega)) (by omega) e_N23 e_CR (by omega)) (fun r179 S180 hq181 => ?_)
        obtain ⟨z182, rfl, h183, h184, rm185, e186, e187, hI188, hF189⟩ := hq181
        have e190 := RTx.fr e_RT hF189 rfl rfl
        have e191 := RSx.fr e_RS hF189 rfl rfl
        refine Or.inr (Or.inl ⟨rfl, ?_⟩)
        refine r_store (i := 177) (u := 5) (w := 0) (L1 := [some ((6, 0)), some ((2, 0)), some ((2, 43)), some ((2, 81)), some (vi i), some (vi z182), none]) rfl rfl rfl rfl ?_
        refine r_load (i := 178) (u := 2) (w := 2) rfl rfl rfl ?_
        refine r_load (i := 179) (u := 0) (w := 2) rfl rfl rfl ?_
        refine r_load (i := 180) (u := 4) (w := 0) rfl rfl rfl ?_
        refine r_const (i := 181) (u := 1) (z := 1) rfl rfl ?_
        refine r_iadd (i := 182) rfl ?_
        refine r_scA (i := 183) hG rfl (by omega) (by omega) fun h192 => ?_
        have h192 : Rg (sc (i + 1).toNat) := h192
        refine r_load (i := 184) (u := 0) (w := 2) rfl rfl rfl ?_
        refine r_load (i := 185) (u := 4) (w := 0) rfl rfl rfl ?_
        refine r_const (i := 186) (u := 2) (z := 2) rfl rfl ?_
        refine r_iadd (i := 187) rfl ?_
        refine r_scA (i := 188) hG rfl (by omega) (by omega) fun h193 => ?_
        have h193 : Rg (sc (i + 2).toNat) := h193
        refine r_call (i := 189) (u := 11) (v := 255) (w := 0) (b := 0) (na := 1283) (C2 := xC255) (as := [(2, 43), vi (sc (i + 1).toNat), vi (sc (i + 2).toNat)]) (s := []) rfl rfl rfl rfl rfl rfl rfl (sp255 (m := sc (i + 1).toNat) (t := sc (i + 2).toNat) hI188 ⟨by omega, by omega⟩ ⟨by omega, by omega⟩   (by omega)) (fun r194 S195 hq196 => ?_)
        obtain ⟨rfl, hI197, hF198, hR199⟩ := hq196
        have e200 := RTx.fr e190 hF198 rfl rfl
        have e201 := RSx.fr e191 hF198 rfl rfl
        have e202 := N23x.fr e186 hF198 hR199 rfl rfl rfl
        have e203 := CRx.fr e187 hF198 rfl rfl
        have e204 := wRM_rm rm185 hR199
        refine Or.inl ⟨rfl, ?_⟩
        refine r_goto (i := 190) (v := 643) rfl ?_
        refine r_iinc (i := 643) (u := 10) (v := 4) (s := 10) (L1 := [some ((6, 0)), some ((2, 0)), some ((2, 43)), some ((2, 81)), some (vi (i + 10)), some (vi z182), none]) rfl rfl rfl rfl rfl ?_
        refine r_goto (i := 644) (v := 13) rfl ?_
        refine yT_drop (L1 := [some ((6, 0)), some ((2, 0)), some ((2, 43)), some ((2, 81)), some (vi (i + 10)), none, none]) rfl ?_
        exact ih S195 hI197 e202 e203 e200 e201 (i + 10) ⟨by omega, by omega⟩ (by exact wRM_le e204 (by omega)) (by omega)
      · refine r_swK (i := 24) (u := 1) (v := 643) (k := 4) (t := 191) rfl rfl h9 (by decide) (by decide) rfl ?_
        refine r_load (i := 191) (u := 1) (w := 2) rfl rfl rfl ?_
        refine r_load (i := 192) (u := 0) (w := 2) rfl rfl rfl ?_
        refine r_load (i := 193) (u := 4) (w := 0) rfl rfl rfl ?_
        refine r_const (i := 194) (u := 1) (z := 1) rfl rfl ?_
        refine r_iadd (i := 195) rfl ?_
        refine r_scA (i := 196) hG rfl (by omega) (by omega) fun h205 => ?_
        have h205 : Rg (sc (i + 1).toNat) := h205
        refine r_load (i := 197) (u := 0) (w := 2) rfl rfl rfl ?_
        refine r_load (i := 198) (u := 4) (w := 0) rfl rfl rfl ?_
        refine r_const (i := 199) (u := 2) (z := 2) rfl rfl ?_
        refine r_iadd (i := 200) rfl ?_
        refine r_scA (i := 201) hG rfl (by omega) (by omega) fun h206 => ?_
        have h206 : Rg (sc (i + 2).toNat) := h206
        have h207 := hI.f tf1_7
        refine r_call (i := 202) (u := 0) (v := 12) (w := 0) (b := 0) (na := 771) (C2 := xC12) (as := [(2, 0), vi (sc (i + 1).toNat), vi (sc (i + 2).toNat)]) (s := []) rfl rfl rfl rfl rfl rfl rfl (sp12 (t := sc (i + 1).toNat) (o := sc (i + 2).toNat) hI ⟨by omega, by omega⟩ ⟨by omega, by omega⟩   (by omega)) (fun r208 S209 hq210 => ?_)
        obtain ⟨z211, rfl, h212, h213, cs214, rfl⟩ := hq210
        refine Or.inr (Or.inl ⟨rfl, ?_⟩)
        refine r_pop (i := 203) rfl rfl ?_
        refine r_load (i := 204) (u := 2) (w := 2) rfl rfl rfl ?_
        refine r_load (i := 205) (u := 0) (w := 2) rfl rfl rfl ?_
        refine r_load (i := 206) (u := 4) (w := 0) rfl rfl rfl ?_
        refine r_const (i := 207) (u := 1) (z := 1) rfl rfl ?_
        refine r_iadd (i := 208) rfl ?_
        refine r_scA (i := 209) hG rfl (by omega) (by omega) fun h215 => ?_
        have h215 : Rg (sc (i + 1).toNat) := h215
        refine r_load (i := 210) (u := 0) (w := 2) rfl rfl rfl ?_
        refine r_load (i := 211) (u := 4) (w := 0) rfl rfl rfl ?_
        refine r_const (i := 212) (u := 2) (z := 2) rfl rfl ?_
        refine r_iadd (i := 213) rfl ?_
        refine r_scA (i := 214) hG rfl (by omega) (by omega) fun h216 => ?_
        have h216 : Rg (sc (i + 2).toNat) := h216
        have h217 := hI.f tf43_1
        refine r_call (i := 215) (u := 11) (v := 211) (w := 0) (b := 0) (na := 771) (C2 := xC211) (as := [(2, 43), vi (sc (i + 1).toNat), vi (sc (i + 2).toNat)]) (s := []) rfl rfl rfl rfl rfl rfl rfl (sp211 (t := sc (i + 1).toNat) (o := sc (i + 2).toNat) hI ⟨by omega, by omega⟩ ⟨by omega, by omega⟩   (by omega)) (fun r218 S219 hq220 => ?_)
        obtain ⟨z221, rfl, h222, h223, ms224, hI225, hF226, hR227⟩ := hq220
        have e228 := N23x.fr e_N23 hF226 hR227 rfl rfl rfl
        have e229 := CRx.fr e_CR hF226 rfl rfl
        have e230 := RTx.fr e_RT hF226 rfl rfl
        have e231 := RSx.fr e_RS hF226 rfl rfl
        have e232 := wRM_rm q_0 hR227
        refine Or.inr (Or.inl ⟨rfl, ?_⟩)
        have eq9 := RS_sub e_RT e_RS hI.m3 (hI.f tf1_7).2 cs214 ms224 rfl (fun _ => rfl) (fun _ => rfl) (fun _ => rfl)
        refine r_pop (i := 216) rfl rfl ?_
        refine r_goto (i := 217) (v := 643) rfl ?_
        refine r_iinc (i := 643) (u := 10) (v := 4) (s := 10) (L1 := [some ((6, 0)), some ((2, 0)), some ((2, 43)), some ((2, 81)), some (vi (i + 10)), none, none]) rfl rfl rfl rfl rfl ?_
        refine r_goto (i := 644) (v := 13) rfl ?_
        exact ih S219 hI225 e228 e229 e230 e231 (i + 10) ⟨by omega, by omega⟩ (by exact wRM_le e232 (by omega)) (by omega)
      · refine r_swK (i := 24) (u := 1) (v := 643) (k := 5) (t := 218) rfl rfl h10 (by decide) (by decide) rfl ?_
        refine r_load (i := 218) (u := 1) (w := 2) rfl rfl rfl ?_
        refine r_load (i := 219) (u := 0) (w := 2) rfl rfl rfl ?_
        refine r_load (i := 220) (u := 4) (w := 0) rfl rfl rfl ?_
        refine r_const (i := 221) (u := 1) (z := 1) rfl rfl ?_
        refine r_iadd (i := 222) rfl ?_
        refine r_scA (i := 223) hG rfl (by omega) (by omega) fun h233 => ?_
        have h233 : Rg (sc (i + 1).toNat) := h233
        refine r_load (i := 224) (u := 0) (w := 2) rfl rfl rfl ?_
        refine r_load (i := 225) (u := 4) (w := 0) rfl rfl rfl ?_
        refine r_const (i := 226) (u := 2) (z := 2) rfl rfl ?_
        refine r_iadd (i := 227) rfl ?_
        refine r_scA (i := 228) hG rfl (by omega) (by omega) fun h234 => ?_
        have h234 : Rg (sc (i + 2).toNat) := h234
        refine r_call (i := 229) (u := 0) (v := 14) (w := 0) (b := 0) (na := 771) (C2 := xC14) (as := [(2, 0), vi (sc (i + 1).toNat), vi (sc (i + 2).toNat)]) (s := []) rfl rfl rfl rfl rfl rfl rfl (sp14 (w0 := sc (i + 1).toNat) (k := sc (i + 2).toNat) hI ⟨by omega, by omega⟩ ⟨by omega, by omega⟩   (by omega)) (fun r235 S236 hq237 => ?_)
        obtain ⟨z238, rfl, h239, h240, h241, hI242, hF243, hR244⟩ := hq237
        have e245 := N23x.fr e_N23 hF243 hR244 rfl rfl rfl
        have e246 := CRx.fr e_CR hF243 rfl rfl
        have e247 := RTx.fr e_RT hF243 rfl rfl
        have e248 := RSx.fr e_RS hF243 rfl rfl
        have e249 := wRM_rm q_0 hR244
        refine Or.inr (Or.inl ⟨rfl, ?_⟩)
        refine r_pop (i := 230) rfl rfl ?_
        refine r_load (i := 231) (u := 2) (w := 2) rfl rfl rfl ?_
        refine r_load (i := 232) (u := 0) (w := 2) rfl rfl rfl ?_
        refine r_load (i := 233) (u := 4) (w := 0) rfl rfl rfl ?_
        refine r_const (i := 234) (u := 1) (z := 1) rfl rfl ?_
        refine r_iadd (i := 235) rfl ?_
        refine r_scA (i := 236) hG rfl (by omega) (by omega) fun h250 => ?_
        have h250 : Rg (sc (i + 1).toNat) := h250
        refine r_load (i := 237) (u := 0) (w := 2) rfl rfl rfl ?_
        refine r_load (i := 238) (u := 4) (w := 0) rfl rfl rfl ?_
        refine r_const (i := 239) (u := 2) (z := 2) rfl rfl ?_
        refine r_iadd (i := 240) rfl ?_
        refine r_scA (i := 241) hG rfl (by omega) (by omega) fun h251 => ?_
        have h251 : Rg (sc (i + 2).toNat) := h251
        refine r_call (i := 242) (u := 11) (v := 232) (w := 0) (b := 0) (na := 771) (C2 := xC232) (as := [(2, 43), vi (sc (i + 1).toNat), vi (sc (i + 2).toNat)]) (s := []) rfl rfl rfl rfl rfl rfl rfl (sp232 (w0 := sc (i + 1).toNat) (k := sc (i + 2).toNat) hI242 ⟨by omega, by omega⟩ ⟨by omega, by omega⟩   (by omega)) (fun r252 S253 hq254 => ?_)
        obtain ⟨z255, rfl, h256, h257, h258, hI259, hF260, hR261⟩ := hq254
        have e262 := N23x.fr e245 hF260 hR261 rfl rfl rfl
        have e263 := CRx.fr e246 hF260 rfl rfl
        have e264 := RTx.fr e247 hF260 rfl rfl
        have e265 := RSx.fr e248 hF260 rfl rfl
        have e266 := wRM_rm e249 hR261
        refine Or.inr (Or.inl ⟨rfl, ?_⟩)
        refine r_pop (i := 243) rfl rfl ?_
        refine r_goto (i := 244) (v := 643) rfl ?_
        refine r_iinc (i := 643) (u := 10) (v := 4) (s := 10) (L1 := [some ((6, 0)), some ((2, 0)), some ((2, 43)), some ((2, 81)), some (vi (i + 10)), none, none]) rfl rfl rfl rfl rfl ?_
        refine r_goto (i := 644) (v := 13) rfl ?_
        exact ih S253 hI259 e262 e263 e264 e265 (i + 10) ⟨by omega, by omega⟩ (by exact wRM_le e266 (by omega)) (by omega)
      · refine r_swK (i := 24) (u := 1) (v := 643) (k := 6) (t := 245) rfl rfl h11 (by decide) (by decide) rfl ?_
        refine r_load (i := 245) (u := 1) (w := 2) rfl rfl rfl ?_
        refine r_load (i := 246) (u := 0) (w := 2) rfl rfl rfl ?_
        refine r_load (i := 247) (u := 4) (w := 0) rfl rfl rfl ?_
        refine r_const (i := 248) (u := 1) (z := 1) rfl rfl ?_
        refine r_iadd (i := 249) rfl ?_
        refine r_scA (i := 250) hG rfl (by omega) (by omega) fun h267 => ?_
        have h267 : Rg (sc (i + 1).toNat) := h267
        refine r_load (i := 251) (u := 0) (w := 2) rfl rfl rfl ?_
        refine r_load (i := 252) (u := 4) (w := 0) rfl rfl rfl ?_
        refine r_const (i := 253) (u := 2) (z := 2) rfl rfl ?_
        refine r_iadd (i := 254) rfl ?_
        refine r_scA (i := 255) hG rfl (by omega) (by omega) fun h268 => ?_
        have h268 : Rg (sc (i + 2).toNat) := h268
        refine r_load (i := 256) (u := 0) (w := 2) rfl rfl rfl ?_
        refine r_load (i := 257) (u := 4) (w := 0) rfl rfl rfl ?_
        refine r_const (i := 258) (u := 3) (z := 3) rfl rfl ?_
        refine r_iadd (i := 259) rfl ?_
        refine r_scA (i := 260) hG rfl (by omega) (by omega) fun h269 => ?_
        have h269 : Rg (sc (i + 3).toNat) := h269
        refine r_load (i := 261) (u := 0) (w := 2) rfl rfl rfl ?_
        refine r_load (i := 262) (u := 4) (w := 0) rfl rfl rfl ?_
        refine r_const (i := 263) (u := 4) (z := 4) rfl rfl ?_
        refine r_iadd (i := 264) rfl ?_
        refine r_scA (i := 265) hG rfl (by omega) (by omega) fun h270 => ?_
        have h270 : Rg (sc (i + 4).toNat) := h270
        refine r_load (i := 266) (u := 3) (w := 2) rfl rfl rfl ?_
        refine r_call (i := 267) (u := 65535) (v := 175) (w := 0) (b := 2) (na := 1798) (C2 := xC175) (as := [(2, 0), vi (sc (i + 1).toNat), vi (sc (i + 2).toNat), vi (sc (i + 3).toNat), vi (sc (i + 4).toNat), (2, 81)]) (s := []) rfl rfl rfl rfl rfl rfl rfl (sp175 (p0 := sc (i + 1).toNat) (p1 := sc (i + 2).toNat) (p2 := sc (i + 3).toNat) (p3 := sc (i + 4).toNat) (kR := 5199 - i) hI ⟨by omega, by omega⟩ ⟨by omega, by omega⟩ ⟨by omega, by omega⟩ ⟨by omega, by omega⟩ (by exact wRM_le q_0 (by omega)) (by omega) e_N23 e_CR (by omega)) (fun r271 S272 hq273 => ?_)
        obtain ⟨z274, rfl, h275, h276, rm277, e278, e279, hI280, hF281⟩ := hq273
        have e282 := RTx.fr e_RT hF281 rfl rfl
        have e283 := RSx.fr e_RS hF281 rfl rfl
        refine Or.inr (Or.inl ⟨rfl, ?_⟩)
        refine r_store (i := 268) (u := 5) (w := 0) (L1 := [some ((6, 0)), some ((2, 0)), some ((2, 43)), some ((2, 81)), some (vi i), some (vi z274), none]) rfl rfl rfl rfl ?_
        refine r_load (i := 269) (u := 2) (w := 2) rfl rfl rfl ?_
        refine r_load (i := 270) (u := 0) (w := 2) rfl rfl rfl ?_
        refine r_load (i := 271) (u := 4) (w := 0) rfl rfl rfl ?_
        refine r_const (i := 272) (u := 1) (z := 1) rfl rfl ?_
        refine r_iadd (i := 273) rfl ?_
        refine r_scA (i := 274) hG rfl (by omega) (by omega) fun h284 => ?_
        have h284 : Rg (sc (i + 1).toNat) := h284
        refine r_load (i := 275) (u := 0) (w := 2) rfl rfl rfl ?_
        refine r_load (i := 276) (u := 4) (w := 0) rfl rfl rfl ?_
        refine r_const (i := 277) (u := 2) (z := 2) rfl rfl ?_
        refine r_iadd (i := 278) rfl ?_
        refine r_scA (i := 279) hG rfl (by omega) (by omega) fun h285 => ?_
        have h285 : Rg (sc (i + 2).toNat) := h285
        refine r_load (i := 280) (u := 0) (w := 2) rfl rfl rfl ?_
        refine r_load (i := 281) (u := 4) (w := 0) rfl rfl rfl ?_
        refine r_const (i := 282) (u := 3) (z := 3) rfl rfl ?_
        refine r_iadd (i := 283) rfl ?_
        refine r_scA (i := 284) hG rfl (by omega) (by omega) fun h286 => ?_
        have h286 : Rg (sc (i + 3).toNat) := h286
        refine r_load (i := 285) (u := 0) (w := 2) rfl rfl rfl ?_
        refine r_load (i := 286) (u := 4) (w := 0) rfl rfl rfl ?_
        refine r_const (i := 287) (u := 4) (z := 4) rfl rfl ?_
        refine r_iadd (i := 288) rfl ?_
        refine r_scA (i := 289) hG rfl (by omega) (by omega) fun h287 => ?_
        have h287 : Rg (sc (i + 4).toNat) := h287
        refine r_call (i := 290) (u := 11) (v := 203) (w := 0) (b := 0) (na := 2565) (C2 := xC203) (as := [(2, 43), vi (sc (i + 1).toNat), vi (sc (i + 2).toNat), vi (sc (i + 3).toNat), vi (sc (i + 4).toNat)]) (s := []) rfl rfl rfl rfl rfl rfl rfl (sp203 (c := sc (i + 1).toNat) (a := sc (i + 2).toNat) (b := sc (i + 3).toNat) (e := sc (i + 4).toNat) hI280 ⟨by omega, by omega⟩ ⟨by omega, by omega⟩ ⟨by omega, by omega⟩ ⟨by omega, by omega⟩  e279 (by omega)) (fun r288 S289 hq290 => ?_)
        obtain ⟨z291, rfl, h292, h293, e294, hI295, hF296, hR297⟩ := hq290
        have e298 := RTx.fr e282 hF296 rfl rfl
        have e299 := RSx.fr e283 hF296 rfl rfl
        have e300 := N23x.fr e278 hF296 hR297 rfl rfl rfl
        have e301 := wRM_rm rm277 hR297
        refine Or.inr (Or.inl ⟨rfl, ?_⟩)
        refine r_store (i := 291) (u := 6) (w := 0) (L1 := [some ((6, 0)), some ((2, 0)), some ((2, 43)), some ((2, 81)), some (vi i), some (vi z274), some (vi z291)]) rfl rfl rfl rfl ?_
        refine r_goto (i := 292) (v := 643) rfl ?_
        refine r_iinc (i := 643) (u := 10) (v := 4) (s := 10) (L1 := [some ((6, 0)), some ((2, 0)), some ((2, 43)), some ((2, 81)), some (vi (i + 10)), some (vi z274), some (vi z291)]) rfl rfl rfl rfl rfl ?_
        refine r_goto (i := 644) (v := 13) rfl ?_
        refine yT_drop (L1 := [some ((6, 0)), some ((2, 0)), some ((2, 43)), some ((2, 81)), some (vi (i + 10)), none, none]) rfl ?_
        exact ih S289 hI295 e300 e294 e298 e299 (i + 10) ⟨by omega, by omega⟩ (by exact wRM_le e301 (by omega)) (by omega)
      · refine r_swK (i := 24) (u := 1) (v := 643) (k := 7) (t := 293) rfl rfl h12 (by decide) (by decide) rfl ?_
        refine r_load (i := 293) (u := 1) (w := 2) rfl rfl rfl ?_
        refine r_call (i := 294) (u := 0) (v := 19) (w := 0) (b := 0) (na := 257) (C2 := xC19) (as := [(2, 0)]) (s := []) rfl rfl rfl rfl rfl rfl rfl (sp19  hI    (by omega)) (fun r302 S303 hq304 => ?_)
        obtain ⟨z305, rfl, h306, h307, rfl⟩ := hq304
        refine Or.inr (Or.inl ⟨rfl, ?_⟩)
        refine r_pop (i := 295) rfl rfl ?_
        refine r_load (i := 296) (u := 2) (w := 2) rfl rfl rfl ?_
        refine r_call (i := 297) (u := 11) (v := 244) (w := 0) (b := 0) (na := 257) (C2 := xC244) (as := [(2, 43)]) (s := []) rfl rfl rfl rfl rfl rfl rfl (sp244  hI    (by omega)) (fun r308 S309 hq310 => ?_)
        obtain ⟨z311, rfl, h312, h313, hI314, hF315, hR316⟩ := hq310
        have e317 := N23x.fr e_N23 hF315 hR316 rfl rfl rfl
        have e318 := CRx.fr e_CR hF315 rfl rfl
        have e319 := RTx.fr e_RT hF315 rfl rfl
        have e320 := RSx.fr e_RS hF315 rfl rfl
        have e321 := wRM_rm q_0 hR316
        refine Or.inr (Or.inl ⟨rfl, ?_⟩)
        refine r_pop (i := 298) rfl rfl ?_
        refine r_goto (i := 299) (v := 643) rfl ?_
        refine r_iinc (i := 643) (u := 10) (v := 4) (s := 10) (L1 := [some ((6, 0)), some ((2, 0)), some ((2, 43)), some ((2, 81)), some (vi (i + 10)), none, none]) rfl rfl rfl rfl rfl ?_
        refine r_goto (i := 644) (v := 13) rfl ?_
        exact ih S309 hI314 e317 e318 e319 e320 (i + 10) ⟨by omega, by omega⟩ (by exact wRM_le e321 (by omega)) (by omega)
      · refine r_swK (i := 24) (u := 1) (v := 643) (k := 8) (t := 300) rfl rfl h13 (by decide) (by decide) rfl ?_
        refine r_load (i := 300) (u := 1) (w := 2) rfl rfl rfl ?_
        refine r_load (i := 301) (u := 0) (w := 2) rfl rfl rfl ?_
        refine r_load (i := 302) (u := 4) (w := 0) rfl rfl rfl ?_
        refine r_const (i := 303) (u := 1) (z := 1) rfl rfl ?_
        refine r_iadd (i := 304) rfl ?_
        refine r_scA (i := 305) hG rfl (by omega) (by omega) fun h322 => ?_
        have h322 : Rg (sc (i + 1).toNat) := h322
        refine r_call (i := 306) (u := 0) (v := 18) (w := 0) (b := 0) (na := 514) (C2 := xC18) (as := [(2, 0), vi (sc (i + 1).toNat)]) (s := []) rfl rfl rfl rfl rfl rfl rfl (sp18 (k := sc (i + 1).toNat) hI ⟨by omega, by omega⟩   (by omega)) (fun r323 S324 hq325 => ?_)
        obtain ⟨z326, rfl, h327, h328, rfl⟩ := hq325
        refine Or.inr (Or.inl ⟨rfl, ?_⟩)
        refine r_pop (i := 307) rfl rfl ?_
        refine r_load (i := 308) (u := 2) (w := 2) rfl rfl rfl ?_
        refine r_load (i := 309) (u := 0) (w := 2) rfl rfl rfl ?_
        refine r_load (i := 310) (u := 4) (w := 0) rfl rfl rfl ?_
        refine r_const (i := 311) (u := 1) (z := 1) rfl rfl ?_
        refine r_iadd (i := 312) rfl ?_
        refine r_scA (i := 313) hG rfl (by omega) (by omega) fun h329 => ?_
        have h329 : Rg (sc (i + 1).toNat) := h329
        refine r_call (i := 314) (u := 11) (v := 243) (w := 0) (b := 0) (na := 514) (C2 := xC243) (as := [(2, 43), vi (sc (i + 1).toNat)]) (s := []) rfl rfl rfl rfl rfl rfl rfl (sp243 (k := sc (i + 1).toNat) hI ⟨by omega, by omega⟩   (by omega)) (fun r330 S331 hq332 => ?_)
        obtain ⟨z333, rfl, h334, h335, hI336, hF337, hR338⟩ := hq332
        have e339 := N23x.fr e_N23 hF337 hR338 rfl rfl rfl
        have e340 := CRx.fr e_CR hF337 rfl rfl
        have e341 := RTx.fr e_RT hF337 rfl rfl
        have e342 := RSx.fr e_RS hF337 rfl rfl
        have e343 := wRM_rm q_0 hR338
        refine Or.inr (Or.inl ⟨rfl, ?_⟩)
        refine r_pop (i := 315) rfl rfl ?_
        refine r_goto (i := 316) (v := 643) rfl ?_
        refine r_iinc (i := 643) (u := 10) (v := 4) (s := 10) (L1 := [some ((6, 0)), some ((2, 0)), some ((2, 43)), some ((2, 81)), some (vi (i + 10)), none, none]) rfl rfl rfl rfl rfl ?_
        refine r_goto (i := 644) (v := 13) rfl ?_
        exact ih S331 hI336 e339 e340 e341 e342 (i + 10) ⟨by omega, by omega⟩ (by exact wRM_le e343 (by omega)) (by omega)
      · refine r_swK (i := 24) (u := 1) (v := 643) (k := 9) (t := 317) rfl rfl h14 (by decide) (by decide) rfl ?_
        refine r_load (i := 317) (u := 1) (w := 2) rfl rfl rfl ?_
        refine r_load (i := 318) (u := 0) (w := 2) rfl rfl rfl ?_
        refine r_load (i := 319) (u := 4) (w := 0) rfl rfl rfl ?_
        refine r_const (i := 320) (u := 1) (z := 1) rfl rfl ?_
        refine r_iadd (i := 321) rfl ?_
        refine r_scA (i := 322) hG rfl (by omega) (by omega) fun h344 => ?_
        have h344 : Rg (sc (i + 1).toNat) := h344
        refine r_load (i := 323) (u := 0) (w := 2) rfl rfl rfl ?_
        refine r_load (i := 324) (u := 4) (w := 0) rfl rfl rfl ?_
        refine r_const (i := 325) (u := 2) (z := 2) rfl rfl ?_
        refine r_iadd (i := 326) rfl ?_
        refine r_scA (i := 327) hG rfl (by omega) (by omega) fun h345 => ?_
        have h345 : Rg (sc (i + 2).toNat) := h345
        refine r_i2l (i := 328) rfl ⟨by omega, by omega⟩ ?_
        refine r_const (i := 329) (u := 32) (z := 32) rfl rfl ?_
        refine r_lshl (i := 330) rfl ?_
        refine r_load (i := 331) (u := 0) (w := 2) rfl rfl rfl ?_
        refine r_load (i := 332) (u := 4) (w := 0) rfl rfl rfl ?_
        refine r_const (i := 333) (u := 3) (z := 3) rfl rfl ?_
        refine r_iadd (i := 334) rfl ?_
        refine r_scA (i := 335) hG rfl (by omega) (by omega) fun h346 => ?_
        have h346 : Rg (sc (i + 3).toNat) := h346
        refine r_i2l (i := 336) rfl ⟨by omega, by omega⟩ ?_
        refine r_lconst (i := 337) (u := 4294967295) (z := 4294967295) rfl rfl ?_
        refine r_land (i := 338) rfl ?_
        have h347 := @yland_c (sc (i + 3).toNat) 4294967295 (by decide) (by decide)
        refine r_lor (i := 339) rfl ?_
        have h348 := ylor_rl ((sc (i + 2).toNat) * 4294967296) (yland (sc (i + 3).toNat) 4294967295)
        refine r_call (i := 340) (u := 65535) (v := 173) (w := 0) (b := 2) (na := 1283) (C2 := xC173) (as := [(2, 0), vi (sc (i + 1).toNat), vl (ylor ((sc (i + 2).toNat) * 4294967296) (yland (sc (i + 3).toNat) 4294967295))]) (s := []) rfl rfl rfl rfl rfl rfl rfl (sp173 (p0 := sc (i + 1).toNat) (p1 := ylor ((sc (i + 2).toNat) * 4294967296) (yland (sc (i + 3).toNat) 4294967295)) (kR := 5199 - i) hI ⟨by omega, by omega⟩ ⟨by omega, by omega⟩ (by exact wRM_le q_0 (by omega)) (by omega) e_N23 e_CR (by omega)) (fun r349 S350 hq351 => ?_)
        obtain ⟨z352, rfl, h353, h354, rm355, han356, e357, e358, hI359, hF360⟩ := hq351
        have e361 := RTx.fr e_RT hF360 rfl rfl
        have e362 := RSx.fr e_RS hF360 rfl rfl
        refine Or.inr (Or.inl ⟨rfl, ?_⟩)
        refine r_store (i := 341) (u := 5) (w := 0) (L1 := [some ((6, 0)), some ((2, 0)), some ((2, 43)), some ((2, 81)), some (vi i), some (vi z352), none]) rfl rfl rfl rfl ?_
        refine r_load (i := 342) (u := 2) (w := 2) rfl rfl rfl ?_
        refine r_load (i := 343) (u := 0) (w := 2) rfl rfl rfl ?_
        refine r_load (i := 344) (u := 4) (w := 0) rfl rfl rfl ?_
        refine r_const (i := 345) (u := 1) (z := 1) rfl rfl ?_
        refine r_iadd (i := 346) rfl ?_
        refine r_scA (i := 347) hG rfl (by omega) (by omega) fun h363 => ?_
        have h363 : Rg (sc (i + 1).toNat) := h363
        refine r_load (i := 348) (u := 0) (w := 2) rfl rfl rfl ?_
        refine r_load (i := 349) (u := 4) (w := 0) rfl rfl rfl ?_
        refine r_const (i := 350) (u := 2) (z := 2) rfl rfl ?_
        refine r_iadd (i := 351) rfl ?_
        refine r_scA (i := 352) hG rfl (by omega) (by omega) fun h364 => ?_
        have h364 : Rg (sc (i + 2).toNat) := h364
        refine r_i2l (i := 353) rfl ⟨by omega, by omega⟩ ?_
        refine r_const (i := 354) (u := 32) (z := 32) rfl rfl ?_
        refine r_lshl (i := 355) rfl ?_
        refine r_load (i := 356) (u := 0) (w := 2) rfl rfl rfl ?_
        refine r_load (i := 357) (u := 4) (w := 0) rfl rfl rfl ?_
        refine r_const (i := 358) (u := 3) (z := 3) rfl rfl ?_
        refine r_iadd (i := 359) rfl ?_
        refine r_scA (i := 360) hG rfl (by omega) (by omega) fun h365 => ?_
        have h365 : Rg (sc (i + 3).toNat) := h365
        refine r_i2l (i := 361) rfl ⟨by omega, by omega⟩ ?_
        refine r_lconst (i := 362) (u := 4294967295) (z := 4294967295) rfl rfl ?_
        refine r_land (i := 363) rfl ?_
        have h366 := @yland_c (sc (i + 3).toNat) 4294967295 (by decide) (by decide)
        refine r_lor (i := 364) rfl ?_
        have h367 := ylor_rl ((sc (i + 2).toNat) * 4294967296) (yland (sc (i + 3).toNat) 4294967295)
        refine r_call (i := 365) (u := 11) (v := 181) (w := 0) (b := 0) (na := 1539) (C2 := xC181) (as := [(2, 43), vi (sc (i + 1).toNat), vl (ylor ((sc (i + 2).toNat) * 4294967296) (yland (sc (i + 3).toNat) 4294967295))]) (s := []) rfl rfl rfl rfl rfl rfl rfl (sp181 (w0 := sc (i + 1).toNat) (v := ylor ((sc (i + 2).toNat) * 4294967296) (yland (sc (i + 3).toNat) 4294967295)) hI359 ⟨by omega, by omega⟩ ⟨by omega, by omega⟩   (by omega)) (fun r368 S369 hq370 => ?_)
        obtain ⟨rfl, ma371, hI372, hF373, hR374⟩ := hq370
        have e375 := RTx.fr e361 hF373 rfl rfl
        have e376 := RSx.fr e362 hF373 rfl rfl
        have e377 := N23x.fr e357 hF373 hR374 rfl rfl rfl
        have e378 := CRx.fr e358 hF373 rfl rfl
        have e379 := wRM_rm rm355 hR374
        refine Or.inl ⟨rfl, ?_⟩
        have rk9 := RS_ans e_RT e_RS hI.m3 han356 hF360 rfl rfl ma371
        refine r_load (i := 366) (u := 2) (w := 2) rfl rfl rfl ?_
        have h380 := hI372.f tf43_0
        refine r_call (i := 367) (u := 11) (v := 256) (w := 0) (b := 0) (na := 257) (C2 := xC256) (as := [(2, 43)]) (s := []) rfl rfl rfl rfl rfl rfl rfl (sp256  hI372    (by omega)) (fun r381 S382 hq383 => ?_)
        obtain ⟨z384, rfl, h385, h386, h387, rfl⟩ := hq383
        refine Or.inr (Or.inl ⟨rfl, ?_⟩)
        refine r_load (i := 368) (u := 5) (w := 0) rfl rfl rfl ?_
        refine c_eq (i := 369) (v := 372) rfl ⟨by omega, by omega⟩ ⟨by omega, by omega⟩ (fun h388 => ?_) (fun h389 => ?_)
        · refine r_goto (i := 372) (v := 643) rfl ?_
          refine r_iinc (i := 643) (u := 10) (v := 4) (s := 10) (L1 := [some ((6, 0)), some ((2, 0)), some ((2, 43)), some ((2, 81)), some (vi (i + 10)), some (vi z352), none]) rfl rfl rfl rfl rfl ?_
          refine r_goto (i := 644) (v := 13) rfl ?_
          refine yT_drop (L1 := [some ((6, 0)), some ((2, 0)), some ((2, 43)), some ((2, 81)), some (vi (i + 10)), none, none]) rfl ?_
          exact ih S369 hI372 e377 e378 e375 e376 (i + 10) ⟨by omega, by omega⟩ (by exact wRM_le e379 (by omega)) (by omega)
        · refine r_const (i := 370) (u := 0) (z := 0) rfl rfl ?_
          exact r_retZ (i := 371) rfl (by omega) (by omega) ⟨0, rfl, by omega, by omega⟩
      · refine r_swK (i := 24) (u := 1) (v := 643) (k := 10) (t := 373) rfl rfl h15 (by decide) (by decide) rfl ?_
        refine r_load (i := 373) (u := 1) (w := 2) rfl rfl rfl ?_
        refine r_load (i := 374) (u := 0) (w := 2) rfl rfl rfl ?_
        refine r_load (i := 375) (u := 4) (w := 0) rfl rfl rfl ?_
        refine r_const (i := 376) (u := 1) (z := 1) rfl rfl ?_
        refine r_iadd (i := 377) rfl ?_
        refine r_scA (i := 378) hG rfl (by omega) (by omega) fun h390 => ?_
        have h390 : Rg (sc (i + 1).toNat) := h390
        refine r_load (i := 379) (u := 0) (w := 2) rfl rfl rfl ?_
        refine r_load (i := 380) (u := 4) (w := 0) rfl rfl rfl ?_
        refine r_const (i := 381) (u := 2) (z := 2) rfl rfl ?_
        refine r_iadd (i := 382) rfl ?_
        refine r_scA (i := 383) hG rfl (by omega) (by omega) fun h391 => ?_
        have h391 : Rg (sc (i + 2).toNat) := h391
        refine r_i2l (i := 384) rfl ⟨by omega, by omega⟩ ?_
        refine r_const (i := 385) (u := 32) (z := 32) rfl rfl ?_
        refine r_lshl (i := 386) rfl ?_
        refine r_load (i := 387) (u := 0) (w := 2) rfl rfl rfl ?_
        refine r_load (i := 388) (u := 4) (w := 0) rfl rfl rfl ?_
        refine r_const (i := 389) (u := 3) (z := 3) rfl rfl ?_
        refine r_iadd (i := 390) rfl ?_
        refine r_scA (i := 391) hG rfl (by omega) (by omega) fun h392 => ?_
        have h392 : Rg (sc (i + 3).toNat) := h392
        refine r_i2l (i := 392) rfl ⟨by omega, by omega⟩ ?_
        refine r_lconst (i := 393) (u := 4294967295) (z := 4294967295) rfl rfl ?_
        refine r_land (i := 394) rfl ?_
        have h393 := @yland_c (sc (i + 3).toNat) 4294967295 (by decide) (by decide)
        refine r_lor (i := 395) rfl ?_
        have h394 := ylor_rl ((sc (i + 2).toNat) * 4294967296) (yland (sc (i + 3).toNat) 4294967295)
        refine r_load (i := 396) (u := 0) (w := 2) rfl rfl rfl ?_
        refine r_load (i := 397) (u := 4) (w := 0) rfl rfl rfl ?_
        refine r_const (i := 398) (u := 4) (z := 4) rfl rfl ?_
        refine r_iadd (i := 399) rfl ?_
        refine r_scA (i := 400) hG rfl (by omega) (by omega) fun h395 => ?_
        have h395 : Rg (sc (i + 4).toNat) := h395
        refine r_i2l (i := 401) rfl ⟨by omega, by omega⟩ ?_
        refine r_const (i := 402) (u := 32) (z := 32) rfl rfl ?_
        refine r_lshl (i := 403) rfl ?_
        refine r_load (i := 404) (u := 0) (w := 2) rfl rfl rfl ?_
        refine r_load (i := 405) (u := 4) (w := 0) rfl rfl rfl ?_
        refine r_const (i := 406) (u := 5) (z := 5) rfl rfl ?_
        refine r_iadd (i := 407) rfl ?_
        refine r_scA (i := 408) hG rfl (by omega) (by omega) fun h396 => ?_
        have h396 : Rg (sc (i + 5).toNat) := h396
        refine r_i2l (i := 409) rfl ⟨by omega, by omega⟩ ?_
        refine r_lconst (i := 410) (u := 4294967295) (z := 4294967295) rfl rfl ?_
        refine r_land (i := 411) rfl ?_
        have h397 := @yland_c (sc (i + 5).toNat) 4294967295 (by decide) (by decide)
        refine r_lor (i := 412) rfl ?_
        have h398 := ylor_rl ((sc (i + 4).toNat) * 4294967296) (yland (sc (i + 5).toNat) 4294967295)
        refine r_load (i := 413) (u := 0) (w := 2) rfl rfl rfl ?_
        refine r_load (i := 414) (u := 4) (w := 0) rfl rfl rfl ?_
        refine r_const (i := 415) (u := 6) (z := 6) rfl rfl ?_
        refine r_iadd (i := 416) rfl ?_
        refine r_scA (i := 417) hG rfl (by omega) (by omega) fun h399 => ?_
        have h399 : Rg (sc (i + 6).toNat) := h399
        refine r_i2l (i := 418) rfl ⟨by omega, by omega⟩ ?_
        refine r_const (i := 419) (u := 32) (z := 32) rfl rfl ?_
        refine r_lshl (i := 420) rfl ?_
        refine r_load (i := 421) (u := 0) (w := 2) rfl rfl rfl ?_
        refine r_load (i := 422) (u := 4) (w := 0) rfl rfl rfl ?_
        refine r_const (i := 423) (u := 7) (z := 7) rfl rfl ?_
        refine r_iadd (i := 424) rfl ?_
        refine r_scA (i := 425) hG rfl (by omega) (by omega) fun h400 => ?_
        have h400 : Rg (sc (i + 7).toNat) := h400
        refine r_i2l (i := 426) rfl ⟨by omega, by omega⟩ ?_
        refine r_lconst (i := 427) (u := 4294967295) (z := 4294967295) rfl rfl ?_
        refine r_land (i := 428) rfl ?_
        have h401 := @yland_c (sc (i + 7).toNat) 4294967295 (by decide) (by decide)
        refine r_lor (i := 429) rfl ?_
        have h402 := ylor_rl ((sc (i + 6).toNat) * 4294967296) (yland (sc (i + 7).toNat) 4294967295)
        refine r_load (i := 430) (u := 0) (w := 2) rfl rfl rfl ?_
        refine r_load (i := 431) (u := 4) (w := 0) rfl rfl rfl ?_
        refine r_const (i := 432) (u := 8) (z := 8) rfl rfl ?_
        refine r_iadd (i := 433) rfl ?_
        refine r_scA (i := 434) hG rfl (by omega) (by omega) fun h403 => ?_
        have h403 : Rg (sc (i + 8).toNat) := h403
        refine r_i2l (i := 435) rfl ⟨by omega, by omega⟩ ?_
        refine r_const (i := 436) (u := 32) (z := 32) rfl rfl ?_
        refine r_lshl (i := 437) rfl ?_
        refine r_load (i := 438) (u := 0) (w := 2) rfl rfl rfl ?_
        refine r_load (i := 439) (u := 4) (w := 0) rfl rfl rfl ?_
        refine r_const (i := 440) (u := 9) (z := 9) rfl rfl ?_
        refine r_iadd (i := 441) rfl ?_
        refine r_scA (i := 442) hG rfl (by omega) (by omega) fun h404 => ?_
        have h404 : Rg (sc (i + 9).toNat) := h404
        refine r_i2l (i := 443) rfl ⟨by omega, by omega⟩ ?_
        refine r_lconst (i := 444) (u := 4294967295) (z := 4294967295) rfl rfl ?_
        refine r_land (i := 445) rfl ?_
        have h405 := @yland_c (sc (i + 9).toNat) 4294967295 (by decide) (by decide)
        refine r_lor (i := 446) rfl ?_
        have h406 := ylor_rl ((sc (i + 8).toNat) * 4294967296) (yland (sc (i + 9).toNat) 4294967295)
        refine r_load (i := 447) (u := 3) (w := 2) rfl rfl rfl ?_
        refine r_call (i := 448) (u := 65535) (v := 174) (w := 0) (b := 2) (na := 3079) (C2 := xC174) (as := [(2, 0), vi (sc (i + 1).toNat), vl (ylor ((sc (i + 2).toNat) * 4294967296) (yland (sc (i + 3).toNat) 4294967295)), vl (ylor ((sc (i + 4).toNat) * 4294967296) (yland (sc (i + 5).toNat) 4294967295)), vl (ylor ((sc (i + 6).toNat) * 4294967296) (yland (sc (i + 7).toNat) 4294967295)), vl (ylor ((sc (i + 8).toNat) * 4294967296) (yland (sc (i + 9).toNat) 4294967295)), (2, 81)]) (s := []) rfl rfl rfl rfl rfl rfl rfl (sp174 (p0 := sc (i + 1).toNat) (p1 := ylor ((sc (i + 2).toNat) * 4294967296) (yland (sc (i + 3).toNat) 4294967295)) (p2 := ylor ((sc (i + 4).toNat) * 4294967296) (yland (sc (i + 5).toNat) 4294967295)) (p3 := ylor ((sc (i + 6).toNat) * 4294967296) (yland (sc (i + 7).toNat) 4294967295)) (p4 := ylor ((sc (i + 8).toNat) * 4294967296) (yland (sc (i + 9).toNat) 4294967295)) (kR := 5199 - i) hI ⟨by omega, by omega⟩ ⟨by omega, by omega⟩ ⟨by omega, by omega⟩ ⟨by omega, by omega⟩ ⟨by omega, by omega⟩ (by exact wRM_le q_0 (by omega)) (by omega) e_N23 e_CR (by omega)) (fun r407 S408 hq409 => ?_)
        obtain ⟨z410, rfl, h411, h412, rm413, e414, e415, hI416, hF417⟩ := hq409
        have e418 := RTx.fr e_RT hF417 rfl rfl
        have e419 := RSx.fr e_RS hF417 rfl rfl
        refine Or.inr (Or.inl ⟨rfl, ?_⟩)
        refine r_store (i := 449) (u := 5) (w := 0) (L1 := [some ((6, 0)), some ((2, 0)), some ((2, 43)), some ((2, 81)), some (vi i), some (vi z410), none]) rfl rfl rfl rfl ?_
        refine r_load (i := 450) (u := 2) (w := 2) rfl rfl rfl ?_
        refine r_load (i := 451) (u := 0) (w := 2) rfl rfl rfl ?_
        refine r_load (i := 452) (u := 4) (w := 0) rfl rfl rfl ?_
        refine r_const (i := 453) (u := 1) (z := 1) rfl rfl ?_
        refine r_iadd (i := 454) rfl ?_
        refine r_scA (i := 455) hG rfl (by omega) (by omega) fun h420 => ?_
        have h420 : Rg (sc (i + 1).toNat) := h420
        refine r_load (i := 456) (u := 0) (w := 2) rfl rfl rfl ?_
        refine r_load (i := 457) (u := 4) (w := 0) rfl rfl rfl ?_
        refine r_const (i := 458) (u := 2) (z := 2) rfl rfl ?_
        refine r_iadd (i := 459) rfl ?_
        refine r_scA (i := 460) hG rfl (by omega) (by omega) fun h421 => ?_
        have h421 : Rg (sc (i + 2).toNat) := h421
        refine r_i2l (i := 461) rfl ⟨by omega, by omega⟩ ?_
        refine r_const (i := 462) (u := 32) (z := 32) rfl rfl ?_
        refine r_lshl (i := 463) rfl ?_
        refine r_load (i := 464) (u := 0) (w := 2) rfl rfl rfl ?_
        refine r_load (i := 465) (u := 4) (w := 0) rfl rfl rfl ?_
        refine r_const (i := 466) (u := 3) (z := 3) rfl rfl ?_
        refine r_iadd (i := 467) rfl ?_
        refine r_scA (i := 468) hG rfl (by omega) (by omega) fun h422 => ?_
        have h422 : Rg (sc (i + 3).toNat) := h422
        refine r_i2l (i := 469) rfl ⟨by omega, by omega⟩ ?_
        refine r_lconst (i := 470) (u := 4294967295) (z := 4294967295) rfl rfl ?_
        refine r_land (i := 471) rfl ?_
        have h423 := @yland_c (sc (i + 3).toNat) 4294967295 (by decide) (by decide)
        refine r_lor (i := 472) rfl ?_
        have h424 := ylor_rl ((sc (i + 2).toNat) * 4294967296) (yland (sc (i + 3).toNat) 4294967295)
        refine r_load (i := 473) (u := 0) (w := 2) rfl rfl rfl ?_
        refine r_load (i := 474) (u := 4) (w := 0) rfl rfl rfl ?_
        refine r_const (i := 475) (u := 4) (z := 4) rfl rfl ?_
        refine r_iadd (i := 476) rfl ?_
        refine r_scA (i := 477) hG rfl (by omega) (by omega) fun h425 => ?_
        have h425 : Rg (sc (i + 4).toNat) := h425
        refine r_i2l (i := 478) rfl ⟨by omega, by omega⟩ ?_
        refine r_const (i := 479) (u := 32) (z := 32) rfl rfl ?_
        refine r_lshl (i := 480) rfl ?_
        refine r_load (i := 481) (u := 0) (w := 2) rfl rfl rfl ?_
        refine r_load (i := 482) (u := 4) (w := 0) rfl rfl rfl ?_
        refine r_const (i := 483) (u := 5) (z := 5) rfl rfl ?_
        refine r_iadd (i := 484) rfl ?_
        refine r_scA (i := 485) hG rfl (by omega) (by omega) fun h426 => ?_
        have h426 : Rg (sc (i + 5).toNat) := h426
        refine r_i2l (i := 486) rfl ⟨by omega, by omega⟩ ?_
        refine r_lconst (i := 487) (u := 4294967295) (z := 4294967295) rfl rfl ?_
        refine r_land (i := 488) rfl ?_
        have h427 := @yland_c (sc (i + 5).toNat) 4294967295 (by decide) (by decide)
        refine r_lor (i := 489) rfl ?_
        have h428 := ylor_rl ((sc (i + 4).toNat) * 4294967296) (yland (sc (i + 5).toNat) 4294967295)
        refine r_load (i := 490) (u := 0) (w := 2) rfl rfl rfl ?_
        refine r_load (i := 491) (u := 4) (w := 0) rfl rfl rfl ?_
        refine r_const (i := 492) (u := 6) (z := 6) rfl rfl ?_
        refine r_iadd (i := 493) rfl ?_
        refine r_scA (i := 494) hG rfl (by omega) (by omega) fun h429 => ?_
        have h429 : Rg (sc (i + 6).toNat) := h429
        refine r_i2l (i := 495) rfl ⟨by omega, by omega⟩ ?_
        refine r_const (i := 496) (u := 32) (z := 32) rfl rfl ?_
        refine r_lshl (i := 497) rfl ?_
        refine r_load (i := 498) (u := 0) (w := 2) rfl rfl rfl ?_
        refine r_load (i := 499) (u := 4) (w := 0) rfl rfl rfl ?_
        refine r_const (i := 500) (u := 7) (z := 7) rfl rfl ?_
        refine r_iadd (i := 501) rfl ?_
        refine r_scA (i := 502) hG rfl (by omega) (by omega) fun h430 => ?_
        have h430 : Rg (sc (i + 7).toNat) := h430
        refine r_i2l (i := 503) rfl ⟨by omega, by omega⟩ ?_
        refine r_lconst (i := 504) (u := 4294967295) (z := 4294967295) rfl rfl ?_
        refine r_land (i := 505) rfl ?_
        have h431 := @yland_c (sc (i + 7).toNat) 4294967295 (by decide) (by decide)
        refine r_lor (i := 506) rfl ?_
        have h432 := ylor_rl ((sc (i + 6).toNat) * 4294967296) (yland (sc (i + 7).toNat) 4294967295)
        refine r_load (i := 507) (u := 0) (w := 2) rfl rfl rfl ?_
        refine r_load (i := 508) (u := 4) (w := 0) rfl rfl rfl ?_
        refine r_const (i := 509) (u := 8) (z := 8) rfl rfl ?_
        refine r_iadd (i := 510) rfl ?_
        refine r_scA (i := 511) hG rfl (by omega) (by omega) fun h433 => ?_
        have h433 : Rg (sc (i + 8).toNat) := h433
        refine r_i2l (i := 512) rfl ⟨by omega, by omega⟩ ?_
        refine r_const (i := 513) (u := 32) (z := 32) rfl rfl ?_
        refine r_lshl (i := 514) rfl ?_
        refine r_load (i := 515) (u := 0) (w := 2) rfl rfl rfl ?_
        refine r_load (i := 516) (u := 4) (w := 0) rfl rfl rfl ?_
        refine r_const (i := 517) (u := 9) (z := 9) rfl rfl ?_
        refine r_iadd (i := 518) rfl ?_
        refine r_scA (i := 519) hG rfl (by omega) (by omega) fun h434 => ?_
        have h434 : Rg (sc (i + 9).toNat) := h434
        refine r_i2l (i := 520) rfl ⟨by omega, by omega⟩ ?_
        refine r_lconst (i := 521) (u := 4294967295) (z := 4294967295) rfl rfl ?_
        refine r_land (i := 522) rfl ?_
        have h435 := @yland_c (sc (i + 9).toNat) 4294967295 (by decide) (by decide)
        refine r_lor (i := 523) rfl ?_
        have h436 := ylor_rl ((sc (i + 8).toNat) * 4294967296) (yland (sc (i + 9).toNat) 4294967295)
        refine r_call (i := 524) (u := 11) (v := 188) (w := 0) (b := 0) (na := 4102) (C2 := xC188) (as := [(2, 43), vi (sc (i + 1).toNat), vl (ylor ((sc (i + 2).toNat) * 4294967296) (yland (sc (i + 3).toNat) 4294967295)), vl (ylor ((sc (i + 4).toNat) * 4294967296) (yland (sc (i + 5).toNat) 4294967295)), vl (ylor ((sc (i + 6).toNat) * 4294967296) (yland (sc (i + 7).toNat) 4294967295)), vl (ylor ((sc (i + 8).toNat) * 4294967296) (yland (sc (i + 9).toNat) 4294967295))]) (s := []) rfl rfl rfl rfl rfl rfl rfl (sp188 (k := sc (i + 1).toNat) (a := ylor ((sc (i + 2).toNat) * 4294967296) (yland (sc (i + 3).toNat) 4294967295)) (b := ylor ((sc (i + 4).toNat) * 4294967296) (yland (sc (i + 5).toNat) 4294967295)) (c := ylor ((sc (i + 6).toNat) * 4294967296) (yland (sc (i + 7).toNat) 4294967295)) (e := ylor ((sc (i + 8).toNat) * 4294967296) (yland (sc (i + 9).toNat) 4294967295)) hI416 ⟨by omega, by omega⟩ ⟨by omega, by omega⟩ ⟨by omega, by omega⟩ ⟨by omega, by omega⟩ ⟨by omega, by omega⟩   (by omega)) (fun r437 S438 hq439 => ?_)
        obtain ⟨z440, rfl, h441, h442, hI443, hF444, hR445⟩ := hq439
        have e446 := RTx.fr e418 hF444 rfl rfl
        have e447 := RSx.fr e419 hF444 rfl rfl
        have e448 := N23x.fr e414 hF444 hR445 rfl rfl rfl
        have e449 := CRx.fr e415 hF444 rfl rfl
        have e450 := wRM_rm rm413 hR445
        refine Or.inr (Or.inl ⟨rfl, ?_⟩)
        refine r_store (i := 525) (u := 6) (w := 0) (L1 := [some ((6, 0)), some ((2, 0)), some ((2, 43)), some ((2, 81)), some (vi i), some (vi z410), some (vi z440)]) rfl rfl rfl rfl ?_
        refine r_goto (i := 526) (v := 643) rfl ?_
        refine r_iinc (i := 643) (u := 10) (v := 4) (s := 10) (L1 := [some ((6, 0)), some ((2, 0)), some ((2, 43)), some ((2, 81)), some (vi (i + 10)), some (vi z410), some (vi z440)]) rfl rfl rfl rfl rfl ?_
        refine r_goto (i := 644) (v := 13) rfl ?_
        refine yT_drop (L1 := [some ((6, 0)), some ((2, 0)), some ((2, 43)), some ((2, 81)), some (vi (i + 10)), none, none]) rfl ?_
        exact ih S438 hI443 e448 e449 e446 e447 (i + 10) ⟨by omega, by omega⟩ (by exact wRM_le e450 (by omega)) (by omega)
      · refine r_swK (i := 24) (u := 1) (v := 643) (k := 11) (t := 527) rfl rfl h16 (by decide) (by decide) rfl ?_
        refine r_load (i := 527) (u := 1) (w := 2) rfl rfl rfl ?_
        refine r_call (i := 528) (u := 0) (v := 16) (w := 0) (b := 0) (na := 257) (C2 := xC16) (as := [(2, 0)]) (s := []) rfl rfl rfl rfl rfl rfl rfl (sp16  hI    (by omega)) (fun r451 S452 hq453 => ?_)
        obtain ⟨z454, rfl, h455, rfl⟩ := hq453
        refine Or.inr (Or.inl ⟨rfl, ?_⟩)
        refine r_pop2 (i := 529) rfl rfl ?_
        refine r_load (i := 530) (u := 2) (w := 2) rfl rfl rfl ?_
        refine r_call (i := 531) (u := 11) (v := 239) (w := 0) (b := 0) (na := 257) (C2 := xC239) (as := [(2, 43)]) (s := []) rfl rfl rfl rfl rfl rfl rfl (sp239  hI    (by omega)) (fun r456 S457 hq458 => ?_)
        obtain ⟨z459, rfl, h460, hI461, hF462, hR463⟩ := hq458
        have e464 := N23x.fr e_N23 hF462 hR463 rfl rfl rfl
        have e465 := CRx.fr e_CR hF462 rfl rfl
        have e466 := RTx.fr e_RT hF462 rfl rfl
        have e467 := RSx.fr e_RS hF462 rfl rfl
        have e468 := wRM_rm q_0 hR463
        refine Or.inr (Or.inl ⟨rfl, ?_⟩)
        refine r_pop2 (i := 532) rfl rfl ?_
        refine r_goto (i := 533) (v := 643) rfl ?_
        refine r_iinc (i := 643) (u := 10) (v := 4) (s := 10) (L1 := [some ((6, 0)), some ((2, 0)), some ((2, 43)), some ((2, 81)), some (vi (i + 10)), none, none]) rfl rfl rfl rfl rfl ?_
        refine r_goto (i := 644) (v := 13) rfl ?_
        exact ih S457 hI461 e464 e465 e466 e467 (i + 10) ⟨by omega, by omega⟩ (by exact wRM_le e468 (by omega)) (by omega)
      · refine r_swK (i := 24) (u := 1) (v := 643) (k := 12) (t := 534) rfl rfl h17 (by decide) (by decide) rfl ?_
        refine r_load (i := 534) (u := 1) (w := 2) rfl rfl rfl ?_
        refine r_call (i := 535) (u := 0) (v := 3) (w := 0) (b := 0) (na := 257) (C2 := xC3) (as := [(2, 0)]) (s := []) rfl rfl rfl rfl rfl rfl rfl (sp3  hI    (by omega)) (fun r469 S470 hq471 => ?_)
        obtain ⟨z472, rfl, h473, h474, rfl⟩ := hq471
        refine Or.inr (Or.inl ⟨rfl, ?_⟩)
        refine r_pop (i := 536) rfl rfl ?_
        refine r_load (i := 537) (u := 2) (w := 2) rfl rfl rfl ?_
        refine r_call (i := 538) (u := 11) (v := 184) (w := 0) (b := 0) (na := 257) (C2 := xC184) (as := [(2, 43)]) (s := []) rfl rfl rfl rfl rfl rfl rfl (sp184  hI    (by omega)) (fun r475 S476 hq477 => ?_)
        obtain ⟨z478, rfl, h479, h480, hI481, hF482, hR483⟩ := hq477
        have e484 := N23x.fr e_N23 hF482 hR483 rfl rfl rfl
        have e485 := CRx.fr e_CR hF482 rfl rfl
        have e486 := RTx.fr e_RT hF482 rfl rfl
        have e487 := RSx.fr e_RS hF482 rfl rfl
        have e488 := wRM_rm q_0 hR483
        refine Or.inr (Or.inl ⟨rfl, ?_⟩)
        refine r_pop (i := 539) rfl rfl ?_
        refine r_goto (i := 540) (v := 643) rfl ?_
        refine r_iinc (i := 643) (u := 10) (v := 4) (s := 10) (L1 := [some ((6, 0)), some ((2, 0)), some ((2, 43)), some ((2, 81)), some (vi (i + 10)), none, none]) rfl rfl rfl rfl rfl ?_
        refine r_goto (i := 644) (v := 13) rfl ?_
        exact ih S476 hI481 e484 e485 e486 e487 (i + 10) ⟨by omega, by omega⟩ (by exact wRM_le e488 (by omega)) (by omega)
      · refine r_swK (i := 24) (u := 1) (v := 643) (k := 13) (t := 541) rfl rfl h18 (by decide) (by decide) rfl ?_
        refine r_load (i := 541) (u := 1) (w := 2) rfl rfl rfl ?_
        refine r_load (i := 542) (u := 0) (w := 2) rfl rfl rfl ?_
        refine r_load (i := 543) (u := 4) (w := 0) rfl rfl rfl ?_
        refine r_const (i := 544) (u := 1) (z := 1) rfl rfl ?_
        refine r_iadd (i := 545) rfl ?_
        refine r_scA (i := 546) hG rfl (by omega) (by omega) fun h489 => ?_
        have h489 : Rg (sc (i + 1).toNat) := h489
        refine r_load (i := 547) (u := 0) (w := 2) rfl rfl rfl ?_
        refine r_load (i := 548) (u := 4) (w := 0) rfl rfl rfl ?_
        refine r_const (i := 549) (u := 2) (z := 2) rfl rfl ?_
        refine r_iadd (i := 550) rfl ?_
        refine r_scA (i := 551) hG rfl (by omega) (by omega) fun h490 => ?_
        have h490 : Rg (sc (i + 2).toNat) := h490
        refine r_call (i := 552) (u := 0) (v := 9) (w := 0) (b := 0) (na := 771) (C2 := xC9) (as := [(2, 0), vi (sc (i + 1).toNat), vi (sc (i + 2).toNat)]) (s := []) rfl rfl rfl rfl rfl rfl rfl (sp9 (i0 := sc (i + 1).toNat) (w0 := sc (i + 2).toNat) hI ⟨by omega, by omega⟩ ⟨by omega, by omega⟩   (by omega)) (fun r491 S492 hq493 => ?_)
        obtain ⟨z494, rfl, h495, rfl⟩ := hq493
        refine Or.inr (Or.inl ⟨rfl, ?_⟩)
        refine r_pop2 (i := 553) rfl rfl ?_
        refine r_load (i := 554) (u := 2) (w := 2) rfl rfl rfl ?_
        refine r_load (i := 555) (u := 0) (w := 2) rfl rfl rfl ?_
        refine r_load (i := 556) (u := 4) (w := 0) rfl rfl rfl ?_
        refine r_const (i := 557) (u := 1) (z := 1) rfl rfl ?_
        refine r_iadd (i := 558) rfl ?_
        refine r_scA (i := 559) hG rfl (by omega) (by omega) fun h496 => ?_
        have h496 : Rg (sc (i + 1).toNat) := h496
        refine r_load (i := 560) (u := 0) (w := 2) rfl rfl rfl ?_
        refine r_load (i := 561) (u := 4) (w := 0) rfl rfl rfl ?_
        refine r_const (i := 562) (u := 2) (z := 2) rfl rfl ?_
        refine r_iadd (i := 563) rfl ?_
        refine r_scA (i := 564) hG rfl (by omega) (by omega) fun h497 => ?_
        have h497 : Rg (sc (i + 2).toNat) := h497
        refine r_call (i := 565) (u := 11) (v := 205) (w := 0) (b := 0) (na := 771) (C2 := xC205) (as := [(2, 43), vi (sc (i + 1).toNat), vi (sc (i + 2).toNat)]) (s := []) rfl rfl rfl rfl rfl rfl rfl (sp205 (i0 := sc (i + 1).toNat) (w0 := sc (i + 2).toNat) hI ⟨by omega, by omega⟩ ⟨by omega, by omega⟩   (by omega)) (fun r498 S499 hq500 => ?_)
        obtain ⟨z501, rfl, h502, hI503, hF504, hR505⟩ := hq500
        have e506 := N23x.fr e_N23 hF504 hR505 rfl rfl rfl
        have e507 := CRx.fr e_CR hF504 rfl rfl
        have e508 := RTx.fr e_RT hF504 rfl rfl
        have e509 := RSx.fr e_RS hF504 rfl rfl
        have e510 := wRM_rm q_0 hR505
        refine Or.inr (Or.inl ⟨rfl, ?_⟩)
        refine r_pop2 (i := 566) rfl rfl ?_
        refine r_goto (i := 567) (v := 643) rfl ?_
        refine r_iinc (i := 643) (u := 10) (v := 4) (s := 10) (L1 := [some ((6, 0)), some ((2, 0)), some ((2, 43)), some ((2, 81)), some (vi (i + 10)), none, none]) rfl rfl rfl rfl rfl ?_
        refine r_goto (i := 644) (v := 13) rfl ?_
        exact ih S499 hI503 e506 e507 e508 e509 (i + 10) ⟨by omega, by omega⟩ (by exact wRM_le e510 (by omega)) (by omega)
      · refine r_swK (i := 24) (u := 1) (v := 643) (k := 14) (t := 568) rfl rfl h19 (by decide) (by decide) rfl ?_
        refine r_load (i := 568) (u := 1) (w := 2) rfl rfl rfl ?_
        refine r_call (i := 569) (u := 0) (v := 17) (w := 0) (b := 0) (na := 257) (C2 := xC17) (as := [(2, 0)]) (s := []) rfl rfl rfl rfl rfl rfl rfl (sp17  hI    (by omega)) (fun r511 S512 hq513 => ?_)
        obtain ⟨z514, rfl, h515, h516, rfl⟩ := hq513
        refine Or.inr (Or.inl ⟨rfl, ?_⟩)
        refine r_pop (i := 570) rfl rfl ?_
        refine r_load (i := 571) (u := 2) (w := 2) rfl rfl rfl ?_
        refine r_call (i := 572) (u := 11) (v := 242) (w := 0) (b := 0) (na := 257) (C2 := xC242) (as := [(2, 43)]) (s := []) rfl rfl rfl rfl rfl rfl rfl (sp242  hI    (by omega)) (fun r517 S518 hq519 => ?_)
        obtain ⟨z520, rfl, h521, h522, hI523, hF524, hR525⟩ := hq519
        have e526 := N23x.fr e_N23 hF524 hR525 rfl rfl rfl
        have e527 := CRx.fr e_CR hF524 rfl rfl
        have e528 := RTx.fr e_RT hF524 rfl rfl
        have e529 := RSx.fr e_RS hF524 rfl rfl
        have e530 := wRM_rm q_0 hR525
        refine Or.inr (Or.inl ⟨rfl, ?_⟩)
        refine r_pop (i := 573) rfl rfl ?_
        refine r_goto (i := 574) (v := 643) rfl ?_
        refine r_iinc (i := 643) (u := 10) (v := 4) (s := 10) (L1 := [some ((6, 0)), some ((2, 0)), some ((2, 43)), some ((2, 81)), some (vi (i + 10)), none, none]) rfl rfl rfl rfl rfl ?_
        refine r_goto (i := 644) (v := 13) rfl ?_
        exact ih S518 hI523 e526 e527 e528 e529 (i + 10) ⟨by omega, by omega⟩ (by exact wRM_le e530 (by omega)) (by omega)
      · refine r_swK (i := 24) (u := 1) (v := 643) (k := 15) (t := 575) rfl rfl h20 (by decide) (by decide) rfl ?_
        refine r_load (i := 575) (u := 1) (w := 2) rfl rfl rfl ?_
        refine r_load (i := 576) (u := 0) (w := 2) rfl rfl rfl ?_
        refine r_load (i := 577) (u := 4) (w := 0) rfl rfl rfl ?_
        refine r_const (i := 578) (u := 1) (z := 1) rfl rfl ?_
        refine r_iadd (i := 579) rfl ?_
        refine r_scA (i := 580) hG rfl (by omega) (by omega) fun h531 => ?_
        have h531 : Rg (sc (i + 1).toNat) := h531
        refine r_call (i := 581) (u := 0) (v := 4) (w := 0) (b := 0) (na := 514) (C2 := xC4) (as := [(2, 0), vi (sc (i + 1).toNat)]) (s := []) rfl rfl rfl rfl rfl rfl rfl (sp4 (k := sc (i + 1).toNat) hI ⟨by omega, by omega⟩   (by omega)) (fun r532 S533 hq534 => ?_)
        obtain ⟨z535, rfl, h536, h537, rfl⟩ := hq534
        refine Or.inr (Or.inl ⟨rfl, ?_⟩)
        refine r_pop (i := 582) rfl rfl ?_
        refine r_load (i := 583) (u := 2) (w := 2) rfl rfl rfl ?_
        refine r_load (i := 584) (u := 0) (w := 2) rfl rfl rfl ?_
        refine r_load (i := 585) (u := 4) (w := 0) rfl rfl rfl ?_
        refine r_const (i := 586) (u := 1) (z := 1) rfl rfl ?_
        refine r_iadd (i := 587) rfl ?_
        refine r_scA (i := 588) hG rfl (by omega) (by omega) fun h538 => ?_
        have h538 : Rg (sc (i + 1).toNat) := h538
        refine r_call (i := 589) (u := 11) (v := 187) (w := 0) (b := 0) (na := 514) (C2 := xC187) (as := [(2, 43), vi (sc (i + 1).toNat)]) (s := []) rfl rfl rfl rfl rfl rfl rfl (sp187 (k := sc (i + 1).toNat) hI ⟨by omega, by omega⟩   (by omega)) (fun r539 S540 hq541 => ?_)
        obtain ⟨z542, rfl, h543, h544, hI545, hF546, hR547⟩ := hq541
        have e548 := N23x.fr e_N23 hF546 hR547 rfl rfl rfl
        have e549 := CRx.fr e_CR hF546 rfl rfl
        have e550 := RTx.fr e_RT hF546 rfl rfl
        have e551 := RSx.fr e_RS hF546 rfl rfl
        have e552 := wRM_rm q_0 hR547
        refine Or.inr (Or.inl ⟨rfl, ?_⟩)
        refine r_pop (i := 590) rfl rfl ?_
        refine r_goto (i := 591) (v := 643) rfl ?_
        refine r_iinc (i := 643) (u := 10) (v := 4) (s := 10) (L1 := [some ((6, 0)), some ((2, 0)), some ((2, 43)), some ((2, 81)), some (vi (i + 10)), none, none]) rfl rfl rfl rfl rfl ?_
        refine r_goto (i := 644) (v := 13) rfl ?_
        exact ih S540 hI545 e548 e549 e550 e551 (i + 10) ⟨by omega, by omega⟩ (by exact wRM_le e552 (by omega)) (by omega)
      · refine r_swK (i := 24) (u := 1) (v := 643) (k := 16) (t := 592) rfl rfl h21 (by decide) (by decide) rfl ?_
        refine r_load (i := 592) (u := 1) (w := 2) rfl rfl rfl ?_
        refine r_load (i := 593) (u := 0) (w := 2) rfl rfl rfl ?_
        refine r_load (i := 594) (u := 4) (w := 0) rfl rfl rfl ?_
        refine r_const (i := 595) (u := 1) (z := 1) rfl rfl ?_
        refine r_iadd (i := 596) rfl ?_
        refine r_scA (i := 597) hG rfl (by omega) (by omega) fun h553 => ?_
        have h553 : Rg (sc (i + 1).toNat) := h553
        refine r_load (i := 598) (u := 0) (w := 2) rfl rfl rfl ?_
        refine r_load (i := 599) (u := 4) (w := 0) rfl rfl rfl ?_
        refine r_const (i := 600) (u := 2) (z := 2) rfl rfl ?_
        refine r_iadd (i := 601) rfl ?_
        refine r_scA (i := 602) hG rfl (by omega) (by omega) fun h554 => ?_
        have h554 : Rg (sc (i + 2).toNat) := h554
        refine r_call (i := 603) (u := 0) (v := 6) (w := 0) (b := 0) (na := 771) (C2 := xC6) (as := [(2, 0), vi (sc (i + 1).toNat), vi (sc (i + 2).toNat)]) (s := []) rfl rfl rfl rfl rfl rfl rfl (sp6 (k := sc (i + 1).toNat) (b := sc (i + 2).toNat) hI ⟨by omega, by omega⟩ ⟨by omega, by omega⟩   (by omega)) (fun r555 S556 hq557 => ?_)
        obtain ⟨z558, rfl, h559, h560, hI561, hF562, hR563⟩ := hq557
        have e564 := N23x.fr e_N23 hF562 hR563 rfl rfl rfl
        have e565 := CRx.fr e_CR hF562 rfl rfl
        have e566 := RTx.fr e_RT hF562 rfl rfl
        have e567 := RSx.fr e_RS hF562 rfl rfl
        have e568 := wRM_rm q_0 hR563
        refine Or.inr (Or.inl ⟨rfl, ?_⟩)
        refine r_pop (i := 604) rfl rfl ?_
        refine r_load (i := 605) (u := 2) (w := 2) rfl rfl rfl ?_
        refine r_load (i := 606) (u := 0) (w := 2) rfl rfl rfl ?_
        refine r_load (i := 607) (u := 4) (w := 0) rfl rfl rfl ?_
        refine r_const (i := 608) (u := 1) (z := 1) rfl rfl ?_
        refine r_iadd (i := 609) rfl ?_
        refine r_scA (i := 610) hG rfl (by omega) (by omega) fun h569 => ?_
        have h569 : Rg (sc (i + 1).toNat) := h569
        refine r_load (i := 611) (u := 0) (w := 2) rfl rfl rfl ?_
        refine r_load (i := 612) (u := 4) (w := 0) rfl rfl rfl ?_
        refine r_const (i := 613) (u := 2) (z := 2) rfl rfl ?_
        refine r_iadd (i := 614) rfl ?_
        refine r_scA (i := 615) hG rfl (by omega) (by omega) fun h570 => ?_
        have h570 : Rg (sc (i + 2).toNat) := h570
        refine r_call (i := 616) (u := 11) (v := 191) (w := 0) (b := 0) (na := 771) (C2 := xC191) (as := [(2, 43), vi (sc (i + 1).toNat), vi (sc (i + 2).toNat)]) (s := []) rfl rfl rfl rfl rfl rfl rfl (sp191 (k := sc (i + 1).toNat) (b := sc (i + 2).toNat) hI561 ⟨by omega, by omega⟩ ⟨by omega, by omega⟩   (by omega)) (fun r571 S572 hq573 => ?_)
        obtain ⟨z574, rfl, h575, h576, hI577, hF578, hR579⟩ := hq573
        have e580 := N23x.fr e564 hF578 hR579 rfl rfl rfl
        have e581 := CRx.fr e565 hF578 rfl rfl
        have e582 := RTx.fr e566 hF578 rfl rfl
        have e583 := RSx.fr e567 hF578 rfl rfl
        have e584 := wRM_rm e568 hR579
        refine Or.inr (Or.inl ⟨rfl, ?_⟩)
        refine r_pop (i := 617) rfl rfl ?_
        refine r_goto (i := 618) (v := 643) rfl ?_
        refine r_iinc (i := 643) (u := 10) (v := 4) (s := 10) (L1 := [some ((6, 0)), some ((2, 0)), some ((2, 43)), some ((2, 81)), some (vi (i + 10)), none, none]) rfl rfl rfl rfl rfl ?_
        refine r_goto (i := 644) (v := 13) rfl ?_
        exact ih S572 hI577 e580 e581 e582 e583 (i + 10) ⟨by omega, by omega⟩ (by exact wRM_le e584 (by omega)) (by omega)
      · refine r_swK (i := 24) (u := 1) (v := 643) (k := 17) (t := 619) rfl rfl h22 (by decide) (by decide) rfl ?_
        refine r_load (i := 619) (u := 1) (w := 2) rfl rfl rfl ?_
        refine r_load (i := 620) (u := 0) (w := 2) rfl rfl rfl ?_
        refine r_load (i := 621) (u := 4) (w := 0) rfl rfl rfl ?_
        refine r_const (i := 622) (u := 1) (z := 1) rfl rfl ?_
        refine r_iadd (i := 623) rfl ?_
        refine r_scA (i := 624) hG rfl (by omega) (by omega) fun h585 => ?_
        have h585 : Rg (sc (i + 1).toNat) := h585
        refine r_call (i := 625) (u := 0) (v := 7) (w := 0) (b := 0) (na := 514) (C2 := xC7) (as := [(2, 0), vi (sc (i + 1).toNat)]) (s := []) rfl rfl rfl rfl rfl rfl rfl (sp7 (k := sc (i + 1).toNat) hI ⟨by omega, by omega⟩   (by omega)) (fun r586 S587 hq588 => ?_)
        obtain ⟨z589, rfl, h590, h591, hI592, hF593, hR594⟩ := hq588
        have e595 := N23x.fr e_N23 hF593 hR594 rfl rfl rfl
        have e596 := CRx.fr e_CR hF593 rfl rfl
        have e597 := RTx.fr e_RT hF593 rfl rfl
        have e598 := RSx.fr e_RS hF593 rfl rfl
        have e599 := wRM_rm q_0 hR594
        refine Or.inr (Or.inl ⟨rfl, ?_⟩)
        refine r_pop (i := 626) rfl rfl ?_
        refine r_load (i := 627) (u := 2) (w := 2) rfl rfl rfl ?_
        refine r_load (i := 628) (u := 0) (w := 2) rfl rfl rfl ?_
        refine r_load (i := 629) (u := 4) (w := 0) rfl rfl rfl ?_
        refine r_const (i := 630) (u := 1) (z := 1) rfl rfl ?_
        refine r_iadd (i := 631) rfl ?_
        refine r_scA (i := 632) hG rfl (by omega) (by omega) fun h600 => ?_
        have h600 : Rg (sc (i + 1).toNat) := h600
        refine r_call (i := 633) (u := 11) (v := 197) (w := 0) (b := 0) (na := 514) (C2 := xC197) (as := [(2, 43), vi (sc (i + 1).toNat)]) (s := []) rfl rfl rfl rfl rfl rfl rfl (sp197 (k := sc (i + 1).toNat) hI592 ⟨by omega, by omega⟩   (by omega)) (fun r601 S602 hq603 => ?_)
        obtain ⟨z604, rfl, h605, h606, hI607, hF608, hR609⟩ := hq603
        have e610 := N23x.fr e595 hF608 hR609 rfl rfl rfl
        have e611 := CRx.fr e596 hF608 rfl rfl
        have e612 := RTx.fr e597 hF608 rfl rfl
        have e613 := RSx.fr e598 hF608 rfl rfl
        have e614 := wRM_rm e599 hR609
        refine Or.inr (Or.inl ⟨rfl, ?_⟩)
        refine r_pop (i := 634) rfl rfl ?_
        refine r_goto (i := 635) (v := 643) rfl ?_
        refine r_iinc (i := 643) (u := 10) (v := 4) (s := 10) (L1 := [some ((6, 0)), some ((2, 0)), some ((2, 43)), some ((2, 81)), some (vi (i + 10)), none, none]) rfl rfl rfl rfl rfl ?_
        refine r_goto (i := 644) (v := 13) rfl ?_
        exact ih S602 hI607 e610 e611 e612 e613 (i + 10) ⟨by omega, by omega⟩ (by exact wRM_le e614 (by omega)) (by omega)
      · refine r_swK (i := 24) (u := 1) (v := 643) (k := 18) (t := 636) rfl rfl h23 (by decide) (by decide) rfl ?_
        refine r_load (i := 636) (u := 1) (w := 2) rfl rfl rfl ?_
        refine r_call (i := 637) (u := 0) (v := 15) (w := 0) (b := 0) (na := 257) (C2 := xC15) (as := [(2, 0)]) (s := []) rfl rfl rfl rfl rfl rfl rfl (sp15  hI    (by omega)) (fun r615 S616 hq617 => ?_)
        obtain ⟨z618, rfl, h619, h620, hI621, hF622, hR623⟩ := hq617
        have e624 := N23x.fr e_N23 hF622 hR623 rfl rfl rfl
        have e625 := CRx.fr e_CR hF622 rfl rfl
        have e626 := RTx.fr e_RT hF622 rfl rfl
        have e627 := RSx.fr e_RS hF622 rfl rfl
        have e628 := wRM_rm q_0 hR623
        refine Or.inr (Or.inl ⟨rfl, ?_⟩)
        refine r_pop (i := 638) rfl rfl ?_
        refine r_load (i := 639) (u := 2) (w := 2) rfl rfl rfl ?_
        refine r_call (i := 640) (u := 11) (v := 235) (w := 0) (b := 0) (na := 1025) (C2 := xC235) (as := [(2, 43)]) (s := []) rfl rfl rfl rfl rfl rfl rfl (sp235  hI621    (by omega)) (fun r629 S630 hq631 => ?_)
        obtain ⟨z632, rfl, h633, h634, hI635, hF636, hR637⟩ := hq631
        have e638 := N23x.fr e624 hF636 hR637 rfl rfl rfl
        have e639 := CRx.fr e625 hF636 rfl rfl
        have e640 := RTx.fr e626 hF636 rfl rfl
        have e641 := RSx.fr e627 hF636 rfl rfl
        have e642 := wRM_rm e628 hR637
        refine Or.inr (Or.inl ⟨rfl, ?_⟩)
        refine r_pop (i := 641) rfl rfl ?_
        refine r_goto (i := 642) (v := 643) rfl ?_
        refine r_iinc (i := 643) (u := 10) (v := 4) (s := 10) (L1 := [some ((6, 0)), some ((2, 0)), some ((2, 43)), some ((2, 81)), some (vi (i + 10)), none, none]) rfl rfl rfl rfl rfl ?_
        refine r_goto (i := 644) (v := 13) rfl ?_
        exact ih S630 hI635 e638 e639 e640 e641 (i + 10) ⟨by omega, by omega⟩ (by exact wRM_le e642 (by omega)) (by omega)
      · refine r_swK (i := 24) (u := 1) (v := 643) (k := 19) (t := 643) rfl rfl h24 (by decide) (by decide) rfl ?_
        refine r_iinc (i := 643) (u := 10) (v := 4) (s := 10) (L1 := [some ((6, 0)), some ((2, 0)), some ((2, 43)), some ((2, 81)), some (vi (i + 10)), none, none]) rfl rfl rfl rfl rfl ?_
        refine r_goto (i := 644) (v := 13) rfl ?_
        exact ih S hI e_N23 e_CR e_RT e_RS (i + 10) ⟨by omega, by omega⟩ (by exact wRM_le q_0 (by omega)) (by omega)
      · refine r_swK (i := 24) (u := 1) (v := 643) (k := 20) (t := 643) rfl rfl h25 (by decide) (by decide) rfl ?_
        refine r_iinc (i := 643) (u := 10) (v := 4) (s := 10) (L1 := [some ((6, 0)), some ((2, 0)), some ((2, 43)), some ((2, 81)), some (vi (i + 10)), none, none]) rfl rfl rfl rfl rfl ?_
        refine r_goto (i := 644) (v := 13) rfl ?_
        exact ih S hI e_N23 e_CR e_RT e_RS (i + 10) ⟨by omega, by omega⟩ (by exact wRM_le q_0 (by omega)) (by omega)
      · refine r_swK (i := 24) (u := 1) (v := 643) (k := 21) (t := 643) rfl rfl h26 (by decide) (by decide) rfl ?_
        refine r_iinc (i := 643) (u := 10) (v := 4) (s := 10) (L1 := [some ((6, 0)), some ((2, 0)), some ((2, 43)), some ((2, 81)), some (vi (i + 10)), none, none]) rfl rfl rfl rfl rfl ?_
        refine r_goto (i := 644) (v := 13) rfl ?_
        exact ih S hI e_N23 e_CR e_RT e_RS (i + 10) ⟨by omega, by omega⟩ (by exact wRM_le q_0 (by omega)) (by omega)
      · refine r_swK (i := 24) (u := 1) (v := 643) (k := 22) (t := 643) rfl rfl h27 (by decide) (by decide) rfl ?_
        refine r_iinc (i := 643) (u := 10) (v := 4) (s := 10) (L1 := [some ((6, 0)), some ((2, 0)), some ((2, 43)), some ((2, 81)), some (vi (i + 10)), none, none]) rfl rfl rfl rfl rfl ?_
        refine r_goto (i := 644) (v := 13) rfl ?_
        exact ih S hI e_N23 e_CR e_RT e_RS (i + 10) ⟨by omega, by omega⟩ (by exact wRM_le q_0 (by omega)) (by omega)
      · refine r_swK (i := 24) (u := 1) (v := 643) (k := 23) (t := 643) rfl rfl h28 (by decide) (by decide) rfl ?_
        refine r_iinc (i := 643) (u := 10) (v := 4) (s := 10) (L1 := [some ((6, 0)), some ((2, 0)), some ((2, 43)), some ((2, 81)), some (vi (i + 10)), none, none]) rfl rfl rfl rfl rfl ?_
        refine r_goto (i := 644) (v := 13) rfl ?_
        exact ih S hI e_N23 e_CR e_RT e_RS (i + 10) ⟨by omega, by omega⟩ (by exact wRM_le q_0 (by omega)) (by omega)
      · refine r_swK (i := 24) (u := 1) (v := 643) (k := 24) (t := 643) rfl rfl h29 (by decide) (by decide) rfl ?_
        refine r_iinc (i := 643) (u := 10) (v := 4) (s := 10) (L1 := [some ((6, 0)), some ((2, 0)), some ((2, 43)), some ((2, 81)), some (vi (i + 10)), none, none]) rfl rfl rfl rfl rfl ?_
        refine r_goto (i := 644) (v := 13) rfl ?_
        exact ih S hI e_N23 e_CR e_RT e_RS (i + 10) ⟨by omega, by omega⟩ (by exact wRM_le q_0 (by omega)) (by omega)
      · refine r_swK (i := 24) (u := 1) (v := 643) (k := 25) (t := 643) rfl rfl h30 (by decide) (by decide) rfl ?_
        refine r_iinc (i := 643) (u := 10) (v := 4) (s := 10) (L1 := [some ((6, 0)), some ((2, 0)), some ((2, 43)), some ((2, 81)), some (vi (i + 10)), none, none]) rfl rfl rfl rfl rfl ?_
        refine r_goto (i := 644) (v := 13) rfl ?_
        exact ih S hI e_N23 e_CR e_RT e_RS (i + 10) ⟨by omega, by omega⟩ (by exact wRM_le q_0 (by omega)) (by omega)
      · refine r_swK (i := 24) (u := 1) (v := 643) (k := 26) (t := 643) rfl rfl h31 (by decide) (by decide) rfl ?_
        refine r_iinc (i := 643) (u := 10) (v := 4) (s := 10) (L1 := [some ((6, 0)), some ((2, 0)), some ((2, 43)), some ((2, 81)), some (vi (i + 10)), none, none]) rfl rfl rfl rfl rfl ?_
        refine r_goto (i := 644) (v := 13) rfl ?_
        exact ih S hI e_N23 e_CR e_RT e_RS (i + 10) ⟨by omega, by omega⟩ (by exact wRM_le q_0 (by omega)) (by omega)
      · refine r_swK (i := 24) (u := 1) (v := 643) (k := 27) (t := 643) rfl rfl h32 (by decide) (by decide) rfl ?_
        refine r_iinc (i := 643) (u := 10) (v := 4) (s := 10) (L1 := [some ((6, 0)), some ((2, 0)), some ((2, 43)), some ((2, 81)), some (vi (i + 10)), none, none]) rfl rfl rfl rfl rfl ?_
        refine r_goto (i := 644) (v := 13) rfl ?_
        exact ih S hI e_N23 e_CR e_RT e_RS (i + 10) ⟨by omega, by omega⟩ (by exact wRM_le q_0 (by omega)) (by omega)
      · refine r_swK (i := 24) (u := 1) (v := 643) (k := 28) (t := 643) rfl rfl h33 (by decide) (by decide) rfl ?_
        refine r_iinc (i := 643) (u := 10) (v := 4) (s := 10) (L1 := [some ((6, 0)), some ((2, 0)), some ((2, 43)), some ((2, 81)), some (vi (i + 10)), none, none]) rfl rfl rfl rfl rfl ?_
        refine r_goto (i := 644) (v := 13) rfl ?_
        exact ih S hI e_N23 e_CR e_RT e_RS (i + 10) ⟨by omega, by omega⟩ (by exact wRM_le q_0 (by omega)) (by omega)
      · refine r_swK (i := 24) (u := 1) (v := 643) (k := 29) (t := 643) rfl rfl h34 (by decide) (by decide) rfl ?_
        refine r_iinc (i := 643) (u := 10) (v := 4) (s := 10) (L1 := [some ((6, 0)), some ((2, 0)), some ((2, 43)), some ((2, 81)), some (vi (i + 10)), none, none]) rfl rfl rfl rfl rfl ?_
        refine r_goto (i := 644) (v := 13) rfl ?_
        exact ih S hI e_N23 e_CR e_RT e_RS (i + 10) ⟨by omega, by omega⟩ (by exact wRM_le q_0 (by omega)) (by omega)
      · refine r_swK (i := 24) (u := 1) (v := 643) (k := 30) (t := 643) rfl rfl h35 (by decide) (by decide) rfl ?_
        refine r_iinc (i := 643) (u := 10) (v := 4) (s := 10) (L1 := [some ((6, 0)), some ((2, 0)), some ((2, 43)), some ((2, 81)), some (vi (i + 10)), none, none]) rfl rfl rfl rfl rfl ?_
        refine r_goto (i := 644) (v := 13) rfl ?_
        exact ih S hI e_N23 e_CR e_RT e_RS (i + 10) ⟨by omega, by omega⟩ (by exact wRM_le q_0 (by omega)) (by omega)
      · refine r_swK (i := 24) (u := 1) (v := 643) (k := 31) (t := 643) rfl rfl h36 (by decide) (by decide) rfl ?_
        refine r_iinc (i := 643) (u := 10) (v := 4) (s := 10) (L1 := [some ((6, 0)), some ((2, 0)), some ((2, 43)), some ((2, 81)), some (vi (i + 10)), none, none]) rfl rfl rfl rfl rfl ?_
        refine r_goto (i := 644) (v := 13) rfl ?_
        exact ih S hI e_N23 e_CR e_RT e_RS (i + 10) ⟨by omega, by omega⟩ (by exact wRM_le q_0 (by omega)) (by omega)
end XNC
