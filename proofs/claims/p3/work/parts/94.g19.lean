set_option linter.unusedVariables false
set_option maxRecDepth 4000
noncomputable section XNC
/-- ProxyForgeLaw.type -/
theorem sp179 {G : xk} {S : yS} {d : Nat} (hI : yI S) {kR : Int} {p0 : Int} (h_p0 : 0 ≤ p0 ∧ p0 ≤ 1) {p1 : Int} (h_p1 : -2147483648 ≤ p1 ∧ p1 ≤ 2147483647) {p2 : Int} (h_p2 : -2147483648 ≤ p2 ∧ p2 ≤ 2147483647) {p3 : Int} (h_p3 : -2147483648 ≤ p3 ∧ p3 ≤ 2147483647) (p_0 : wRM (kR + 1) S) (p_1 : 0 ≤ kR) (e_N23 : N23 S) (e_CR : CR S) (hd : 7 ≤ d) : yT xPr G LY xC179 0 [some ((2, 0)), some (vi p0), some (vi p1), some (vi p2), some (vi p3), some ((2, 81))] [] S d (fun r S' => ∃ z : Int, r = (1, vi z) ∧ 0 ≤ z ∧ z ≤ 2 ∧ wRM kR S' ∧ hTy S S' p0 p1 p2 p3 z ∧ (z = 0 → c6T S S' p3) ∧ N23 S' ∧ CR S' ∧ yI S' ∧ yFr [(1, 7)] [2, 3, 4, 5, 6, 81] S S') := by
  refine yT_pad 1 ?_
  show yT xPr G LY xC179 0 [some ((2, 0)), some (vi p0), some (vi p1), some (vi p2), some (vi p3), some ((2, 81)), none] [] S d _
  obtain ⟨d, rfl⟩ : ∃ q, d = q + 1 := ⟨d - 1, by omega⟩
  have hF : yFr [(1, 7)] [2, 3, 4, 5, 6, 81] S S := yFr.refl S
  have e_RM := p_0
  refine r_load (i := 0) (u := 5) (w := 2) rfl rfl rfl ?_
  refine r_const (i := 1) (u := 0) (z := 0) rfl rfl ?_
  refine r_load (i := 2) (u := 0) (w := 2) rfl rfl rfl ?_
  refine r_load (i := 3) (u := 1) (w := 0) rfl rfl rfl ?_
  refine r_load (i := 4) (u := 2) (w := 0) rfl rfl rfl ?_
  refine r_load (i := 5) (u := 3) (w := 0) rfl rfl rfl ?_
  refine r_load (i := 6) (u := 4) (w := 0) rfl rfl rfl ?_
  have h1 := hI.f tf1_7
  refine r_call (i := 7) (u := 3940705509310464) (v := 21) (w := 11) (b := 0) (na := 1285) (C2 := xC21) (as := [(2, 0), vi p0, vi p1, vi p2, vi p3]) (s := [vi 0, (2, 81)]) rfl rfl rfl rfl rfl rfl rfl (sp21 (b := p0) (fl := p1) (p := p2) (up := p3) hI ⟨by omega, by omega⟩ ⟨by omega, by omega⟩ ⟨by omega, by omega⟩ ⟨by omega, by omega⟩   (by omega)) (fun r2 S3 hq4 => ?_)
  rcases hq4 with hq5 | ⟨a7, c9, rfl, hc6, rfl⟩
  · obtain ⟨z8, rfl, h9, h10, tc11, tl12, tz13, ct14, c6t15, hI16, hF17, hR18⟩ := hq5
    have hF19 := hF.trans hF17 rfl rfl
    have e20 := N23x.fr e_N23 hF17 hR18 rfl rfl rfl
    have e21 := CRx.fr e_CR hF17 rfl rfl
    have e22 := wRM_rm e_RM hR18
    refine Or.inr (Or.inl ⟨rfl, ?_⟩)
    refine r_i2l (i := 8) rfl ⟨by omega, by omega⟩ ?_
    refine r_lastore (i := 9) rfl ly81 (by decide) (by omega) (by omega) ⟨by omega, by omega⟩ ?_
    have hI24 := hI16.seta0 (b := 81) (j := (0 : Int).toNat) (z := z8) rfl rfl
    have hF26 := hF19.seta (b := 81) (j := (0 : Int).toNat) (z := z8) rfl
    have e28 := N23x.seta e20 (b := 81) (j := (0 : Int).toNat) (z := z8) rfl
    have e29 := CRx.seta e21 (b := 81) (j := (0 : Int).toNat) (z := z8) rfl
    have e30 := wRM_a e22 (b := 81) (j := (0 : Int).toNat) (z := z8)
    refine yT_gen (fun S23 hS25 => ?_)
    rw [hS25] at hI24 hF26  e28 e29 e30
    refine r_goto (i := 10) (v := 17) rfl ?_
    refine r_const (i := 17) (u := 0) (z := 0) rfl rfl ?_
    exact r_retI (i := 18) rfl ⟨0, rfl, by omega, by omega, (by exact wRM_le e30 (by omega)), (by exact Or.inl ⟨rfl, tc11, tl12, by first | (subst hS25; exact ysa_eq.trans tz13) | (subst_vars; rfl), by subst hS25; exact cTy81 ct14⟩), (by intro _; subst hS25; exact c6t15), e28, e29, hI24, hF26⟩
  · obtain ⟨hI31, rm32⟩ := wRM_cost e_RM hI (by omega)
    have e33 : N23 (ycost S 1 6) := e_N23
    have e34 : CR (ycost S 1 6) := e_CR
    have hF35 : yFr [(1, 7)] [2, 3, 4, 5, 6, 81] S (ycost S 1 6) := hF
    rcases hc6 with ⟨rfl, xphc6⟩ | ⟨rfl, xphc6⟩
    · refine Or.inr (Or.inr (Or.inl ⟨rfl, rfl, by decide, ?_⟩))
      refine r_store (i := 11) (u := 6) (w := 2) (L1 := [some ((2, 0)), some (vi p0), some (vi p1), some (vi p2), some (vi p3), some ((2, 81)), some ((2, a7))]) rfl rfl rfl rfl ?_
      refine r_const (i := 12) (u := 1) (z := 1) rfl rfl ?_
      exact r_retI (i := 13) rfl ⟨1, rfl, by omega, by omega, (by exact wRM_le rm32 (by omega)), (by first | exact Or.inr (Or.inl ⟨rfl, xphc6, rfl, rfl⟩) | exact Or.inr (Or.inr ⟨rfl, xphc6.1, xphc6.2, rfl, rfl⟩)), (by intro hz; exact absurd hz (by omega)), e33, e34, hI31, hF35⟩
    · refine Or.inr (Or.inr (Or.inr ⟨rfl, (show (13 : Nat) ≠ 3940705509310464 / 65536 % 65536 by decide), rfl, by decide, ?_⟩))
      refine r_store (i := 14) (u := 6) (w := 2) (L1 := [some ((2, 0)), some (vi p0), some (vi p1), some (vi p2), some (vi p3), some ((2, 81)), some ((2, a7))]) rfl rfl rfl rfl ?_
      refine r_const (i := 15) (u := 2) (z := 2) rfl rfl ?_
      exact r_retI (i := 16) rfl ⟨2, rfl, by omega, by omega, (by exact wRM_le rm32 (by omega)), (by first | exact Or.inr (Or.inl ⟨rfl, xphc6, rfl, rfl⟩) | exact Or.inr (Or.inr ⟨rfl, xphc6.1, xphc6.2, rfl, rfl⟩)), (by intro hz; exact absurd hz (by omega)), e33, e34, hI31, hF35⟩
/-- ProxyForgeLaw.implement -/
theorem sp176 {G : xk} {S : yS} {d : Nat} (hI : yI S) {kR : Int} {p0 : Int} (h_p0 : -2147483648 ≤ p0 ∧ p0 ≤ 2147483647) {p1 : Int} (h_p1 : -2147483648 ≤ p1 ∧ p1 ≤ 2147483647) (p_0 : wRM (kR + 1) S) (p_1 : 0 ≤ kR) (e_N23 : N23 S) (e_CR : CR S) (hd : 7 ≤ d) : yT xPr G LY xC176 0 [some ((2, 0)), some (vi p0), some (vi p1)] [] S d (fun r S' => ∃ z : Int, r = (1, vi z) ∧ 0 ≤ z ∧ z ≤ 2 ∧ wRM kR S' ∧ hIm S S' p0 p1 z ∧ N23 S' ∧ CR S' ∧ yI S' ∧ yFr [] [6, 7, 8] S S') := by
  refine yT_pad 1 ?_
  show yT xPr G LY xC176 0 [some ((2, 0)), some (vi p0), some (vi p1), none] [] S d _
  obtain ⟨d, rfl⟩ : ∃ q, d = q + 1 := ⟨d - 1, by omega⟩
  have hF : yFr [] [6, 7, 8] S S := yFr.refl S
  have e_RM := p_0
  refine r_load (i := 0) (u := 0) (w := 2) rfl rfl rfl ?_
  refine r_load (i := 1) (u := 1) (w := 0) rfl rfl rfl ?_
  refine r_load (i := 2) (u := 2) (w := 0) rfl rfl rfl ?_
  refine r_call (i := 3) (u := 786432) (v := 10) (w := 5) (b := 0) (na := 771) (C2 := xC10) (as := [(2, 0), vi p0, vi p1]) (s := []) rfl rfl rfl rfl rfl rfl rfl (sp10 (t := p0) (f := p1) hI ⟨by omega, by omega⟩ ⟨by omega, by omega⟩   (by omega)) (fun r1 S2 hq3 => ?_)
  rcases hq3 with hq4 | ⟨a6, c9, rfl, hc5, rfl⟩
  · obtain ⟨rfl, ic7, ci28, hI9, hF10, hR11⟩ := hq4
    have hF12 := hF.trans hF10 rfl rfl
    have e13 := N23x.fr e_N23 hF10 hR11 rfl rfl rfl
    have e14 := CRx.fr e_CR hF10 rfl rfl
    have e15 := wRM_rm e_RM hR11
    refine Or.inl ⟨rfl, ?_⟩
    refine r_goto (i := 4) (v := 8) rfl ?_
    refine r_const (i := 8) (u := 0) (z := 0) rfl rfl ?_
    exact r_retI (i := 9) rfl ⟨0, rfl, by omega, by omega, (by exact wRM_le e15 (by omega)), (by exact Or.inl ⟨rfl, ic7, ci28⟩), e13, e14, hI9, hF12⟩
  · obtain ⟨hI16, rm17⟩ := wRM_cost e_RM hI (by omega)
    have e18 : N23 (ycost S 1 6) := e_N23
    have e19 : CR (ycost S 1 6) := e_CR
    have hF20 : yFr [] [6, 7, 8] S (ycost S 1 6) := hF
    obtain ⟨rfl, xphc5⟩ := hc5
    · refine Or.inr (Or.inr (Or.inl ⟨rfl, rfl, by decide, ?_⟩))
      refine r_store (i := 5) (u := 3) (w := 2) (L1 := [some ((2, 0)), some (vi p0), some (vi p1), some ((2, a6))]) rfl rfl rfl rfl ?_
      refine r_const (i := 6) (u := 1) (z := 1) rfl rfl ?_
      exact r_retI (i := 7) rfl ⟨1, rfl, by omega, by omega, (by exact wRM_le rm17 (by omega)), (by exact Or.inr ⟨rfl, xphc5, rfl, rfl⟩), e18, e19, hI16, hF20⟩
/-- ProxyForgeLaw.method -/
theorem sp177 {G : xk} {S : yS} {d : Nat} (hI : yI S) {kR : Int} {p0 : Int} (h_p0 : -2147483648 ≤ p0 ∧ p0 ≤ 2147483647) {p1 : Int} (h_p1 : -2147483648 ≤ p1 ∧ p1 ≤ 2147483647) {p2 : Int} (h_p2 : -2147483648 ≤ p2 ∧ p2 ≤ 2147483647) {p3 : Int} (h_p3 : -2147483648 ≤ p3 ∧ p3 ≤ 2147483647) {p4 : Int} (h_p4 : -2147483648 ≤ p4 ∧ p4 ≤ 2147483647) (p_0 : wRM (kR + 1) S) (p_1 : 0 ≤ kR) (e_N23 : N23 S) (e_CR : CR S) (hd : 7 ≤ d) : yT xPr G LY xC177 0 [some ((2, 0)), some (vi p0), some (vi p1), some (vi p2), some (vi p3), some (vi p4), some ((2, 81))] [] S d (fun r S' => ∃ z : Int, r = (1, vi z) ∧ 0 ≤ z ∧ z ≤ 2 ∧ wRM kR S' ∧ N23 S' ∧ CR S' ∧ yI S' ∧ yFr [(9, 8)] [10, 11, 12, 13, 14, 81] S S') := by
  refine yT_pad 1 ?_
  show yT xPr G LY xC177 0 [some ((2, 0)), some (vi p0), some (vi p1), some (vi p2), some (vi p3), some (vi p4), some ((2, 81)), none] [] S d _
  obtain ⟨d, rfl⟩ : ∃ q, d = q + 1 := ⟨d - 1, by omega⟩
  have hF : yFr [(9, 8)] [10, 11, 12, 13, 14, 81] S S := yFr.refl S
  have e_RM := p_0
  refine r_load (i := 0) (u := 6) (w := 2) rfl rfl rfl ?_
  refine r_const (i := 1) (u := 0) (z := 0) rfl rfl ?_
  refine r_load (i := 2) (u := 0) (w := 2) rfl rfl rfl ?_
  refine r_load (i := 3) (u := 1) (w := 0) rfl rfl rfl ?_
  refine r_load (i := 4) (u := 2) (w := 0) rfl rfl rfl ?_
  refine r_load (i := 5) (u := 3) (w := 0) rfl rfl rfl ?_
  refine r_load (i := 6) (u := 4) (w := 0) rfl rfl rfl ?_
  refine r_load (i := 7) (u := 5) (w := 0) rfl rfl rfl ?_
  refine r_call (i := 8) (u := 4222180486021120) (v := 13) (w := 12) (b := 0) (na := 1542) (C2 := xC13) (as := [(2, 0), vi p0, vi p1, vi p2, vi p3, vi p4]) (s := [vi 0, (2, 81)]) rfl rfl rfl rfl rfl rfl rfl (sp13 (t := p0) (w0 := p1) (fl := p2) (p := p3) (b := p4) hI ⟨by omega, by omega⟩ ⟨by omega, by omega⟩ ⟨by omega, by omega⟩ ⟨by omega, by omega⟩ ⟨by omega, by omega⟩   (by omega)) (fun r1 S2 hq3 => ?_)
  rcases hq3 with hq4 | ⟨a6, c9, rfl, hc5, rfl⟩
  · obtain ⟨z7, rfl, h8, h9, hI10, hF11, hR12⟩ := hq4
    have hF13 := hF.trans hF11 rfl rfl
    have e14 := N23x.fr e_N23 hF11 hR12 rfl rfl rfl
    have e15 := CRx.fr e_CR hF11 rfl rfl
    have e16 := wRM_rm e_RM hR12
    refine Or.inr (Or.inl ⟨rfl, ?_⟩)
    refine r_i2l (i := 9) rfl ⟨by omega, by omega⟩ ?_
    refine r_lastore (i := 10) rfl ly81 (by decide) (by omega) (by omega) ⟨by omega, by omega⟩ ?_
    have hI18 := hI10.seta0 (b := 81) (j := (0 : Int).toNat) (z := z7) rfl rfl
    have hF20 := hF13.seta (b := 81) (j := (0 : Int).toNat) (z := z7) rfl
    have e22 := N23x.seta e14 (b := 81) (j := (0 : Int).toNat) (z := z7) rfl
    have e23 := CRx.seta e15 (b := 81) (j := (0 : Int).toNat) (z := z7) rfl
    have e24 := wRM_a e16 (b := 81) (j := (0 : Int).toNat) (z := z7)
    refine yT_gen (fun S17 hS19 => ?_)
    rw [hS19] at hI18 hF20  e22 e23 e24
    refine r_goto (i := 11) (v := 18) rfl ?_
    refine r_const (i := 18) (u := 0) (z := 0) rfl rfl ?_
    exact r_retI (i := 19) rfl ⟨0, rfl, by omega, by omega, (by exact wRM_le e24 (by omega)), e22, e23, hI18, hF20⟩
  · obtain ⟨hI25, rm26⟩ := wRM_cost e_RM hI (by omega)
    have e27 : N23 (ycost S 1 6) := e_N23
    have e28 : CR (ycost S 1 6) := e_CR
    have hF29 : yFr [(9, 8)] [10, 11, 12, 13, 14, 81] S (ycost S 1 6) := hF
    rcases hc5 with rfl | rfl
    · refine Or.inr (Or.inr (Or.inl ⟨rfl, rfl, by decide, ?_⟩))
      refine r_store (i := 12) (u := 7) (w := 2) (L1 := [some ((2, 0)), some (vi p0), some (vi p1), some (vi p2), some (vi p3), some (vi p4), some ((2, 81)), some ((2, a6))]) rfl rfl rfl rfl ?_
      refine r_const (i := 13) (u := 1) (z := 1) rfl rfl ?_
      exact r_retI (i := 14) rfl ⟨1, rfl, by omega, by omega, (by exact wRM_le rm26 (by omega)), e27, e28, hI25, hF29⟩
    · refine Or.inr (Or.inr (Or.inr ⟨rfl, (show (13 : Nat) ≠ 4222180486021120 / 65536 % 65536 by decide), rfl, by decide, ?_⟩))
      refine r_store (i := 15) (u := 7) (w := 2) (L1 := [some ((2, 0)), some (vi p0), some (vi p1), some (vi p2), some (vi p3), some (vi p4), some ((2, 81)), some ((2, a6))]) rfl rfl rfl rfl ?_
      refine r_const (i := 16) (u := 2) (z := 2) rfl rfl ?_
      exact r_retI (i := 17) rfl ⟨2, rfl, by omega, by omega, (by exact wRM_le rm26 (by omega)), e27, e28, hI25, hF29⟩
/-- ProxyForgeLaw.throwing -/
theorem sp178 {G : xk} {S : yS} {d : Nat} (hI : yI S) {kR : Int} {p0 : Int} (h_p0 : -2147483648 ≤ p0 ∧ p0 ≤ 2147483647) {p1 : Int} (h_p1 : -2147483648 ≤ p1 ∧ p1 ≤ 2147483647) (p_0 : wRM (kR + 1) S) (p_1 : 0 ≤ kR) (e_N23 : N23 S) (e_CR : CR S) (hd : 7 ≤ d) : yT xPr G LY xC178 0 [some ((2, 0)), some (vi p0), some (vi p1)] [] S d (fun r S' => ∃ z : Int, r = (1, vi z) ∧ 0 ≤ z ∧ z ≤ 2 ∧ wRM kR S' ∧ N23 S' ∧ CR S' ∧ yI S' ∧ yFr [] [15, 16] S S') := by
  refine yT_pad 1 ?_
  show yT xPr G LY xC178 0 [some ((2, 0)), some (vi p0), some (vi p1), none] [] S d _
  obtain ⟨d, rfl⟩ : ∃ q, d = q + 1 := ⟨d - 1, by omega⟩
  have hF : yFr [] [15, 16] S S := yFr.refl S
  have e_RM := p_0
  refine r_load (i := 0) (u := 0) (w := 2) rfl rfl rfl ?_
  refine r_load (i := 1) (u := 1) (w := 0) rfl rfl rfl ?_
  refine r_load (i := 2) (u := 2) (w := 0) rfl rfl rfl ?_
  refine r_call (i := 3) (u := 786432) (v := 20) (w := 5) (b := 0) (na := 771) (C2 := xC20) (as := [(2, 0), vi p0, vi p1]) (s := []) rfl rfl rfl rfl rfl rfl rfl (sp20 (m := p0) (t := p1) hI ⟨by omega, by omega⟩ ⟨by omega, by omega⟩   (by omega)) (fun r1 S2 hq3 => ?_)
  rcases hq3 with hq4 | ⟨a6, c9, rfl, hc5, rfl⟩
  · obtain ⟨rfl, hI7, hF8, hR9⟩ := hq4
    have hF10 := hF.trans hF8 rfl rfl
    have e11 := N23x.fr e_N23 hF8 hR9 rfl rfl rfl
    have e12 := CRx.fr e_CR hF8 rfl rfl
    have e13 := wRM_rm e_RM hR9
    refine Or.inl ⟨rfl, ?_⟩
    refine r_goto (i := 4) (v := 8) rfl ?_
    refine r_const (i := 8) (u := 0) (z := 0) rfl rfl ?_
    exact r_retI (i := 9) rfl ⟨0, rfl, by omega, by omega, (by exact wRM_le e13 (by omega)), e11, e12, hI7, hF10⟩
  · obtain ⟨hI14, rm15⟩ := wRM_cost e_RM hI (by omega)
    have e16 : N23 (ycost S 1 6) := e_N23
    have e17 : CR (ycost S 1 6) := e_CR
    have hF18 : yFr [] [15, 16] S (ycost S 1 6) := hF
    obtain rfl := hc5
    · refine Or.inr (Or.inr (Or.inl ⟨rfl, rfl, by decide, ?_⟩))
      refine r_store (i := 5) (u := 3) (w := 2) (L1 := [some ((2, 0)), some (vi p0), some (vi p1), some ((2, a6))]) rfl rfl rfl rfl ?_
      refine r_const (i := 6) (u := 1) (z := 1) rfl rfl ?_
      exact r_retI (i := 7) rfl ⟨1, rfl, by omega, by omega, (by exact wRM_le rm15 (by omega)), e16, e17, hI14, hF18⟩
/-- ProxyForgeLaw.forge -/
theorem sp175 {G : xk} {S : yS} {d : Nat} (hI : yI S) {kR : Int} {p0 : Int} (h_p0 : -2147483648 ≤ p0 ∧ p0 ≤ 2147483647) {p1 : Int} (h_p1 : -2147483648 ≤ p1 ∧ p1 ≤ 2147483647) {p2 : Int} (h_p2 : -2147483648 ≤ p2 ∧ p2 ≤ 2147483647) {p3 : Int} (h_p3 : -2147483648 ≤ p3 ∧ p3 ≤ 2147483647) (p_0 : wRM (kR + 1) S) (p_1 : 0 ≤ kR) (e_N23 : N23 S) (e_CR : CR S) (hd : 26 ≤ d) : yT xPr G LY xC175 0 [some ((2, 0)), some (vi p0), some (vi p1), some (vi p2), some (vi p3), some ((2, 81))] [] S d (fun r S' => ∃ z : Int, r = (1, vi z) ∧ 0 ≤ z ∧ z ≤ 2 ∧ wRM kR S' ∧ N23 S' ∧ CR S' ∧ yI S' ∧ yFr [(17, 6), (17, 7), (17, 8), (17, 9), (17, 10), (17, 11), (17, 12), (22, 3), (31, 1), (33, 7), (33, 8), (33, 9), (33, 10), (33, 11), (33, 12), (33, 13), (33, 14), (33, 15), (34, 1), (36, 5)] [18, 19, 20, 21, 23, 24, 25, 37, 81, 100, 101, 102, 103, 105] S S') := by
  refine yT_pad 1 ?_
  show yT xPr G LY xC175 0 [some ((2, 0)), some (vi p0), some (vi p1), some (vi p2), some (vi p3), some ((2, 81)), none] [] S d _
  obtain ⟨d, rfl⟩ : ∃ q, d = q + 1 := ⟨d - 1, by omega⟩
  have hF : yFr [(17, 6), (17, 7), (17, 8), (17, 9), (17, 10), (17, 11), (17, 12), (22, 3), (31, 1), (33, 7), (33, 8), (33, 9), (33, 10), (33, 11), (33, 12), (33, 13), (33, 14), (33, 15), (34, 1), (36, 5)] [18, 19, 20, 21, 23, 24, 25, 37, 81, 100, 101, 102, 103, 105] S S := yFr.refl S
  have e_RM := p_0
  refine r_load (i := 0) (u := 5) (w := 2) rfl rfl rfl ?_
  refine r_const (i := 1) (u := 0) (z := 0) rfl rfl ?_
  refine r_load (i := 2) (u := 0) (w := 2) rfl rfl rfl ?_
  refine r_load (i := 3) (u := 1) (w := 0) rfl rfl rfl ?_
  refine r_load (i := 4) (u := 2) (w := 0) rfl rfl rfl ?_
  refine r_load (i := 5) (u := 3) (w := 0) rfl rfl rfl ?_
  refine r_load (i := 6) (u := 4) (w := 0) rfl rfl rfl ?_
  refine r_call (i := 7) (u := 786432) (v := 8) (w := 11) (b := 0) (na := 1797) (C2 := xC8) (as := [(2, 0), vi p0, vi p1, vi p2, vi p3]) (s := [vi 0, (2, 81)]) rfl rfl rfl rfl rfl rfl rfl (sp8 (t := p0) (fa := p1) (fb := p2) (fc := p3) hI ⟨by omega, by omega⟩ ⟨by omega, by omega⟩ ⟨by omega, by omega⟩ ⟨by omega, by omega⟩  e_N23 (by omega)) (fun r1 S2 hq3 => ?_)
  rcases hq3 with hq4 | ⟨a6, c9, rfl, hc5, rfl⟩
  · obtain ⟨z7, rfl, h8, h9, e10, hI11, hF12, hR13⟩ := hq4
    have hF14 := hF.trans hF12 rfl rfl
    have e15 := CRx.fr e_CR hF12 rfl rfl
    have e16 := wRM_rm e_RM hR13
    refine Or.inr (Or.inl ⟨rfl, ?_⟩)
    refine r_i2l (i := 8) rfl ⟨by omega, by omega⟩ ?_
    refine r_lastore (i := 9) rfl ly81 (by decide) (by omega) (by omega) ⟨by omega, by omega⟩ ?_
    have hI18 := hI11.seta0 (b := 81) (j := (0 : Int).toNat) (z := z7) rfl rfl
    have hF20 := hF14.seta (b := 81) (j := (0 : Int).toNat) (z := z7) rfl
    have e22 := CRx.seta e15 (b := 81) (j := (0 : Int).toNat) (z := z7) rfl
    have e23 := wRM_a e16 (b := 81) (j := (0 : Int).toNat) (z := z7)
    have e24 := N23x.seta e10 (b := 81) (j := (0 : Int).toNat) (z := z7) rfl
    refine yT_gen (fun S17 hS19 => ?_)
    rw [hS19] at hI18 hF20  e22 e23 e24
    refine r_goto (i := 10) (v := 14) rfl ?_
    refine r_const (i := 14) (u := 0) (z := 0) rfl rfl ?_
    exact r_retI (i := 15) rfl ⟨0, rfl, by omega, by omega, (by exact wRM_le e23 (by omega)), e24, e22, hI18, hF20⟩
  · obtain ⟨hI25, rm26⟩ := wRM_cost e_RM hI (by omega)
    have e27 : N23 (ycost S 1 6) := e_N23
    have e28 : CR (ycost S 1 6) := e_CR
    have hF29 : yFr [(17, 6), (17, 7), (17, 8), (17, 9), (17, 10), (17, 11), (17, 12), (22, 3), (31, 1), (33, 7), (33, 8), (33, 9), (33, 10), (33, 11), (33, 12), (33, 13), (33, 14), (33, 15), (34, 1), (36, 5)] [18, 19, 20, 21, 23, 24, 25, 37, 81, 100, 101, 102, 103, 105] S (ycost S 1 6) := hF
    obtain rfl := hc5
    · refine Or.inr (Or.inr (Or.inl ⟨rfl, rfl, by decide, ?_⟩))
      refine r_store (i := 11) (u := 6) (w := 2) (L1 := [some ((2, 0)), some (vi p0), some (vi p1), some (vi p2), some (vi p3), some ((2, 81)), some ((2, a6))]) rfl rfl rfl rfl ?_
      refine r_const (i := 12) (u := 1) (z := 1) rfl rfl ?_
      exact r_retI (i := 13) rfl ⟨1, rfl, by omega, by omega, (by exact wRM_le rm26 (by omega)), e27, e28, hI25, hF29⟩
/-- ProxyForgeLaw.answer -/
theorem sp173 {G : xk} {S : yS} {d : Nat} (hI : yI S) {kR : Int} {p0 : Int} (h_p0 : -2147483648 ≤ p0 ∧ p0 ≤ 2147483647) {p1 : Int} (h_p1 : Rl p1) (p_0 : wRM (kR + 1) S) (p_1 : 0 ≤ kR) (e_N23 : N23 S) (e_CR : CR S) (hd : 7 ≤ d) : yT xPr G LY xC173 0 [some ((2, 0)), some (vi p0), some (vl p1), none] [] S d (fun r S' => ∃ z : Int, r = (1, vi z) ∧ 0 ≤ z ∧ z ≤ 2 ∧ wRM kR S' ∧ N23 S' ∧ CR S' ∧ yI S' ∧ yFr [(26, 4), (26, 5)] [] S S') := by
  refine yT_pad 1 ?_
  show yT xPr G LY xC173 0 [some ((2, 0)), some (vi p0), some (vl p1), none, none] [] S d _
  obtain ⟨d, rfl⟩ : ∃ q, d = q + 1 := ⟨d - 1, by omega⟩
  have hF : yFr [(26, 4), (26, 5)] [] S S := yFr.refl S
  have e_RM := p_0
  refine r_load (i := 0) (u := 0) (w := 2) rfl rfl rfl ?_
  refine r_load (i := 1) (u := 1) (w := 0) rfl rfl rfl ?_
  refine r_load (i := 2) (u := 2) (w := 1) rfl rfl rfl ?_
  refine r_call (i := 3) (u := 786432) (v := 1) (w := 5) (b := 0) (na := 1027) (C2 := xC1) (as := [(2, 0), vi p0, vl p1]) (s := []) rfl rfl rfl rfl rfl rfl rfl (sp1 (k := p0) (v := p1) hI ⟨by omega, by omega⟩ ⟨by omega, by omega⟩   (by omega)) (fun r1 S2 hq3 => ?_)
  rcases hq3 with hq4 | ⟨a6, c9, rfl, hc5, rfl⟩
  · obtain ⟨rfl, hI7, hF8, hR9⟩ := hq4
    have hF10 := hF.trans hF8 rfl rfl
    have e11 := N23x.fr e_N23 hF8 hR9 rfl rfl rfl
    have e12 := CRx.fr e_CR hF8 rfl rfl
    have e13 := wRM_rm e_RM hR9
    refine Or.inl ⟨rfl, ?_⟩
    refine r_goto (i := 4) (v := 8) rfl ?_
    refine r_const (i := 8) (u := 0) (z := 0) rfl rfl ?_
    exact r_retI (i := 9) rfl ⟨0, rfl, by omega, by omega, (by exact wRM_le e13 (by omega)), e11, e12, hI7, hF10⟩
  · obtain ⟨hI14, rm15⟩ := wRM_cost e_RM hI (by omega)
    have e16 : N23 (ycost S 1 6) := e_N23
    have e17 : CR (ycost S 1 6) := e_CR
    have hF18 : yFr [(26, 4), (26, 5)] [] S (ycost S 1 6) := hF
    obtain rfl := hc5
    · refine Or.inr (Or.inr (Or.inl ⟨rfl, rfl, by decide, ?_⟩))
      refine r_store (i := 5) (u := 4) (w := 2) (L1 := [some ((2, 0)), some (vi p0), some (vl p1), none, some ((2, a6))]) rfl rfl rfl rfl ?_
      refine r_const (i := 6) (u := 1) (z := 1) rfl rfl ?_
      exact r_retI (i := 7) rfl ⟨1, rfl, by omega, by omega, (by exact wRM_le rm15 (by omega)), e16, e17, hI14, hF18⟩
/-- ProxyForgeLaw.call -/
theorem sp174 {G : xk} {S : yS} {d : Nat} (hI : yI S) {kR : Int} {p0 : Int} (h_p0 : -2147483648 ≤ p0 ∧ p0 ≤ 2147483647) {p1 : Int} (h_p1 : Rl p1) {p2 : Int} (h_p2 : Rl p2) {p3 : Int} (h_p3 : Rl p3) {p4 : Int} (h_p4 : Rl p4) (p_0 : wRM (kR + 1) S) (p_1 : 0 ≤ kR) (e_N23 : N23 S) (e_CR : CR S) (hd : 7 ≤ d) : yT xPr G LY xC174 0 [some ((2, 0)), some (vi p0), some (vl p1), none, some (vl p2), none, some (vl p3), none, some (vl p4), none, some ((2, 81))] [] S d (fun r S' => ∃ z : Int, r = (1, vi z) ∧ 0 ≤ z ∧ z ≤ 2 ∧ wRM kR S' ∧ N23 S' ∧ CR S' ∧ yI S' ∧ yFr [(26, 2), (26, 3), (29, 5)] [27, 28, 30, 81] S S') := by
  refine yT_pad 1 ?_
  show yT xPr G LY xC174 0 [some ((2, 0)), some (vi p0), some (vl p1), none, some (vl p2), none, some (vl p3), none, some (vl p4), none, some ((2, 81)), none] [] S d _
  obtain ⟨d, rfl⟩ : ∃ q, d = q + 1 := ⟨d - 1, by omega⟩
  have hF : yFr [(26, 2), (26, 3), (29, 5)] [27, 28, 30, 81] S S := yFr.refl S
  have e_RM := p_0
  refine r_load (i := 0) (u := 10) (w := 2) rfl rfl rfl ?_
  refine r_const (i := 1) (u := 0) (z := 0) rfl rfl ?_
  refine r_load (i := 2) (u := 0) (w := 2) rfl rfl rfl ?_
  refine r_load (i := 3) (u := 1) (w := 0) rfl rfl rfl ?_
  refine r_load (i := 4) (u := 2) (w := 1) rfl rfl rfl ?_
  refine r_load (i := 5) (u := 4) (w := 1) rfl rfl rfl ?_
  refine r_load (i := 6) (u := 6) (w := 1) rfl rfl rfl ?_
  refine r_load (i := 7) (u := 8) (w := 1) rfl rfl rfl ?_
  refine r_call (i := 8) (u := 786432) (v := 5) (w := 12) (b := 0) (na := 2566) (C2 := xC5) (as := [(2, 0), vi p0, vl p1, vl p2, vl p3, vl p4]) (s := [vi 0, (2, 81)]) rfl rfl rfl rfl rfl rfl rfl (sp5 (k := p0) (a := p1) (b := p2) (c := p3) (e := p4) hI ⟨by omega, by omega⟩ ⟨by omega, by omega⟩ ⟨by omega, by omega⟩ ⟨by omega, by omega⟩ ⟨by omega, by omega⟩   (by omega)) (fun r1 S2 hq3 => ?_)
  rcases hq3 with hq4 | ⟨a6, c9, rfl, hc5, rfl⟩
  · obtain ⟨z7, rfl, h8, h9, hI10, hF11, hR12⟩ := hq4
    have hF13 := hF.trans hF11 rfl rfl
    have e14 := N23x.fr e_N23 hF11 hR12 rfl rfl rfl
    have e15 := CRx.fr e_CR hF11 rfl rfl
    have e16 := wRM_rm e_RM hR12
    refine Or.inr (Or.inl ⟨rfl, ?_⟩)
    refine r_i2l (i := 9) rfl ⟨by omega, by omega⟩ ?_
    refine r_lastore (i := 10) rfl ly81 (by decide) (by omega) (by omega) ⟨by omega, by omega⟩ ?_
    have hI18 := hI10.seta0 (b := 81) (j := (0 : Int).toNat) (z := z7) rfl rfl
    have hF20 := hF13.seta (b := 81) (j := (0 : Int).toNat) (z := z7) rfl
    have e22 := N23x.seta e14 (b := 81) (j := (0 : Int).toNat) (z := z7) rfl
    have e23 := CRx.seta e15 (b := 81) (j := (0 : Int).toNat) (z := z7) rfl
    have e24 := wRM_a e16 (b := 81) (j := (0 : Int).toNat) (z := z7)
    refine yT_gen (fun S17 hS19 => ?_)
    rw [hS19] at hI18 hF20  e22 e23 e24
    refine r_goto (i := 11) (v := 15) rfl ?_
    refine r_const (i := 15) (u := 0) (z := 0) rfl rfl ?_
    exact r_retI (i := 16) rfl ⟨0, rfl, by omega, by omega, (by exact wRM_le e24 (by omega)), e22, e23, hI18, hF20⟩
  · obtain ⟨hI25, rm26⟩ := wRM_cost e_RM hI (by omega)
    have e27 : N23 (ycost S 1 6) := e_N23
    have e28 : CR (ycost S 1 6) := e_CR
    have hF29 : yFr [(26, 2), (26, 3), (29, 5)] [27, 28, 30, 81] S (ycost S 1 6) := hF
    obtain rfl := hc5
    · refine Or.inr (Or.inr (Or.inl ⟨rfl, rfl, by decide, ?_⟩))
      refine r_store (i := 12) (u := 11) (w := 2) (L1 := [some ((2, 0)), some (vi p0), some (vl p1), none, some (vl p2), none, some (vl p3), none, some (vl p4), none, some ((2, 81)), some ((2, a6))]) rfl rfl rfl rfl ?_
      refine r_const (i := 13) (u := 1) (z := 1) rfl rfl ?_
      exact r_retI (i := 14) rfl ⟨1, rfl, by omega, by omega, (by exact wRM_le rm26 (by omega)), e27, e28, hI25, hF29⟩
set_option maxHeartbeats 4000000 in
theorem lp281_13 {G : xk} {d : Nat} {S0 : yS} {nS : Nat} {sc : Nat → Int} (hG : ySc G nS sc) (hn5 : nS ≤ 5120) (hd : 27 ≤ d + 1) : ∀ (n : Nat), ∀ (S : yS) (hI : yI S) (e_N23 : N23 S) (e_CR : CR S) (e_RT : RT S) (e_RS : RS S) (i : Int) (h_i : 0 ≤ i ∧ i ≤ 5120) (q_0 : wRM (5200 - i) S) (hn : 5120 - i < (n : Nat)), yT xPr G LY xC281 13 [some ((6, 0)), some ((2, 0)), some ((2, 43)), some ((2, 81)), some (vi i), none, none] [] S (d + 1) (fun r S' => ∃ z : Int, r = (1, vi z) ∧ 1 ≤ z ∧ z ≤ 1) := by
  intro n
  induction n with
  | zero => intro S hI e_N23 e_CR e_RT e_RS i h_i q_0 hn; exact absurd hn (by omega)
  | succ n ih =>
    intro S hI e_N23 e_CR e_RT e_RS i h_i q_0 hn
    refine r_load (i := 13) (u := 4) (w := 0) rfl rfl rfl ?_
    refine r_load (i := 14) (u := 0) (w := 2) rfl rfl rfl ?_
    refine r_scN (i := 15) hG rfl ?_
    refine r_const (i := 16) (u := 10) (z := 10) rfl rfl ?_
    refine r_isub (i := 17) rfl ?_
    refine c_gt (i := 18) (v := 645) rfl ⟨by omega, by omega⟩ ⟨by omega, by omega⟩ (fun h1 => ?_) (fun h2 => ?_)
    · refine r_const (i := 645) (u := 1) (z := 1) rfl rfl ?_
      exact r_retZ (i := 646) rfl (by omega) (by omega) ⟨1, rfl, by omega, by omega⟩
    · refine r_load (i := 19) (u := 0) (w := 2) rfl rfl rfl ?_
      refine r_load (i := 20) (u := 4) (w := 0) rfl rfl rfl ?_
      refine r_scA (i := 21) hG rfl (by omega) (by omega) fun h3 => ?_
      have h3 : Rg (sc i.toNat) := h3
      refine r_const (i := 22) (u := 31) (z := 31) rfl rfl ?_
      refine r_iand (i := 23) rfl ?_
      have h4 := @yand_c (sc i.toNat) 31 (by decide) (by decide)
      rcases (show (yand (sc i.toNat) 31) = 0 ∨ (yand (sc i.toNat) 31) = 1 ∨ (yand (sc i.toNat) 31) = 2 ∨ (yand (sc i.toNat) 31) = 3 ∨ (yand (sc i.toNat) 31) = 4 ∨ (yand (sc i.toNat) 31) = 5 ∨ (yand (sc i.toNat) 31) = 6 ∨ (yand (sc i.toNat) 31) = 7 ∨ (yand (sc i.toNat) 31) = 8 ∨ (yand (sc i.toNat) 31) = 9 ∨ (yand (sc i.toNat) 31) = 10 ∨ (yand (sc i.toNat) 31) = 11 ∨ (yand (sc i.toNat) 31) = 12 ∨ (yand (sc i.toNat) 31) = 13 ∨ (yand (sc i.toNat) 31) = 14 ∨ (yand (sc i.toNat) 31) = 15 ∨ (yand (sc i.toNat) 31) = 16 ∨ (yand (sc i.toNat) 31) = 17 ∨ (yand (sc i.toNat) 31) = 18 ∨ (yand (sc i.toNat) 31) = 19 ∨ (yand (sc i.toNat) 31) = 20 ∨ (yand (sc i.toNat) 31) = 21 ∨ (yand (sc i.toNat) 31) = 22 ∨ (yand (sc i.toNat) 31) = 23 ∨ (yand (sc i.toNat) 31) = 24 ∨ (yand (sc i.toNat) 31) = 25 ∨ (yand (sc i.toNat) 31) = 26 ∨ (yand (sc i.toNat) 31) = 27 ∨ (yand (sc i.toNat) 31) = 28 ∨ (yand (sc i.toNat) 31) = 29 ∨ (yand (sc i.toNat) 31) = 30 ∨ (yand (sc i.toNat) 31) = 31 by omega) with h5 | h6 | h7 | h8 | h9 | h10 | h11 | h12 | h13 | h14 | h15 | h16 | h17 | h18 | h19 | h20 | h21 | h22 | h23 | h24 | h25 | h26 | h27 | h28 | h29 | h30 | h31 | h32 | h33 | h34 | h35 | h36
      · refine r_swK (i := 24) (u := 1) (v := 643) (k := 0) (t := 25) rfl rfl h5 (by decide) (by decide) rfl ?_
        refine r_load (i := 25) (u := 1) (w := 2) rfl rfl rfl ?_
        refine r_load (i := 26) (u := 0) (w := 2) rfl rfl rfl ?_
        refine r_load (i := 27) (u := 4) (w := 0) rfl rfl rfl ?_
        refine r_const (i := 28) (u := 1) (z := 1) rfl rfl ?_
        refine r_iadd (i := 29) rfl ?_
        refine r_scA (i := 30) hG rfl (by omega) (by omega) fun h37 => ?_
        have h37 : Rg (sc (i + 1).toNat) := h37
        refine z_eq (i := 31) (v := 34) rfl ⟨by omega, by omega⟩ (fun h38 => ?_) (fun h39 => ?_)
        · refine r_const (i := 34) (u := 0) (z := 0) rfl rfl ?_
          refine r_load (i := 35) (u := 0) (w := 2) rfl rfl rfl ?_
          refine r_load (i := 36) (u := 4) (w := 0) rfl rfl rfl ?_
          refine r_const (i := 37) (u := 2) (z := 2) rfl rfl ?_
          refine r_iadd (i := 38) rfl ?_
          refine r_scA (i := 39) hG rfl (by omega) (by omega) fun h40 => ?_
          have h40 : Rg (sc (i + 2).toNat) := h40
          refine r_load (i := 40) (u := 0) (w := 2) rfl rfl rfl ?_
          refine r_load (i := 41) (u := 4) (w := 0) rfl rfl rfl ?_
          refine r_const (i := 42) (u := 3) (z := 3) rfl rfl ?_
          refine r_iadd (i := 43) rfl ?_
          refine r_scA (i := 44) hG rfl (by omega) (by omega) fun h41 => ?_
          have h41 : Rg (sc (i + 3).toNat) := h41
          refine r_load (i := 45) (u := 0) (w := 2) rfl rfl rfl ?_
          refine r_load (i := 46) (u := 4) (w := 0) rfl rfl rfl ?_
          refine r_const (i := 47) (u := 4) (z := 4) rfl rfl ?_
          refine r_iadd (i := 48) rfl ?_
          refine r_scA (i := 49) hG rfl (by omega) (by omega) fun h42 => ?_
          have h42 : Rg (sc (i + 4).toNat) := h42
          refine r_load (i := 50) (u := 3) (w := 2) rfl rfl rfl ?_
          refine r_call (i := 51) (u := 65535) (v := 179) (w := 0) (b := 2) (na := 1798) (C2 := xC179) (as := [(2, 0), vi 0, vi (sc (i + 2).toNat), vi (sc (i + 3).toNat), vi (sc (i + 4).toNat), (2, 81)]) (s := []) rfl rfl rfl rfl rfl rfl rfl (sp179 (p0 := 0) (p1 := sc (i + 2).toNat) (p2 := sc (i + 3).toNat) (p3 := sc (i + 4).toNat) (kR := 5199 - i) hI ⟨by omega, by omega⟩ ⟨by omega, by omega⟩ ⟨by omega, by omega⟩ ⟨by omega, by omega⟩ (by exact wRM_le q_0 (by omega)) (by omega) e_N23 e_CR (by omega)) (fun r43 S44 hq45 => ?_)
          obtain ⟨z46, rfl, h47, h48, rm49, ht50, c6h51, e52, e53, hI54, hF55⟩ := hq45
          refine Or.inr (Or.inl ⟨rfl, ?_⟩)
          have rs9 := RS_type e_RS (hI.f tf1_7).1 (by omega) ht50 c6h51 hF55 rfl
          refine r_store (i := 52) (u := 5) (w := 0) (L1 := [some ((6, 0)), some ((2, 0)), some ((2, 43)), some ((2, 81)), some (vi i), some (vi z46), none]) rfl rfl rfl rfl ?_
          refine r_load (i := 53) (u := 2) (w := 2) rfl rfl rfl ?_
          refine r_load (i := 54) (u := 0) (w := 2) rfl rfl rfl ?_
          refine r_load (i := 55) (u := 4) (w := 0) rfl rfl rfl ?_
          refine r_const (i := 56) (u := 1) (z := 1) rfl rfl ?_
          refine r_iadd (i := 57) rfl ?_
          refine r_scA (i := 58) hG rfl (by omega) (by omega) fun h56 => ?_
          have h56 : Rg (sc (i + 1).toNat) := h56
          refine z_eq (i := 59) (v := 62) rfl ⟨by omega, by omega⟩ (fun h57 => ?_) (fun h58 => absurd h58 (by omega))
          refine r_const (i := 62) (u := 0) (z := 0) rfl rfl ?_
          refine r_load (i := 63) (u := 0) (w := 2) rfl rfl rfl ?_
          refine r_load (i := 64) (u := 4) (w := 0) rfl rfl rfl ?_
          refine r_const (i := 65) (u := 2) (z := 2) rfl rfl ?_
          refine r_iadd (i := 66) rfl ?_
          refine r_scA (i := 67) hG rfl (by omega) (by omega) fun h59 => ?_
          have h59 : Rg (sc (i + 2).toNat) := h59
          refine r_load (i := 68) (u := 0) (w := 2) rfl rfl rfl ?_
          refine r_load (i := 69) (u := 4) (w := 0) rfl rfl rfl ?_
          refine r_const (i := 70) (u := 3) (z := 3) rfl rfl ?_
          refine r_iadd (i := 71) rfl ?_
          refine r_scA (i := 72) hG rfl (by omega) (by omega) fun h60 => ?_
          have h60 : Rg (sc (i + 3).toNat) := h60
          refine r_load (i := 73) (u := 0) (w := 2) rfl rfl rfl ?_
          refine r_load (i := 74) (u := 4) (w := 0) rfl rfl rfl ?_
          refine r_const (i := 75) (u := 4) (z := 4) rfl rfl ?_
          refine r_iadd (i := 76) rfl ?_
          refine r_scA (i := 77) hG rfl (by omega) (by omega) fun h61 => ?_
          have h61 : Rg (sc (i + 4).toNat) := h61
          refine r_call (i := 78) (u := 11) (v := 259) (w := 0) (b := 0) (na := 1541) (C2 := xC259) (as := [(2, 43), vi 0, vi (sc (i + 2).toNat), vi (sc (i + 3).toNat), vi (sc (i + 4).toNat)]) (s := []) rfl rfl rfl rfl rfl rfl rfl (sp259 (b := 0) (bits := sc (i + 2).toNat) (p := sc (i + 3).toNat) (up := sc (i + 4).toNat) hI54 ⟨by omega, by omega⟩ ⟨by omega, by omega⟩ ⟨by omega, by omega⟩ ⟨by omega, by omega⟩   (by omega)) (fun r62 S63 hq64 => ?_)
          obtain ⟨z65, rfl, h66, h67, mq68, hI69, hF70, hR71⟩ := hq64
          have e72 := N23x.fr e52 hF70 hR71 rfl rfl rfl
          have e73 := CRx.fr e53 hF70 rfl rfl
          have e74 := wRM_rm rm49 hR71
          have e75 := RSx.fr rs9 hF70 rfl rfl
          refine Or.inr (Or.inl ⟨rfl, ?_⟩)
          have rt9 := (RT_type e_RT (by omega) (Int.le_trans (by decide) (hI.f tf1_7).1) ht50 hF55 rfl rfl mq68 hF70 rfl rfl).1
          have rk9 := (RT_type e_RT (by omega) (Int.le_trans (by decide) (hI.f tf1_7).1) ht50 hF55 rfl rfl mq68 hF70 rfl rfl).2.1
          have ro9 := (RT_type e_RT (by omega) (Int.le_trans (by decide) (hI.f tf1_7).1) ht50 hF55 rfl rfl mq68 hF70 rfl rfl).2.2
          refine r_store (i := 79) (u := 6) (w := 0) (L1 := [some ((6, 0)), some ((2, 0)), some ((2, 43)), some ((2, 81)), some (vi i), some (vi z46), some (vi z65)]) rfl rfl rfl rfl ?_
          refine r_goto (i := 80) (v := 643) rfl ?_
          refine r_iinc (i := 643) (u := 10) (v := 4) (s := 10) (L1 := [some ((6, 0)), some ((2, 0)), some ((2, 43)), some ((2, 81)), some (vi (i + 10)), some (vi z46), some (vi z65)]) rfl rfl rfl rfl rfl ?_
          refine r_goto (i := 644) (v := 13) rfl ?_
          refine yT_drop (L1 := [some ((6, 0)), some ((2, 0)), some ((2, 43)), some ((2, 81)), some (vi (i + 10)), none, none]) rfl ?_
          exact ih S63 hI69 e72 e73 rt9 e75 (i + 10) ⟨by omega, by omega⟩ (by exact wRM_le e74 (by omega)) (by omega)
        · refine r_const (i := 32) (u := 1) (z := 1) rfl rfl ?_
          refine r_goto (i := 33) (v := 35) rfl ?_
          refine r_load (i := 35) (u := 0) (w := 2) rfl rfl rfl ?_
          refine r_load (i := 36) (u := 4) (w := 0) rfl rfl rfl ?_
          refine r_const (i := 37) (u := 2) (z := 2) rfl rfl ?_
          refine r_iadd (i := 38) rfl ?_
          refine r_scA (i := 39) hG rfl (by omega) (by omega) fun h76 => ?_
          have h76 : Rg (sc (i + 2).toNat) := h76
          refine r_load (i := 40) (u := 0) (w := 2) rfl rfl rfl ?_
          refine r_load (i := 41) (u := 4) (w := 0) rfl rfl rfl ?_
          refine r_const (i := 42) (u := 3) (z := 3) rfl rfl ?_
          refine r_iadd (i := 43) rfl ?_
          refine r_scA (i := 44) hG rfl (by omega) (by omega) fun h77 => ?_
          have h77 : Rg (sc (i + 3).toNat) := h77
          refine r_load (i := 45) (u := 0) (w := 2) rfl rfl rfl ?_
          refine r_load (i := 46) (u := 4) (w := 0) rfl rfl rfl ?_
          refine r_const (i := 47) (u := 4) (z := 4) rfl rfl ?_
          refine r_iadd (i := 48) rfl ?_
          refine r_scA (i := 49) hG rfl (by omega) (by omega) fun h78 => ?_
          have h78 : Rg (sc (i + 4).toNat) := h78
          refine r_load (i := 50) (u := 3) (w := 2) rfl rfl rfl ?_
          refine r_call (i := 51) (u := 65535) (v := 179) (w := 0) (b := 2) (na := 1798) (C2 := xC179) (as := [(2, 0), vi 1, vi (sc (i + 2).toNat), vi (sc (i + 3).toNat), vi (sc (i + 4).toNat), (2, 81)]) (s := []) rfl rfl rfl rfl rfl rfl rfl (sp179 (p0 := 1) (p1 := sc (i + 2).toNat) (p2 := sc (i + 3).toNat) (p3 := sc (i + 4).toNat) (kR := 5199 - i) hI ⟨by omega, by omega⟩ ⟨by omega, by omega⟩ ⟨by omega, by omega⟩ ⟨by omega, by omega⟩ (by exact wRM_le q_0 (by omega)) (by omega) e_N23 e_CR (by omega)) (fun r79 S80 hq81 => ?_)
          obtain ⟨z82, rfl, h83, h84, rm85, ht86, c6h87, e88, e89, hI90, hF91⟩ := hq81
          refine Or.inr (Or.inl ⟨rfl, ?_⟩)
          have rs9 := RS_type e_RS (hI.f tf1_7).1 (by omega) ht86 c6h87 hF91 rfl
          refine r_store (i := 52) (u := 5) (w := 0) (L1 := [some ((6, 0)), some ((2, 0)), some ((2, 43)), some ((2, 81)), some (vi i), some (vi z82), none]) rfl rfl rfl rfl ?_
          refine r_load (i := 53) (u := 2) (w := 2) rfl rfl rfl ?_
          refine r_load (i := 54) (u := 0) (w := 2) rfl rfl rfl ?_
          refine r_load (i := 55) (u := 4) (w := 0) rfl rfl rfl ?_
          refine r_const (i := 56) (u := 1) (z := 1) rfl rfl ?_
          refine r_iadd (i := 57) rfl ?_
          refine r_scA (i := 58) hG rfl (by omega) (by omega) fun h92 => ?_
          have h92 : Rg (sc (i + 1).toNat) := h92
          refine z_eq (i := 59) (v := 62) rfl ⟨by omega, by omega⟩ (fun h93 => absurd h93 (by omega)) (fun h94 => ?_)
          refine r_const (i := 60) (u := 1) (z := 1) rfl rfl ?_
          refine r_goto (i := 61) (v := 63) rfl ?_
          refine r_load (i := 63) (u := 0) (w := 2) rfl rfl rfl ?_
          refine r_load (i := 64) (u := 4) (w := 0) rfl rfl rfl ?_
          refine r_const (i := 65) (u := 2) (z := 2) rfl rfl ?_
          refine r_iadd (i := 66) rfl ?_
          refine r_scA (i := 67) hG rfl (by omega) (by omega) fun h95 => ?_
          have h95 : Rg (sc (i + 2).toNat) := h95
          refine r_load (i := 68) (u := 0) (w := 2) rfl rfl rfl ?_
          refine r_load (i := 69) (u := 4) (w := 0) rfl rfl rfl ?_
          refine r_const (i := 70) (u := 3) (z := 3) rfl rfl ?_
          refine r_iadd (i := 71) rfl ?_
          refine r_scA (i := 72) hG rfl (by omega) (by omega) fun h96 => ?_
          have h96 : Rg (sc (i + 3).toNat) := h96
          refine r_load (i := 73) (u := 0) (w := 2) rfl rfl rfl ?_
          refine r_load (i := 74) (u := 4) (w := 0) rfl rfl rfl ?_
          refine r_const (i := 75) (u := 4) (z := 4) rfl rfl ?_
          refine r_iadd (i := 76) rfl ?_
          refine r_scA (i := 77) hG rfl (by omega) (by omega) fun h97 => ?_
          have h97 : Rg (sc (i + 4).toNat) := h97
          refine r_call (i := 78) (u := 11) (v := 259) (w := 0) (b := 0) (na := 1541) (C2 := xC259) (as := [(2, 43), vi 1, vi (sc (i + 2).toNat), vi (sc (i + 3).toNat), vi (sc (i + 4).toNat)]) (s := []) rfl rfl rfl rfl rfl rfl rfl (sp259 (b := 1) (bits := sc (i + 2).toNat) (p := sc (i + 3).toNat) (up := sc (i + 4).toNat) hI90 ⟨by omega, by omega⟩ ⟨by omega, by omega⟩ ⟨by omega, by omega⟩ ⟨by omega, by omega⟩   (by omega)) (fun r98 S99 hq100 => ?_)
          obtain ⟨z101, rfl, h102, h103, mq104, hI105, hF106, hR107⟩ := hq100
          have e108 := N23x.fr e88 hF106 hR107 rfl rfl rfl
          have e109 := CRx.fr e89 hF106 rfl rfl
          have e110 := wRM_rm rm85 hR107
          have e111 := RSx.fr rs9 hF106 rfl rfl
          refine Or.inr (Or.inl ⟨rfl, ?_⟩)
          have rt9 := (RT_type e_RT (by omega) (Int.le_trans (by decide) (hI.f tf1_7).1) ht86 hF91 rfl rfl mq104 hF106 rfl rfl).1
          have rk9 := (RT_type e_RT (by omega) (Int.le_trans (by decide) (hI.f tf1_7).1) ht86 hF91 rfl rfl mq104 hF106 rfl rfl).2.1
          have ro9 := (RT_type e_RT (by omega) (Int.le_trans (by decide) (hI.f tf1_7).1) ht86 hF91 rfl rfl mq104 hF106 rfl rfl).2.2
          refine r_store (i := 79) (u := 6) (w := 0) (L1 := [some ((6, 0)), some ((2, 0)), some ((2, 43)), some ((2, 81)), some (vi i), some (vi z82), some (vi z101)]) rfl rfl rfl rfl ?_
          refine r_goto (i := 80) (v := 643) rfl ?_
          refine r_iinc (i := 643) (u := 10) (v := 4) (s := 10) (L1 := [some ((6, 0)), some ((2, 0)), some ((2, 43)), some ((2, 81)), some (vi (i + 10)), some (vi z82), some (vi z101)]) rfl rfl rfl rfl rfl ?_
          refine r_goto (i := 644) (v := 13) rfl ?_
          refine yT_drop (L1 := [some ((6, 0)), some ((2, 0)), some ((2, 43)), some ((2, 81)), some (vi (i + 10)), none, none]) rfl ?_
          exact ih S99 hI105 e108 e109 rt9 e111 (i + 10) ⟨by omega, by omega⟩ (by exact wRM_le e110 (by omega)) (by omega)
      · refine r_swK (i := 24) (u := 1) (v := 643) (k := 1) (t := 81) rfl rfl h6 (by decide) (by decide) rfl ?_
        refine r_load (i := 81) (u := 1) (w := 2) rfl rfl rfl ?_
        refine r_load (i := 82) (u := 0) (w := 2) rfl rfl rfl ?_
        refine r_load (i := 83) (u := 4) (w := 0) rfl rfl rfl ?_
        refine r_const (i := 84) (u := 1) (z := 1) rfl rfl ?_
        refine r_iadd (i := 85) rfl ?_
        refine r_scA (i := 86) hG rfl (by omega) (by omega) fun h112 => ?_
        have h112 : Rg (sc (i + 1).toNat) := h112
        refine r_load (i := 87) (u := 0) (w := 2) rfl rfl rfl ?_
        refine r_load (i := 88) (u := 4) (w := 0) rfl rfl rfl ?_
        refine r_const (i := 89) (u := 2) (z := 2) rfl rfl ?_
        refine r_iadd (i := 90) rfl ?_
        refine r_scA (i := 91) hG rfl (by omega) (by omega) fun h113 => ?_
        have h113 : Rg (sc (i + 2).toNat) := h113
        refine r_call (i := 92) (u := 65535) (v := 176) (w := 0) (b := 2) (na := 1027) (C2 := xC176) (as := [(2, 0), vi (sc (i + 1).toNat), vi (sc (i + 2).toNat)]) (s := []) rfl rfl rfl rfl rfl rfl rfl (sp176 (p0 := sc (i + 1).toNat) (p1 := sc (i + 2).toNat) (kR := 5199 - i) hI ⟨by omega, by omega⟩ ⟨by omega, by omega⟩ (by exact wRM_le q_0 (by omega)) (by omega) e_N23 e_CR (by omega)) (fun r114 S115 hq116 => ?_)
        obtain ⟨z117, rfl, h118, h119, rm120, him121, e122, e123, hI124, hF125⟩ := hq116
        have e126 := RTx.fr e_RT hF125 rfl rfl
        refine Or.inr (Or.inl ⟨rfl, ?_⟩)
        refine r_store (i := 93) (u := 5) (w := 0) (L1 := [some ((6, 0)), some ((2, 0)), some ((2, 43)), some ((2, 81)), some (vi i), some (vi z117), none]) rfl rfl rfl rfl ?_
        refine r_load (i := 94) (u := 2) (w := 2) rfl rfl rfl ?_
        refine r_load (i := 95) (u := 0) (w := 2) rfl rfl rfl ?_
        refine r_load (i := 96) (u := 4) (w := 0) rfl rfl rfl ?_
        refine r_const (i := 97) (u := 1) (z := 1) rfl rfl ?_
        refine r_iadd (i := 98) rfl ?_
        refine r_scA (i := 99) hG rfl (by omega) (by omega) fun h127 => ?_
        have h127 : Rg (sc (i + 1).toNat) := h127
        refine r_load (i := 100) (u := 0) (w := 2) rfl rfl rfl ?_
        refine r_load (i := 101) (u := 4) (w := 0) rfl rfl rfl ?_
        refine r_const (i := 102) (u := 2) (z := 2) rfl rfl ?_
        refine r_iadd (i := 103) rfl ?_
        refine r_scA (i := 104) hG rfl (by omega) (by omega) fun h128 => ?_
        have h128 : Rg (sc (i + 2).toNat) := h128
        refine r_call (i := 105) (u := 11) (v := 206) (w := 0) (b := 0) (na := 1283) (C2 := xC206) (as := [(2, 43), vi (sc (i + 1).toNat), vi (sc (i + 2).toNat)]) (s := []) rfl rfl rfl rfl rfl rfl rfl (sp206 (t := sc (i + 1).toNat) (f := sc (i + 2).toNat) hI124 ⟨by omega, by omega⟩ ⟨by omega, by omega⟩   (by omega)) (fun r129 S130 hq131 => ?_)
        obtain ⟨rfl, mi132, hI133, hF134, hR135⟩ := hq131
        have e136 := RTx.fr e126 hF134 rfl rfl
        have e137 := N23x.fr e122 hF134 hR135 rfl rfl rfl
        have e138 := CRx.fr e123 hF134 rfl rfl
        have e139 := wRM_rm rm120 hR135
        refine Or.inl ⟨rfl, ?_⟩
        have rs9 := (RS_impl e_RT e_RS hI.m3 (fun j => hI.a ta7 j) (hI.f tf1_7).2 him121 hF125 rfl rfl mi132 hF134 rfl rfl).1
        have rk9 := (RS_impl e_RT e_RS hI.m3 (fun j => hI.a ta7 j) (hI.f tf1_7).2 him121 hF125 rfl rfl mi132 hF134 rfl rfl).2
        refine r_load (i := 106) (u := 2) (w := 2) rfl rfl rfl ?_
        have h140 := hI133.f tf43_0
        refine r_call (i := 107) (u := 11) (v := 256) (w := 0) (b := 0) (na := 257) (C2 := xC256) (as := [(2, 43)]) (s := []) rfl rfl rfl rfl rfl rfl rfl (sp256  hI133    (by omega)) (fun r141 S142 hq143 => ?_)
        obtain ⟨z144, rfl, h145, h146, h147, rfl⟩ := hq143
        refine Or.inr (Or.inl ⟨rfl, ?_⟩)
        refine r_load (i := 108) (u := 5) (w := 0) rfl rfl rfl ?_
        refine c_eq (i := 109) (v := 112) rfl ⟨by omega, by omega⟩ ⟨by omega, by omega⟩ (fun h148 => ?_) (fun h149 => ?_)
        · refine r_goto (i := 112) (v := 643) rfl ?_
          refine r_iinc (i := 643) (u := 10) (v := 4) (s := 10) (L1 := [some ((6, 0)), some ((2, 0)), some ((2, 43)), some ((2, 81)), some (vi (i + 10)), some (vi z117), none]) rfl rfl rfl rfl rfl ?_
          refine r_goto (i := 644) (v := 13) rfl ?_
          refine yT_drop (L1 := [some ((6, 0)), some ((2, 0)), some ((2, 43)), some ((2, 81)), some (vi (i + 10)), none, none]) rfl ?_
          exact ih S130 hI133 e137 e138 e136 rs9 (i + 10) ⟨by omega, by omega⟩ (by exact wRM_le e139 (by omega)) (by omega)
        · refine r_const (i := 110) (u := 0) (z := 0) rfl rfl ?_
          exact r_retZ (i := 111) rfl (by omega) (by omega) ⟨0, rfl, by omega, by omega⟩
      · refine r_swK (i := 24) (u := 1) (v := 643) (k := 2) (t := 113) rfl rfl h7 (by decide) (by decide) rfl ?_
        refine r_load (i := 113) (u := 1) (w := 2) rfl rfl rfl ?_
        refine r_load (i := 114) (u := 0) (w := 2) rfl rfl rfl ?_
        refine r_load (i := 115) (u := 4) (w := 0) rfl rfl rfl ?_
        refine r_const (i := 116) (u := 1) (z := 1) rfl rfl ?_
        refine r_iadd (i := 117) rfl ?_
        refine r_scA (i := 118) hG rfl (by omega) (by omega) fun h150 => ?_
        have h150 : Rg (sc (i + 1).toNat) := h150
        refine r_load (i := 119) (u := 0) (w := 2) rfl rfl rfl ?_
        refine r_load (i := 120) (u := 4) (w := 0) rfl rfl rfl ?_
        refine r_const (i := 121) (u := 2) (z := 2) rfl rfl ?_
        refine r_iadd (i := 122) rfl ?_
        refine r_scA (i := 123) hG rfl (by omega) (by omega) fun h151 => ?_
        have h151 : Rg (sc (i + 2).toNat) := h151
        refine r_load (i := 124) (u := 0) (w := 2) rfl rfl rfl ?_
        refine r_load (i := 125) (u := 4) (w := 0) rfl rfl rfl ?_
        refine r_const (i := 126) (u := 3) (z := 3) rfl rfl ?_
        refine r_iadd (i := 127) rfl ?_
        refine r_scA (i := 128) hG rfl (by omega) (by omega) fun h152 => ?_
        have h152 : Rg (sc (i + 3).toNat) := h152
        refine r_load (i := 129) (u := 0) (w := 2) rfl rfl rfl ?_
        refine r_load (i := 130) (u := 4) (w := 0) rfl rfl rfl ?_
        refine r_const (i := 131) (u := 4) (z := 4) rfl rfl ?_
        refine r_iadd (i := 132) rfl ?_
        refine r_scA (i := 133) hG rfl (by omega) (by omega) fun h153 => ?_
        have h153 : Rg (sc (i + 4).toNat) := h153
        refine r_load (i := 134) (u := 0) (w := 2) rfl rfl rfl ?_
        refine r_load (i := 135) (u := 4) (w := 0) rfl rfl rfl ?_
        refine r_const (i := 136) (u := 5) (z := 5) rfl rfl ?_
        refine r_iadd (i := 137) rfl ?_
        refine r_scA (i := 138) hG rfl (by omega) (by omega) fun h154 => ?_
        have h154 : Rg (sc (i + 5).toNat) := h154
        refine r_load (i := 139) (u := 3) (w := 2) rfl rfl rfl ?_
        refine r_call (i := 140) (u := 65535) (v := 177) (w := 0) (b := 2) (na := 2055) (C2 := xC177) (as := [(2, 0), vi (sc (i + 1).toNat), vi (sc (i + 2).toNat), vi (sc (i + 3).toNat), vi (sc (i + 4).toNat), vi (sc (i + 5).toNat), (2, 81)]) (s := []) rfl rfl rfl rfl rfl rfl rfl (sp177 (p0 := sc (i + 1).toNat) (p1 := sc (i + 2).toNat) (p2 := sc (i + 3).toNat) (p3 := sc (i + 4).toNat) (p4 := sc (i + 5).toNat) (kR := 5199 - i) hI ⟨by omega, by omega⟩ ⟨by omega, by omega⟩ ⟨by omega, by omega⟩ ⟨by omega, by omega⟩ ⟨by omega, by omega⟩ (by exact wRM_le q_0 (by omega)) (by omega) e_N23 e_CR (by omega)) (fun r155 S156 hq157 => ?_)
        obtain ⟨z158, rfl, h159, h160, rm161, e162, e163, hI164, hF165⟩ := hq157
        have e166 := RTx.fr e_RT hF165 rfl rfl
        have e167 := RSx.fr e_RS hF165 rfl rfl
        refine Or.inr (Or.inl ⟨rfl, ?_⟩)
        refine r_store (i := 141) (u := 5) (w := 0) (L1 := [some ((6, 0)), some ((2, 0)), some ((2, 43)), some ((2, 81)), some (vi i), some (vi z158), none]) rfl rfl rfl rfl ?_
        refine r_load (i := 142) (u := 2) (w := 2) rfl rfl rfl ?_
        refine r_load (i := 143) (u := 0) (w := 2) rfl rfl rfl ?_
        refine r_load (i := 144) (u := 4) (w := 0) rfl rfl rfl ?_
        refine r_const (i := 145) (u := 1) (z := 1) rfl rfl ?_
        refine r_iadd (i := 146) rfl ?_
        refine r_scA (i := 147) hG rfl (by omega) (by omega) fun h168 => ?_
        have h168 : Rg (sc (i + 1).toNat) := h168
        refine r_load (i := 148) (u := 0) (w := 2) rfl rfl rfl ?_
        refine r_load (i := 149) (u := 4) (w := 0) rfl rfl rfl ?_
        refine r_const (i := 150) (u := 2) (z := 2) rfl rfl ?_
        refine r_iadd (i := 151) rfl ?_
        refine r_scA (i := 152) hG rfl (by omega) (by omega) fun h169 => ?_
        have h169 : Rg (sc (i + 2).toNat) := h169
        refine r_load (i := 153) (u := 0) (w := 2) rfl rfl rfl ?_
        refine r_load (i := 154) (u := 4) (w := 0) rfl rfl rfl ?_
        refine r_const (i := 155) (u := 3) (z := 3) rfl rfl ?_
        refine r_iadd (i := 156) rfl ?_
        refine r_scA (i := 157) hG rfl (by omega) (by omega) fun h170 => ?_
        have h170 : Rg (sc (i + 3).toNat) := h170
        refine r_load (i := 158) (u := 0) (w := 2) rfl rfl rfl ?_
        refine r_load (i := 159) (u := 4) (w := 0) rfl rfl rfl ?_
        refine r_const (i := 160) (u := 4) (z := 4) rfl rfl ?_
        refine r_iadd (i := 161) rfl ?_
        refine r_scA (i := 162) hG rfl (by omega) (by omega) fun h171 => ?_
        have h171 : Rg (sc (i + 4).toNat) := h171
        refine r_load (i := 163) (u := 0) (w := 2) rfl rfl rfl ?_
        refine r_load (i := 164) (u := 4) (w := 0) rfl rfl rfl ?_
        refine r_const (i := 165) (u := 5) (z := 5) rfl rfl ?_
        refine r_iadd (i := 166) rfl ?_
        refine r_scA (i := 167) hG rfl (by omega) (by omega) fun h172 => ?_
        have h172 : Rg (sc (i + 5).toNat) := h172
        refine r_call (i := 168) (u := 11) (v := 220) (w := 0) (b := 0) (na := 1542) (C2 := xC220) (as := [(2, 43), vi (sc (i + 1).toNat), vi (sc (i + 2).toNat), vi (sc (i + 3).toNat), vi (sc (i + 4).toNat), vi (sc (i + 5).toNat)]) (s := []) rfl rfl rfl rfl rfl rfl rfl (sp220 (t := sc (i + 1).toNat) (w0 := sc (i + 2).toNat) (bits := sc (i + 3).toNat) (al := sc (i + 4).toNat) (back := sc (i + 5).toNat) hI164 ⟨by omega, by omega⟩ ⟨by omega, by omega⟩ ⟨by omega, by omega⟩ ⟨by omega, by omega⟩ ⟨by omega, by omega⟩  e163 (by omega)) (fun r173 S174 hq175 => ?_)
        obtain ⟨z176, rfl, h177, h178, e179, hI180, hF181, hR182⟩ := hq175
        have e183 := RTx.fr e166 hF181 rfl rfl
        have e184 := RSx.fr e167 hF181 rfl rfl
        have e185 := N23x.fr e162 hF181 hR182 rfl rfl rfl
        have e186 := wRM_rm rm161 hR182
        refine Or.inr (Or.inl ⟨rfl, ?_⟩)
        refine r_store (i := 169) (u := 6) (w := 0) (L1 := [some ((6, 0)), some ((2, 0)), some ((2, 43)), some ((2, 81)), some (vi i), some (vi z158), some (vi z176)]) rfl rfl rfl rfl ?_
        refine r_goto (i := 170) (v := 643) rfl ?_
        refine r_iinc (i := 643) (u := 10) (v := 4) (s := 10) (L1 := [some ((6, 0)), some ((2, 0)), some ((2, 43)), some ((2, 81)), some (vi (i + 10)), some (vi z158), some (vi z176)]) rfl rfl rfl rfl rfl ?_
        refine r_goto (i := 644) (v := 13) rfl ?_
        refine yT_drop (L1 := [some ((6, 0)), some ((2, 0)), some ((2, 43)), some ((2, 81)), some (vi (i + 10)), none, none]) rfl ?_
        exact ih S174 hI180 e185 e179 e183 e184 (i + 10) ⟨by omega, by omega⟩ (by exact wRM_le e186 (by omega)) (by omega)
      · refine r_swK (i := 24) (u := 1) (v := 643) (k := 3) (t := 171) rfl rfl h8 (by decide) (by decide) rfl ?_
        refine r_load (i := 171) (u := 1) (w := 2) rfl rfl rfl ?_
        refine r_load (i := 172) (u := 0) (w := 2) rfl rfl rfl ?_
        refine r_load (i := 173) (u := 4) (w := 0) rfl rfl rfl ?_
        refine r_const (i := 174) (u := 1) (z := 1) rfl rfl ?_
        refine r_iadd (i := 175) rfl ?_
        refine r_scA (i := 176) hG rfl (by omega) (by omega) fun h187 => ?_
        have h187 : Rg (sc (i + 1).toNat) := h187
        refine r_load (i := 177) (u := 0) (w := 2) rfl rfl rfl ?_
        refine r_load (i := 178) (u := 4) (w := 0) rfl rfl rfl ?_
        refine r_const (i := 179) (u := 2) (z := 2) rfl rfl ?_
        refine r_iadd (i := 180) rfl ?_
        refine r_scA (i := 181) hG rfl (by omega) (by omega) fun h188 => ?_
        have h188 : Rg (sc (i + 2).toNat) := h188
        refine r_call (i := 182) (u := 65535) (v := 178) (w := 0) (b := 2) (na := 1027) (C2 := xC178) (as := [(2, 0), vi (sc (i + 1).toNat), vi (sc (i + 2).toNat)]) (s := []) rfl rfl rfl rfl rfl rfl rfl (sp178 (p0 := sc (i + 1).toNat) (p1 := sc (i + 2).toNat) (kR := 5199 - i) hI ⟨by omega, by omega⟩ ⟨by omega, by omega⟩ (by exact wRM_le q_0 (by omega)) (by omega) e_N23 e_CR (by omega)) (fun r189 S190 hq191 => ?_)
        obtain ⟨z192, rfl, h193, h194, rm195, e196, e197, hI198, hF199⟩ := hq191
        have e200 := RTx.fr e_RT hF199 rfl rfl
        have e201 := RSx.fr e_RS hF199 rfl rfl
        refine Or.inr (Or.inl ⟨rfl, ?_⟩)
        refine r_store (i := 183) (u := 5) (w := 0) (L1 := [some ((6, 0)), some ((2, 0)), some ((2, 43)), some ((2, 81)), some (vi i), some (vi z192), none]) rfl rfl rfl rfl ?_
        refine r_load (i := 184) (u := 2) (w := 2) rfl rfl rfl ?_
        refine r_load (i := 185) (u := 0) (w := 2) rfl rfl rfl ?_
        refine r_load (i := 186) (u := 4) (w := 0) rfl rfl rfl ?_
        refine r_const (i := 187) (u := 1) (z := 1) rfl rfl ?_
        refine r_iadd (i := 188) rfl ?_
        refine r_scA (i := 189) hG rfl (by omega) (by omega) fun h202 => ?_
        have h202 : Rg (sc (i + 1).toNat) := h202
        refine r_load (i := 190) (u := 0) (w := 2) rfl rfl rfl ?_
        refine r_load (i := 191) (u := 4) (w := 0) rfl rfl rfl ?_
        refine r_const (i := 192) (u := 2) (z := 2) rfl rfl ?_
        refine r_iadd (i := 193) rfl ?_
        refine r_scA (i := 194) hG rfl (by omega) (by omega) fun h203 => ?_
        have h203 : Rg (sc (i + 2).toNat) := h203
        refine r_call (i := 195) (u := 11) (v := 255) (w := 0) (b := 0) (na := 1283) (C2 := xC255) (as := [(2, 43), vi (sc (i + 1).toNat), vi (sc (i + 2).toNat)]) (s := []) rfl rfl rfl rfl rfl rfl rfl (sp255 (m := sc (i + 1).toNat) (t := sc (i + 2).toNat) hI198 ⟨by omega, by omega⟩ ⟨by omega, by omega⟩   (by omega)) (fun r204 S205 hq206 => ?_)
        obtain ⟨rfl, hI207, hF208, hR209⟩ := hq206
        have e210 := RTx.fr e200 hF208 rfl rfl
        have e211 := RSx.fr e201 hF208 rfl rfl
        have e212 := N23x.fr e196 hF208 hR209 rfl rfl rfl
        have e213 := CRx.fr e197 hF208 rfl rfl
        have e214 := wRM_rm rm195 hR209
        refine Or.inl ⟨rfl, ?_⟩
        refine r_goto (i := 196) (v := 643) rfl ?_
        refine r_iinc (i := 643) (u := 10) (v := 4) (s := 10) (L1 := [some ((6, 0)), some ((2, 0)), some ((2, 43)), some ((2, 81)), some (vi (i + 10)), some (vi z192), none]) rfl rfl rfl rfl rfl ?_
        refine r_goto (i := 644) (v := 13) rfl ?_
        refine yT_drop (L1 := [some ((6, 0)), some ((2, 0)), some ((2, 43)), some ((2, 81)), some (vi (i + 10)), none, none]) rfl ?_
        exact ih S205 hI207 e212 e213 e210 e211 (i + 10) ⟨by omega, by omega⟩ (by exact wRM_le e214 (by omega)) (by omega)
      · refine r_swK (i := 24) (u := 1) (v := 643) (k := 4) (t := 197) rfl rfl h9 (by decide) (by decide) rfl ?_
        refine r_load (i := 197) (u := 1) (w := 2) rfl rfl rfl ?_
        refine r_load (i := 198) (u := 0) (w := 2) rfl rfl rfl ?_
        refine r_load (i := 199) (u := 4) (w := 0) rfl rfl rfl ?_
        refine r_const (i := 200) (u := 1) (z := 1) rfl rfl ?_
        refine r_iadd (i := 201) rfl ?_
        refine r_scA (i := 202) hG rfl (by omega) (by omega) fun h215 => ?_
        have h215 : Rg (sc (i + 1).toNat) := h215
        refine r_load (i := 203) (u := 0) (w := 2) rfl rfl rfl ?_
        refine r_load (i := 204) (u := 4) (w := 0) rfl rfl rfl ?_
        refine r_const (i := 205) (u := 2) (z := 2) rfl rfl ?_
        refine r_iadd (i := 206) rfl ?_
        refine r_scA (i := 207) hG rfl (by omega) (by omega) fun h216 => ?_
        have h216 : Rg (sc (i + 2).toNat) := h216
        have h217 := hI.f tf1_7
        refine r_call (i := 208) (u := 0) (v := 12) (w := 0) (b := 0) (na := 771) (C2 := xC12) (as := [(2, 0), vi (sc (i + 1).toNat), vi (sc (i + 2).toNat)]) (s := []) rfl rfl rfl rfl rfl rfl rfl (sp12 (t := sc (i + 1).toNat) (o := sc (i + 2).toNat) hI ⟨by omega, by omega⟩ ⟨by omega, by omega⟩   (by omega)) (fun r218 S219 hq220 => ?_)
        obtain ⟨z221, rfl, h222, h223, cs224, rfl⟩ := hq220
        refine Or.inr (Or.inl ⟨rfl, ?_⟩)
        refine r_pop (i := 209) rfl rfl ?_
        refine r_load (i := 210) (u := 2) (w := 2) rfl rfl rfl ?_
        refine r_load (i := 211) (u := 0) (w := 2) rfl rfl rfl ?_
        refine r_load (i := 212) (u := 4) (w := 0) rfl rfl rfl ?_
        refine r_const (i := 213) (u := 1) (z := 1) rfl rfl ?_
        refine r_iadd (i := 214) rfl ?_
        refine r_scA (i := 215) hG rfl (by omega) (by omega) fun h225 => ?_
        have h225 : Rg (sc (i + 1).toNat) := h225
        refine r_load (i := 216) (u := 0) (w := 2) rfl rfl rfl ?_
        refine r_load (i := 217) (u := 4) (w := 0) rfl rfl rfl ?_
        refine r_const (i := 218) (u := 2) (z := 2) rfl rfl ?_
        refine r_iadd (i := 219) rfl ?_
        refine r_scA (i := 220) hG rfl (by omega) (by omega) fun h226 => ?_
        have h226 : Rg (sc (i + 2).toNat) := h226
        have h227 := hI.f tf43_1
        refine r_call (i := 221) (u := 11) (v := 211) (w := 0) (b := 0) (na := 771) (C2 := xC211) (as := [(2, 43), vi (sc (i + 1).toNat), vi (sc (i + 2).toNat)]) (s := []) rfl rfl rfl rfl rfl rfl rfl (sp211 (t := sc (i + 1).toNat) (o := sc (i + 2).toNat) hI ⟨by omega, by omega⟩ ⟨by omega, by omega⟩   (by omega)) (fun r228 S229 hq230 => ?_)
        obtain ⟨z231, rfl, h232, h233, ms234, hI235, hF236, hR237⟩ := hq230
        have e238 := N23x.fr e_N23 hF236 hR237 rfl rfl rfl
        have e239 := CRx.fr e_CR hF236 rfl rfl
        have e240 := RTx.fr e_RT hF236 rfl rfl
        have e241 := RSx.fr e_RS hF236 rfl rfl
        have e242 := wRM_rm q_0 hR237
        refine Or.inr (Or.inl ⟨rfl, ?_⟩)
        have eq9 := RS_sub e_RT e_RS hI.m3 (hI.f tf1_7).2 cs224 ms234 rfl (fun _ => rfl) (fun _ => rfl) (fun _ => rfl)
        refine r_pop (i := 222) rfl rfl ?_
        refine r_goto (i := 223) (v := 643) rfl ?_
        refine r_iinc (i := 643) (u := 10) (v := 4) (s := 10) (L1 := [some ((6, 0)), some ((2, 0)), some ((2, 43)), some ((2, 81)), some (vi (i + 10)), none, none]) rfl rfl rfl rfl rfl ?_
        refine r_goto (i := 644) (v := 13) rfl ?_
        exact ih S229 hI235 e238 e239 e240 e241 (i + 10) ⟨by omega, by omega⟩ (by exact wRM_le e242 (by omega)) (by omega)
      · refine r_swK (i := 24) (u := 1) (v := 643) (k := 5) (t := 224) rfl rfl h10 (by decide) (by decide) rfl ?_
        refine r_load (i := 224) (u := 1) (w := 2) rfl rfl rfl ?_
        refine r_load (i := 225) (u := 0) (w := 2) rfl rfl rfl ?_
        refine r_load (i := 226) (u := 4) (w := 0) rfl rfl rfl ?_
        refine r_const (i := 227) (u := 1) (z := 1) rfl rfl ?_
        refine r_iadd (i := 228) rfl ?_
        refine r_scA (i := 229) hG rfl (by omega) (by omega) fun h243 => ?_
        have h243 : Rg (sc (i + 1).toNat) := h243
        refine r_load (i := 230) (u := 0) (w := 2) rfl rfl rfl ?_
        refine r_load (i := 231) (u := 4) (w := 0) rfl rfl rfl ?_
        refine r_const (i := 232) (u := 2) (z := 2) rfl rfl ?_
        refine r_iadd (i := 233) rfl ?_
        refine r_scA (i := 234) hG rfl (by omega) (by omega) fun h244 => ?_
        have h244 : Rg (sc (i + 2).toNat) := h244
        refine r_call (i := 235) (u := 0) (v := 14) (w := 0) (b := 0) (na := 771) (C2 := xC14) (as := [(2, 0), vi (sc (i + 1).toNat), vi (sc (i + 2).toNat)]) (s := []) rfl rfl rfl rfl rfl rfl rfl (sp14 (w0 := sc (i + 1).toNat) (k := sc (i + 2).toNat) hI ⟨by omega, by omega⟩ ⟨by omega, by omega⟩   (by omega)) (fun r245 S246 hq247 => ?_)
        obtain ⟨z248, rfl, h249, h250, h251, hI252, hF253, hR254⟩ := hq247
        have e255 := N23x.fr e_N23 hF253 hR254 rfl rfl rfl
        have e256 := CRx.fr e_CR hF253 rfl rfl
        have e257 := RTx.fr e_RT hF253 rfl rfl
        have e258 := RSx.fr e_RS hF253 rfl rfl
        have e259 := wRM_rm q_0 hR254
        refine Or.inr (Or.inl ⟨rfl, ?_⟩)
        refine r_pop (i := 236) rfl rfl ?_
        refine r_load (i := 237) (u := 2) (w := 2) rfl rfl rfl ?_
        refine r_load (i := 238) (u := 0) (w := 2) rfl rfl rfl ?_
        refine r_load (i := 239) (u := 4) (w := 0) rfl rfl rfl ?_
        refine r_const (i := 240) (u := 1) (z := 1) rfl rfl ?_
        refine r_iadd (i := 241) rfl ?_
        refine r_scA (i := 242) hG rfl (by omega) (by omega) fun h260 => ?_
        have h260 : Rg (sc (i + 1).toNat) := h260
        refine r_load (i := 243) (u := 0) (w := 2) rfl rfl rfl ?_
        refine r_load (i := 244) (u := 4) (w := 0) rfl rfl rfl ?_
        refine r_const (i := 245) (u := 2) (z := 2) rfl rfl ?_
        refine r_iadd (i := 246) rfl ?_
        refine r_scA (i := 247) hG rfl (by omega) (by omega) fun h261 => ?_
        have h261 : Rg (sc (i + 2).toNat) := h261
        refine r_call (i := 248) (u := 11) (v := 232) (w := 0) (b := 0) (na := 771) (C2 := xC232) (as := [(2, 43), vi (sc (i + 1).toNat), vi (sc (i + 2).toNat)]) (s := []) rfl rfl rfl rfl rfl rfl rfl (sp232 (w0 := sc (i + 1).toNat) (k := sc (i + 2).toNat) hI252 ⟨by omega, by omega⟩ ⟨by omega, by omega⟩   (by omega)) (fun r262 S263 hq264 => ?_)
        obtain ⟨z265, rfl, h266, h267, h268, hI269, hF270, hR271⟩ := hq264
        have e272 := N23x.fr e255 hF270 hR271 rfl rfl rfl
        have e273 := CRx.fr e256 hF270 rfl rfl
        have e274 := RTx.fr e257 hF270 rfl rfl
        have e275 := RSx.fr e258 hF270 rfl rfl
        have e276 := wRM_rm e259 hR271
        refine Or.inr (Or.inl ⟨rfl, ?_⟩)
        refine r_pop (i := 249) rfl rfl ?_
        refine r_goto (i := 250) (v := 643) rfl ?_
        refine r_iinc (i := 643) (u := 10) (v := 4) (s := 10) (L1 := [some ((6, 0)), some ((2, 0)), some ((2, 43)), some ((2, 81)), some (vi (i + 10)), none, none]) rfl rfl rfl rfl rfl ?_
        refine r_goto (i := 644) (v := 13) rfl ?_
        exact ih S263 hI269 e272 e273 e274 e275 (i + 10) ⟨by omega, by omega⟩ (by exact wRM_le e276 (by omega)) (by omega)
      · refine r_swK (i := 24) (u := 1) (v := 643) (k := 6) (t := 251) rfl rfl h11 (by decide) (by decide) rfl ?_
        refine r_load (i := 251) (u := 1) (w := 2) rfl rfl rfl ?_
        refine r_load (i := 252) (u := 0) (w := 2) rfl rfl rfl ?_
        refine r_load (i := 253) (u := 4) (w := 0) rfl rfl rfl ?_
        refine r_const (i := 254) (u := 1) (z := 1) rfl rfl ?_
        refine r_iadd (i := 255) rfl ?_
        refine r_scA (i := 256) hG rfl (by omega) (by omega) fun h277 => ?_
        have h277 : Rg (sc (i + 1).toNat) := h277
        refine r_load (i := 257) (u := 0) (w := 2) rfl rfl rfl ?_
        refine r_load (i := 258) (u := 4) (w := 0) rfl rfl rfl ?_
        refine r_const (i := 259) (u := 2) (z := 2) rfl rfl ?_
        refine r_iadd (i := 260) rfl ?_
        refine r_scA (i := 261) hG rfl (by omega) (by omega) fun h278 => ?_
        have h278 : Rg (sc (i + 2).toNat) := h278
        refine r_load (i := 262) (u := 0) (w := 2) rfl rfl rfl ?_
        refine r_load (i := 263) (u := 4) (w := 0) rfl rfl rfl ?_
        refine r_const (i := 264) (u := 3) (z := 3) rfl rfl ?_
        refine r_iadd (i := 265) rfl ?_
        refine r_scA (i := 266) hG rfl (by omega) (by omega) fun h279 => ?_
        have h279 : Rg (sc (i + 3).toNat) := h279
        refine r_load (i := 267) (u := 0) (w := 2) rfl rfl rfl ?_
        refine r_load (i := 268) (u := 4) (w := 0) rfl rfl rfl ?_
        refine r_const (i := 269) (u := 4) (z := 4) rfl rfl ?_
        refine r_iadd (i := 270) rfl ?_
        refine r_scA (i := 271) hG rfl (by omega) (by omega) fun h280 => ?_
        have h280 : Rg (sc (i + 4).toNat) := h280
        refine r_load (i := 272) (u := 3) (w := 2) rfl rfl rfl ?_
        refine r_call (i := 273) (u := 65535) (v := 175) (w := 0) (b := 2) (na := 1798) (C2 := xC175) (as := [(2, 0), vi (sc (i + 1).toNat), vi (sc (i + 2).toNat), vi (sc (i + 3).toNat), vi (sc (i + 4).toNat), (2, 81)]) (s := []) rfl rfl rfl rfl rfl rfl rfl (sp175 (p0 := sc (i + 1).toNat) (p1 := sc (i + 2).toNat) (p2 := sc (i + 3).toNat) (p3 := sc (i + 4).toNat) (kR := 5199 - i) hI ⟨by omega, by omega⟩ ⟨by omega, by omega⟩ ⟨by omega, by omega⟩ ⟨by omega, by omega⟩ (by exact wRM_le q_0 (by omega)) (by omega) e_N23 e_CR (by omega)) (fun r281 S282 hq283 => ?_)
        obtain ⟨z284, rfl, h285, h286, rm287, e288, e289, hI290, hF291⟩ := hq283
        have e292 := RTx.fr e_RT hF291 rfl rfl
        have e293 := RSx.fr e_RS hF291 rfl rfl
        refine Or.inr (Or.inl ⟨rfl, ?_⟩)
        refine r_store (i := 274) (u := 5) (w := 0) (L1 := [some ((6, 0)), some ((2, 0)), some ((2, 43)), some ((2, 81)), some (vi i), some (vi z284), none]) rfl rfl rfl rfl ?_
        refine r_load (i := 275) (u := 2) (w := 2) rfl rfl rfl ?_
        refine r_load (i := 276) (u := 0) (w := 2) rfl rfl rfl ?_
        refine r_load (i := 277) (u := 4) (w := 0) rfl rfl rfl ?_
        refine r_const (i := 278) (u := 1) (z := 1) rfl rfl ?_
        refine r_iadd (i := 279) rfl ?_
        refine r_scA (i := 280) hG rfl (by omega) (by omega) fun h294 => ?_
        have h294 : Rg (sc (i + 1).toNat) := h294
        refine r_load (i := 281) (u := 0) (w := 2) rfl rfl rfl ?_
        refine r_load (i := 282) (u := 4) (w := 0) rfl rfl rfl ?_
        refine r_const (i := 283) (u := 2) (z := 2) rfl rfl ?_
        refine r_iadd (i := 284) rfl ?_
        refine r_scA (i := 285) hG rfl (by omega) (by omega) fun h295 => ?_
        have h295 : Rg (sc (i + 2).toNat) := h295
        refine r_load (i := 286) (u := 0) (w := 2) rfl rfl rfl ?_
        refine r_load (i := 287) (u := 4) (w := 0) rfl rfl rfl ?_
        refine r_const (i := 288) (u := 3) (z := 3) rfl rfl ?_
        refine r_iadd (i := 289) rfl ?_
        refine r_scA (i := 290) hG rfl (by omega) (by omega) fun h296 => ?_
        have h296 : Rg (sc (i + 3).toNat) := h296
        refine r_load (i := 291) (u := 0) (w := 2) rfl rfl rfl ?_
        refine r_load (i := 292) (u := 4) (w := 0) rfl rfl rfl ?_
        refine r_const (i := 293) (u := 4) (z := 4) rfl rfl ?_
        refine r_iadd (i := 294) rfl ?_
        refine r_scA (i := 295) hG rfl (by omega) (by omega) fun h297 => ?_
        have h297 : Rg (sc (i + 4).toNat) := h297
        refine r_call (i := 296) (u := 11) (v := 203) (w := 0) (b := 0) (na := 2565) (C2 := xC203) (as := [(2, 43), vi (sc (i + 1).toNat), vi (sc (i + 2).toNat), vi (sc (i + 3).toNat), vi (sc (i + 4).toNat)]) (s := []) rfl rfl rfl rfl rfl rfl rfl (sp203 (c := sc (i + 1).toNat) (a := sc (i + 2).toNat) (b := sc (i + 3).toNat) (e := sc (i + 4).toNat) hI290 ⟨by omega, by omega⟩ ⟨by omega, by omega⟩ ⟨by omega, by omega⟩ ⟨by omega, by omega⟩  e289 (by omega)) (fun r298 S299 hq300 => ?_)
        obtain ⟨z301, rfl, h302, h303, e304, hI305, hF306, hR307⟩ := hq300
        have e308 := RTx.fr e292 hF306 rfl rfl
        have e309 := RSx.fr e293 hF306 rfl rfl
        have e310 := N23x.fr e288 hF306 hR307 rfl rfl rfl
        have e311 := wRM_rm rm287 hR307
        refine Or.inr (Or.inl ⟨rfl, ?_⟩)
        refine r_store (i := 297) (u := 6) (w := 0) (L1 := [some ((6, 0)), some ((2, 0)), some ((2, 43)), some ((2, 81)), some (vi i), some (vi z284), some (vi z301)]) rfl rfl rfl rfl ?_
        refine r_goto (i := 298) (v := 643) rfl ?_
        refine r_iinc (i := 643) (u := 10) (v := 4) (s := 10) (L1 := [some ((6, 0)), some ((2, 0)), some ((2, 43)), some ((2, 81)), some (vi (i + 10)), some (vi z284), some (vi z301)]) rfl rfl rfl rfl rfl ?_
        refine r_goto (i := 644) (v := 13) rfl ?_
        refine yT_drop (L1 := [some ((6, 0)), some ((2, 0)), some ((2, 43)), some ((2, 81)), some (vi (i + 10)), none, none]) rfl ?_
        exact ih S299 hI305 e310 e304 e308 e309 (i + 10) ⟨by omega, by omega⟩ (by exact wRM_le e311 (by omega)) (by omega)
      · refine r_swK (i := 24) (u := 1) (v := 643) (k := 7) (t := 299) rfl rfl h12 (by decide) (by decide) rfl ?_
        refine r_load (i := 299) (u := 1) (w := 2) rfl rfl rfl ?_
        refine r_call (i := 300) (u := 0) (v := 19) (w := 0) (b := 0) (na := 257) (C2 := xC19) (as := [(2, 0)]) (s := []) rfl rfl rfl rfl rfl rfl rfl (sp19  hI    (by omega)) (fun r312 S313 hq314 => ?_)
        obtain ⟨z315, rfl, h316, h317, rfl⟩ := hq314
        refine Or.inr (Or.inl ⟨rfl, ?_⟩)
        refine r_pop (i := 301) rfl rfl ?_
        refine r_load (i := 302) (u := 2) (w := 2) rfl rfl rfl ?_
        refine r_call (i := 303) (u := 11) (v := 244) (w := 0) (b := 0) (na := 257) (C2 := xC244) (as := [(2, 43)]) (s := []) rfl rfl rfl rfl rfl rfl rfl (sp244  hI    (by omega)) (fun r318 S319 hq320 => ?_)
        obtain ⟨z321, rfl, h322, h323, hI324, hF325, hR326⟩ := hq320
        have e327 := N23x.fr e_N23 hF325 hR326 rfl rfl rfl
        have e328 := CRx.fr e_CR hF325 rfl rfl
        have e329 := RTx.fr e_RT hF325 rfl rfl
        have e330 := RSx.fr e_RS hF325 rfl rfl
        have e331 := wRM_rm q_0 hR326
        refine Or.inr (Or.inl ⟨rfl, ?_⟩)
        refine r_pop (i := 304) rfl rfl ?_
        refine r_goto (i := 305) (v := 643) rfl ?_
        refine r_iinc (i := 643) (u := 10) (v := 4) (s := 10) (L1 := [some ((6, 0)), some ((2, 0)), some ((2, 43)), some ((2, 81)), some (vi (i + 10)), none, none]) rfl rfl rfl rfl rfl ?_
        refine r_goto (i := 644) (v := 13) rfl ?_
        exact ih S319 hI324 e327 e328 e329 e330 (i + 10) ⟨by omega, by omega⟩ (by exact wRM_le e331 (by omega)) (by omega)
      · refine r_swK (i := 24) (u := 1) (v := 643) (k := 8) (t := 306) rfl rfl h13 (by decide) (by decide) rfl ?_
        refine r_load (i := 306) (u := 1) (w := 2) rfl rfl rfl ?_
        refine r_load (i := 307) (u := 0) (w := 2) rfl rfl rfl ?_
        refine r_load (i := 308) (u := 4) (w := 0) rfl rfl rfl ?_
        refine r_const (i := 309) (u := 1) (z := 1) rfl rfl ?_
        refine r_iadd (i := 310) rfl ?_
        refine r_scA (i := 311) hG rfl (by omega) (by omega) fun h332 => ?_
        have h332 : Rg (sc (i + 1).toNat) := h332
        refine r_call (i := 312) (u := 0) (v := 18) (w := 0) (b := 0) (na := 514) (C2 := xC18) (as := [(2, 0), vi (sc (i + 1).toNat)]) (s := []) rfl rfl rfl rfl rfl rfl rfl (sp18 (k := sc (i + 1).toNat) hI ⟨by omega, by omega⟩   (by omega)) (fun r333 S334 hq335 => ?_)
        obtain ⟨z336, rfl, h337, h338, rfl⟩ := hq335
        refine Or.inr (Or.inl ⟨rfl, ?_⟩)
        refine r_pop (i := 313) rfl rfl ?_
        refine r_load (i := 314) (u := 2) (w := 2) rfl rfl rfl ?_
        refine r_load (i := 315) (u := 0) (w := 2) rfl rfl rfl ?_
        refine r_load (i := 316) (u := 4) (w := 0) rfl rfl rfl ?_
        refine r_const (i := 317) (u := 1) (z := 1) rfl rfl ?_
        refine r_iadd (i := 318) rfl ?_
        refine r_scA (i := 319) hG rfl (by omega) (by omega) fun h339 => ?_
        have h339 : Rg (sc (i + 1).toNat) := h339
        refine r_call (i := 320) (u := 11) (v := 243) (w := 0) (b := 0) (na := 514) (C2 := xC243) (as := [(2, 43), vi (sc (i + 1).toNat)]) (s := []) rfl rfl rfl rfl rfl rfl rfl (sp243 (k := sc (i + 1).toNat) hI ⟨by omega, by omega⟩   (by omega)) (fun r340 S341 hq342 => ?_)
        obtain ⟨z343, rfl, h344, h345, hI346, hF347, hR348⟩ := hq342
        have e349 := N23x.fr e_N23 hF347 hR348 rfl rfl rfl
        have e350 := CRx.fr e_CR hF347 rfl rfl
        have e351 := RTx.fr e_RT hF347 rfl rfl
        have e352 := RSx.fr e_RS hF347 rfl rfl
        have e353 := wRM_rm q_0 hR348
        refine Or.inr (Or.inl ⟨rfl, ?_⟩)
        refine r_pop (i := 321) rfl rfl ?_
        refine r_goto (i := 322) (v := 643) rfl ?_
        refine r_iinc (i := 643) (u := 10) (v := 4) (s := 10) (L1 := [some ((6, 0)), some ((2, 0)), some ((2, 43)), some ((2, 81)), some (vi (i + 10)), none, none]) rfl rfl rfl rfl rfl ?_
        refine r_goto (i := 644) (v := 13) rfl ?_
        exact ih S341 hI346 e349 e350 e351 e352 (i + 10) ⟨by omega, by omega⟩ (by exact wRM_le e353 (by omega)) (by omega)
      · refine r_swK (i := 24) (u := 1) (v := 643) (k := 9) (t := 323) rfl rfl h14 (by decide) (by decide) rfl ?_
        refine r_load (i := 323) (u := 1) (w := 2) rfl rfl rfl ?_
        refine r_load (i := 324) (u := 0) (w := 2) rfl rfl rfl ?_
        refine r_load (i := 325) (u := 4) (w := 0) rfl rfl rfl ?_
        refine r_const (i := 326) (u := 1) (z := 1) rfl rfl ?_
        refine r_iadd (i := 327) rfl ?_
        refine r_scA (i := 328) hG rfl (by omega) (by omega) fun h354 => ?_
        have h354 : Rg (sc (i + 1).toNat) := h354
        refine r_load (i := 329) (u := 0) (w := 2) rfl rfl rfl ?_
        refine r_load (i := 330) (u := 4) (w := 0) rfl rfl rfl ?_
        refine r_const (i := 331) (u := 2) (z := 2) rfl rfl ?_
        refine r_iadd (i := 332) rfl ?_
        refine r_scA (i := 333) hG rfl (by omega) (by omega) fun h355 => ?_
        have h355 : Rg (sc (i + 2).toNat) := h355
        refine r_i2l (i := 334) rfl ⟨by omega, by omega⟩ ?_
        refine r_const (i := 335) (u := 32) (z := 32) rfl rfl ?_
        refine r_lshl (i := 336) rfl ?_
        refine r_load (i := 337) (u := 0) (w := 2) rfl rfl rfl ?_
        refine r_load (i := 338) (u := 4) (w := 0) rfl rfl rfl ?_
        refine r_const (i := 339) (u := 3) (z := 3) rfl rfl ?_
        refine r_iadd (i := 340) rfl ?_
        refine r_scA (i := 341) hG rfl (by omega) (by omega) fun h356 => ?_
        have h356 : Rg (sc (i + 3).toNat) := h356
        refine r_i2l (i := 342) rfl ⟨by omega, by omega⟩ ?_
        refine r_lconst (i := 343) (u := 4294967295) (z := 4294967295) rfl rfl ?_
        refine r_land (i := 344) rfl ?_
        have h357 := @yland_c (sc (i + 3).toNat) 4294967295 (by decide) (by decide)
        refine r_lor (i := 345) rfl ?_
        have h358 := ylor_rl ((sc (i + 2).toNat) * 4294967296) (yland (sc (i + 3).toNat) 4294967295)
        refine r_call (i := 346) (u := 65535) (v := 173) (w := 0) (b := 2) (na := 1283) (C2 := xC173) (as := [(2, 0), vi (sc (i + 1).toNat), vl (ylor ((sc (i + 2).toNat) * 4294967296) (yland (sc (i + 3).toNat) 4294967295))]) (s := []) rfl rfl rfl rfl rfl rfl rfl (sp173 (p0 := sc (i + 1).toNat) (p1 := ylor ((sc (i + 2).toNat) * 4294967296) (yland (sc (i + 3).toNat) 4294967295)) (kR := 5199 - i) hI ⟨by omega, by omega⟩ ⟨by omega, by omega⟩ (by exact wRM_le q_0 (by omega)) (by omega) e_N23 e_CR (by omega)) (fun r359 S360 hq361 => ?_)
        obtain ⟨z362, rfl, h363, h364, rm365, e366, e367, hI368, hF369⟩ := hq361
        have e370 := RTx.fr e_RT hF369 rfl rfl
        have e371 := RSx.fr e_RS hF369 rfl rfl
        refine Or.inr (Or.inl ⟨rfl, ?_⟩)
        refine r_store (i := 347) (u := 5) (w := 0) (L1 := [some ((6, 0)), some ((2, 0)), some ((2, 43)), some ((2, 81)), some (vi i), some (vi z362), none]) rfl rfl rfl rfl ?_
        refine r_load (i := 348) (u := 2) (w := 2) rfl rfl rfl ?_
        refine r_load (i := 349) (u := 0) (w := 2) rfl rfl rfl ?_
        refine r_load (i := 350) (u := 4) (w := 0) rfl rfl rfl ?_
        refine r_const (i := 351) (u := 1) (z := 1) rfl rfl ?_
        refine r_iadd (i := 352) rfl ?_
        refine r_scA (i := 353) hG rfl (by omega) (by omega) fun h372 => ?_
        have h372 : Rg (sc (i + 1).toNat) := h372
        refine r_load (i := 354) (u := 0) (w := 2) rfl rfl rfl ?_
        refine r_load (i := 355) (u := 4) (w := 0) rfl rfl rfl ?_
        refine r_const (i := 356) (u := 2) (z := 2) rfl rfl ?_
        refine r_iadd (i := 357) rfl ?_
        refine r_scA (i := 358) hG rfl (by omega) (by omega) fun h373 => ?_
        have h373 : Rg (sc (i + 2).toNat) := h373
        refine r_i2l (i := 359) rfl ⟨by omega, by omega⟩ ?_
        refine r_const (i := 360) (u := 32) (z := 32) rfl rfl ?_
        refine r_lshl (i := 361) rfl ?_
        refine r_load (i := 362) (u := 0) (w := 2) rfl rfl rfl ?_
        refine r_load (i := 363) (u := 4) (w := 0) rfl rfl rfl ?_
        refine r_const (i := 364) (u := 3) (z := 3) rfl rfl ?_
        refine r_iadd (i := 365) rfl ?_
        refine r_scA (i := 366) hG rfl (by omega) (by omega) fun h374 => ?_
        have h374 : Rg (sc (i + 3).toNat) := h374
        refine r_i2l (i := 367) rfl ⟨by omega, by omega⟩ ?_
        refine r_lconst (i := 368) (u := 4294967295) (z := 4294967295) rfl rfl ?_
        refine r_land (i := 369) rfl ?_
        have h375 := @yland_c (sc (i + 3).toNat) 4294967295 (by decide) (by decide)
        refine r_lor (i := 370) rfl ?_
        have h376 := ylor_rl ((sc (i + 2).toNat) * 4294967296) (yland (sc (i + 3).toNat) 4294967295)
        refine r_call (i := 371) (u := 11) (v := 181) (w := 0) (b := 0) (na := 1539) (C2 := xC181) (as := [(2, 43), vi (sc (i + 1).toNat), vl (ylor ((sc (i + 2).toNat) * 4294967296) (yland (sc (i + 3).toNat) 4294967295))]) (s := []) rfl rfl rfl rfl rfl rfl rfl (sp181 (w0 := sc (i + 1).toNat) (v := ylor ((sc (i + 2).toNat) * 4294967296) (yland (sc (i + 3).toNat) 4294967295)) hI368 ⟨by omega, by omega⟩ ⟨by omega, by omega⟩   (by omega)) (fun r377 S378 hq379 => ?_)
        obtain ⟨rfl, hI380, hF381, hR382⟩ := hq379
        have e383 := RTx.fr e370 hF381 rfl rfl
        have e384 := RSx.fr e371 hF381 rfl rfl
        have e385 := N23x.fr e366 hF381 hR382 rfl rfl rfl
        have e386 := CRx.fr e367 hF381 rfl rfl
        have e387 := wRM_rm rm365 hR382
        refine Or.inl ⟨rfl, ?_⟩
        refine r_goto (i := 372) (v := 643) rfl ?_
        refine r_iinc (i := 643) (u := 10) (v := 4) (s := 10) (L1 := [some ((6, 0)), some ((2, 0)), some ((2, 43)), some ((2, 81)), some (vi (i + 10)), some (vi z362), none]) rfl rfl rfl rfl rfl ?_
        refine r_goto (i := 644) (v := 13) rfl ?_
        refine yT_drop (L1 := [some ((6, 0)), some ((2, 0)), some ((2, 43)), some ((2, 81)), some (vi (i + 10)), none, none]) rfl ?_
        exact ih S378 hI380 e385 e386 e383 e384 (i + 10) ⟨by omega, by omega⟩ (by exact wRM_le e387 (by omega)) (by omega)
      · refine r_swK (i := 24) (u := 1) (v := 643) (k := 10) (t := 373) rfl rfl h15 (by decide) (by decide) rfl ?_
        refine r_load (i := 373) (u := 1) (w := 2) rfl rfl rfl ?_
        refine r_load (i := 374) (u := 0) (w := 2) rfl rfl rfl ?_
        refine r_load (i := 375) (u := 4) (w := 0) rfl rfl rfl ?_
        refine r_const (i := 376) (u := 1) (z := 1) rfl rfl ?_
        refine r_iadd (i := 377) rfl ?_
        refine r_scA (i := 378) hG rfl (by omega) (by omega) fun h388 => ?_
        have h388 : Rg (sc (i + 1).toNat) := h388
        refine r_load (i := 379) (u := 0) (w := 2) rfl rfl rfl ?_
        refine r_load (i := 380) (u := 4) (w := 0) rfl rfl rfl ?_
        refine r_const (i := 381) (u := 2) (z := 2) rfl rfl ?_
        refine r_iadd (i := 382) rfl ?_
        refine r_scA (i := 383) hG rfl (by omega) (by omega) fun h389 => ?_
        have h389 : Rg (sc (i + 2).toNat) := h389
        refine r_i2l (i := 384) rfl ⟨by omega, by omega⟩ ?_
        refine r_const (i := 385) (u := 32) (z := 32) rfl rfl ?_
        refine r_lshl (i := 386) rfl ?_
        refine r_load (i := 387) (u := 0) (w := 2) rfl rfl rfl ?_
        refine r_load (i := 388) (u := 4) (w := 0) rfl rfl rfl ?_
        refine r_const (i := 389) (u := 3) (z := 3) rfl rfl ?_
        refine r_iadd (i := 390) rfl ?_
        refine r_scA (i := 391) hG rfl (by omega) (by omega) fun h390 => ?_
        have h390 : Rg (sc (i + 3).toNat) := h390
        refine r_i2l (i := 392) rfl ⟨by omega, by omega⟩ ?_
        refine r_lconst (i := 393) (u := 4294967295) (z := 4294967295) rfl rfl ?_
        refine r_land (i := 394) rfl ?_
        have h391 := @yland_c (sc (i + 3).toNat) 4294967295 (by decide) (by decide)
        refine r_lor (i := 395) rfl ?_
        have h392 := ylor_rl ((sc (i + 2).toNat) * 4294967296) (yland (sc (i + 3).toNat) 4294967295)
        refine r_load (i := 396) (u := 0) (w := 2) rfl rfl rfl ?_
        refine r_load (i := 397) (u := 4) (w := 0) rfl rfl rfl ?_
        refine r_const (i := 398) (u := 4) (z := 4) rfl rfl ?_
        refine r_iadd (i := 399) rfl ?_
        refine r_scA (i := 400) hG rfl (by omega) (by omega) fun h393 => ?_
        have h393 : Rg (sc (i + 4).toNat) := h393
        refine r_i2l (i := 401) rfl ⟨by omega, by omega⟩ ?_
        refine r_const (i := 402) (u := 32) (z := 32) rfl rfl ?_
        refine r_lshl (i := 403) rfl ?_
        refine r_load (i := 404) (u := 0) (w := 2) rfl rfl rfl ?_
        refine r_load (i := 405) (u := 4) (w := 0) rfl rfl rfl ?_
        refine r_const (i := 406) (u := 5) (z := 5) rfl rfl ?_
        refine r_iadd (i := 407) rfl ?_
        refine r_scA (i := 408) hG rfl (by omega) (by omega) fun h394 => ?_
        have h394 : Rg (sc (i + 5).toNat) := h394
        refine r_i2l (i := 409) rfl ⟨by omega, by omega⟩ ?_
        refine r_lconst (i := 410) (u := 4294967295) (z := 4294967295) rfl rfl ?_
        refine r_land (i := 411) rfl ?_
        have h395 := @yland_c (sc (i + 5).toNat) 4294967295 (by decide) (by decide)
        refine r_lor (i := 412) rfl ?_
        have h396 := ylor_rl ((sc (i + 4).toNat) * 4294967296) (yland (sc (i + 5).toNat) 4294967295)
        refine r_load (i := 413) (u := 0) (w := 2) rfl rfl rfl ?_
        refine r_load (i := 414) (u := 4) (w := 0) rfl rfl rfl ?_
        refine r_const (i := 415) (u := 6) (z := 6) rfl rfl ?_
        refine r_iadd (i := 416) rfl ?_
        refine r_scA (i := 417) hG rfl (by omega) (by omega) fun h397 => ?_
        have h397 : Rg (sc (i + 6).toNat) := h397
        refine r_i2l (i := 418) rfl ⟨by omega, by omega⟩ ?_
        refine r_const (i := 419) (u := 32) (z := 32) rfl rfl ?_
        refine r_lshl (i := 420) rfl ?_
        refine r_load (i := 421) (u := 0) (w := 2) rfl rfl rfl ?_
        refine r_load (i := 422) (u := 4) (w := 0) rfl rfl rfl ?_
        refine r_const (i := 423) (u := 7) (z := 7) rfl rfl ?_
        refine r_iadd (i := 424) rfl ?_
        refine r_scA (i := 425) hG rfl (by omega) (by omega) fun h398 => ?_
        have h398 : Rg (sc (i + 7).toNat) := h398
        refine r_i2l (i := 426) rfl ⟨by omega, by omega⟩ ?_
        refine r_lconst (i := 427) (u := 4294967295) (z := 4294967295) rfl rfl ?_
        refine r_land (i := 428) rfl ?_
        have h399 := @yland_c (sc (i + 7).toNat) 4294967295 (by decide) (by decide)
        refine r_lor (i := 429) rfl ?_
        have h400 := ylor_rl ((sc (i + 6).toNat) * 4294967296) (yland (sc (i + 7).toNat) 4294967295)
        refine r_load (i := 430) (u := 0) (w := 2) rfl rfl rfl ?_
        refine r_load (i := 431) (u := 4) (w := 0) rfl rfl rfl ?_
        refine r_const (i := 432) (u := 8) (z := 8) rfl rfl ?_
        refine r_iadd (i := 433) rfl ?_
        refine r_scA (i := 434) hG rfl (by omega) (by omega) fun h401 => ?_
        have h401 : Rg (sc (i + 8).toNat) := h401
        refine r_i2l (i := 435) rfl ⟨by omega, by omega⟩ ?_
        refine r_const (i := 436) (u := 32) (z := 32) rfl rfl ?_
        refine r_lshl (i := 437) rfl ?_
        refine r_load (i := 438) (u := 0) (w := 2) rfl rfl rfl ?_
        refine r_load (i := 439) (u := 4) (w := 0) rfl rfl rfl ?_
        refine r_const (i := 440) (u := 9) (z := 9) rfl rfl ?_
        refine r_iadd (i := 441) rfl ?_
        refine r_scA (i := 442) hG rfl (by omega) (by omega) fun h402 => ?_
        have h402 : Rg (sc (i + 9).toNat) := h402
        refine r_i2l (i := 443) rfl ⟨by omega, by omega⟩ ?_
        refine r_lconst (i := 444) (u := 4294967295) (z := 4294967295) rfl rfl ?_
        refine r_land (i := 445) rfl ?_
        have h403 := @yland_c (sc (i + 9).toNat) 4294967295 (by decide) (by decide)
        refine r_lor (i := 446) rfl ?_
        have h404 := ylor_rl ((sc (i + 8).toNat) * 4294967296) (yland (sc (i + 9).toNat) 4294967295)
        refine r_load (i := 447) (u := 3) (w := 2) rfl rfl rfl ?_
        refine r_call (i := 448) (u := 65535) (v := 174) (w := 0) (b := 2) (na := 3079) (C2 := xC174) (as := [(2, 0), vi (sc (i + 1).toNat), vl (ylor ((sc (i + 2).toNat) * 4294967296) (yland (sc (i + 3).toNat) 4294967295)), vl (ylor ((sc (i + 4).toNat) * 4294967296) (yland (sc (i + 5).toNat) 4294967295)), vl (ylor ((sc (i + 6).toNat) * 4294967296) (yland (sc (i + 7).toNat) 4294967295)), vl (ylor ((sc (i + 8).toNat) * 4294967296) (yland (sc (i + 9).toNat) 4294967295)), (2, 81)]) (s := []) rfl rfl rfl rfl rfl rfl rfl (sp174 (p0 := sc (i + 1).toNat) (p1 := ylor ((sc (i + 2).toNat) * 4294967296) (yland (sc (i + 3).toNat) 4294967295)) (p2 := ylor ((sc (i + 4).toNat) * 4294967296) (yland (sc (i + 5).toNat) 4294967295)) (p3 := ylor ((sc (i + 6).toNat) * 4294967296) (yland (sc (i + 7).toNat) 4294967295)) (p4 := ylor ((sc (i + 8).toNat) * 4294967296) (yland (sc (i + 9).toNat) 4294967295)) (kR := 5199 - i) hI ⟨by omega, by omega⟩ ⟨by omega, by omega⟩ ⟨by omega, by omega⟩ ⟨by omega, by omega⟩ ⟨by omega, by omega⟩ (by exact wRM_le q_0 (by omega)) (by omega) e_N23 e_CR (by omega)) (fun r405 S406 hq407 => ?_)
        obtain ⟨z408, rfl, h409, h410, rm411, e412, e413, hI414, hF415⟩ := hq407
        have e416 := RTx.fr e_RT hF415 rfl rfl
        have e417 := RSx.fr e_RS hF415 rfl rfl
        refine Or.inr (Or.inl ⟨rfl, ?_⟩)
        refine r_store (i := 449) (u := 5) (w := 0) (L1 := [some ((6, 0)), some ((2, 0)), some ((2, 43)), some ((2, 81)), some (vi i), some (vi z408), none]) rfl rfl rfl rfl ?_
        refine r_load (i := 450) (u := 2) (w := 2) rfl rfl rfl ?_
        refine r_load (i := 451) (u := 0) (w := 2) rfl rfl rfl ?_
        refine r_load (i := 452) (u := 4) (w := 0) rfl rfl rfl ?_
        refine r_const (i := 453) (u := 1) (z := 1) rfl rfl ?_
        refine r_iadd (i := 454) rfl ?_
        refine r_scA (i := 455) hG rfl (by omega) (by omega) fun h418 => ?_
        have h418 : Rg (sc (i + 1).toNat) := h418
        refine r_load (i := 456) (u := 0) (w := 2) rfl rfl rfl ?_
        refine r_load (i := 457) (u := 4) (w := 0) rfl rfl rfl ?_
        refine r_const (i := 458) (u := 2) (z := 2) rfl rfl ?_
        refine r_iadd (i := 459) rfl ?_
        refine r_scA (i := 460) hG rfl (by omega) (by omega) fun h419 => ?_
        have h419 : Rg (sc (i + 2).toNat) := h419
        refine r_i2l (i := 461) rfl ⟨by omega, by omega⟩ ?_
        refine r_const (i := 462) (u := 32) (z := 32) rfl rfl ?_
        refine r_lshl (i := 463) rfl ?_
        refine r_load (i := 464) (u := 0) (w := 2) rfl rfl rfl ?_
        refine r_load (i := 465) (u := 4) (w := 0) rfl rfl rfl ?_
        refine r_const (i := 466) (u := 3) (z := 3) rfl rfl ?_
        refine r_iadd (i := 467) rfl ?_
        refine r_scA (i := 468) hG rfl (by omega) (by omega) fun h420 => ?_
        have h420 : Rg (sc (i + 3).toNat) := h420
        refine r_i2l (i := 469) rfl ⟨by omega, by omega⟩ ?_
        refine r_lconst (i := 470) (u := 4294967295) (z := 4294967295) rfl rfl ?_
        refine r_land (i := 471) rfl ?_
        have h421 := @yland_c (sc (i + 3).toNat) 4294967295 (by decide) (by decide)
        refine r_lor (i := 472) rfl ?_
        have h422 := ylor_rl ((sc (i + 2).toNat) * 4294967296) (yland (sc (i + 3).toNat) 4294967295)
        refine r_load (i := 473) (u := 0) (w := 2) rfl rfl rfl ?_
        refine r_load (i := 474) (u := 4) (w := 0) rfl rfl rfl ?_
        refine r_const (i := 475) (u := 4) (z := 4) rfl rfl ?_
        refine r_iadd (i := 476) rfl ?_
        refine r_scA (i := 477) hG rfl (by omega) (by omega) fun h423 => ?_
        have h423 : Rg (sc (i + 4).toNat) := h423
        refine r_i2l (i := 478) rfl ⟨by omega, by omega⟩ ?_
        refine r_const (i := 479) (u := 32) (z := 32) rfl rfl ?_
        refine r_lshl (i := 480) rfl ?_
        refine r_load (i := 481) (u := 0) (w := 2) rfl rfl rfl ?_
        refine r_load (i := 482) (u := 4) (w := 0) rfl rfl rfl ?_
        refine r_const (i := 483) (u := 5) (z := 5) rfl rfl ?_
        refine r_iadd (i := 484) rfl ?_
        refine r_scA (i := 485) hG rfl (by omega) (by omega) fun h424 => ?_
        have h424 : Rg (sc (i + 5).toNat) := h424
        refine r_i2l (i := 486) rfl ⟨by omega, by omega⟩ ?_
        refine r_lconst (i := 487) (u := 4294967295) (z := 4294967295) rfl rfl ?_
        refine r_land (i := 488) rfl ?_
        have h425 := @yland_c (sc (i + 5).toNat) 4294967295 (by decide) (by decide)
        refine r_lor (i := 489) rfl ?_
        have h426 := ylor_rl ((sc (i + 4).toNat) * 4294967296) (yland (sc (i + 5).toNat) 4294967295)
        refine r_load (i := 490) (u := 0) (w := 2) rfl rfl rfl ?_
        refine r_load (i := 491) (u := 4) (w := 0) rfl rfl rfl ?_
        refine r_const (i := 492) (u := 6) (z := 6) rfl rfl ?_
        refine r_iadd (i := 493) rfl ?_
        refine r_scA (i := 494) hG rfl (by omega) (by omega) fun h427 => ?_
        have h427 : Rg (sc (i + 6).toNat) := h427
        refine r_i2l (i := 495) rfl ⟨by omega, by omega⟩ ?_
        refine r_const (i := 496) (u := 32) (z := 32) rfl rfl ?_
        refine r_lshl (i := 497) rfl ?_
        refine r_load (i := 498) (u := 0) (w := 2) rfl rfl rfl ?_
        refine r_load (i := 499) (u := 4) (w := 0) rfl rfl rfl ?_
        refine r_const (i := 500) (u := 7) (z := 7) rfl rfl ?_
        refine r_iadd (i := 501) rfl ?_
        refine r_scA (i := 502) hG rfl (by omega) (by omega) fun h428 => ?_
        have h428 : Rg (sc (i + 7).toNat) := h428
        refine r_i2l (i := 503) rfl ⟨by omega, by omega⟩ ?_
        refine r_lconst (i := 504) (u := 4294967295) (z := 4294967295) rfl rfl ?_
        refine r_land (i := 505) rfl ?_
        have h429 := @yland_c (sc (i + 7).toNat) 4294967295 (by decide) (by decide)
        refine r_lor (i := 506) rfl ?_
        have h430 := ylor_rl ((sc (i + 6).toNat) * 4294967296) (yland (sc (i + 7).toNat) 4294967295)
        refine r_load (i := 507) (u := 0) (w := 2) rfl rfl rfl ?_
        refine r_load (i := 508) (u := 4) (w := 0) rfl rfl rfl ?_
        refine r_const (i := 509) (u := 8) (z := 8) rfl rfl ?_
        refine r_iadd (i := 510) rfl ?_
        refine r_scA (i := 511) hG rfl (by omega) (by omega) fun h431 => ?_
        have h431 : Rg (sc (i + 8).toNat) := h431
        refine r_i2l (i := 512) rfl ⟨by omega, by omega⟩ ?_
        refine r_const (i := 513) (u := 32) (z := 32) rfl rfl ?_
        refine r_lshl (i := 514) rfl ?_
        refine r_load (i := 515) (u := 0) (w := 2) rfl rfl rfl ?_
        refine r_load (i := 516) (u := 4) (w := 0) rfl rfl rfl ?_
        refine r_const (i := 517) (u := 9) (z := 9) rfl rfl ?_
        refine r_iadd (i := 518) rfl ?_
        refine r_scA (i := 519) hG rfl (by omega) (by omega) fun h432 => ?_
        have h432 : Rg (sc (i + 9).toNat) := h432
        refine r_i2l (i := 520) rfl ⟨by omega, by omega⟩ ?_
        refine r_lconst (i := 521) (u := 4294967295) (z := 4294967295) rfl rfl ?_
        refine r_land (i := 522) rfl ?_
        have h433 := @yland_c (sc (i + 9).toNat) 4294967295 (by decide) (by decide)
        refine r_lor (i := 523) rfl ?_
        have h434 := ylor_rl ((sc (i + 8).toNat) * 4294967296) (yland (sc (i + 9).toNat) 4294967295)
        refine r_call (i := 524) (u := 11) (v := 188) (w := 0) (b := 0) (na := 4102) (C2 := xC188) (as := [(2, 43), vi (sc (i + 1).toNat), vl (ylor ((sc (i + 2).toNat) * 4294967296) (yland (sc (i + 3).toNat) 4294967295)), vl (ylor ((sc (i + 4).toNat) * 4294967296) (yland (sc (i + 5).toNat) 4294967295)), vl (ylor ((sc (i + 6).toNat) * 4294967296) (yland (sc (i + 7).toNat) 4294967295)), vl (ylor ((sc (i + 8).toNat) * 4294967296) (yland (sc (i + 9).toNat) 4294967295))]) (s := []) rfl rfl rfl rfl rfl rfl rfl (sp188 (k := sc (i + 1).toNat) (a := ylor ((sc (i + 2).toNat) * 4294967296) (yland (sc (i + 3).toNat) 4294967295)) (b := ylor ((sc (i + 4).toNat) * 4294967296) (yland (sc (i + 5).toNat) 4294967295)) (c := ylor ((sc (i + 6).toNat) * 4294967296) (yland (sc (i + 7).toNat) 4294967295)) (e := ylor ((sc (i + 8).toNat) * 4294967296) (yland (sc (i + 9).toNat) 4294967295)) hI414 ⟨by omega, by omega⟩ ⟨by omega, by omega⟩ ⟨by omega, by omega⟩ ⟨by omega, by omega⟩ ⟨by omega, by omega⟩   (by omega)) (fun r435 S436 hq437 => ?_)
        obtain ⟨z438, rfl, h439, h440, hI441, hF442, hR443⟩ := hq437
        have e444 := RTx.fr e416 hF442 rfl rfl
        have e445 := RSx.fr e417 hF442 rfl rfl
        have e446 := N23x.fr e412 hF442 hR443 rfl rfl rfl
        have e447 := CRx.fr e413 hF442 rfl rfl
        have e448 := wRM_rm rm411 hR443
        refine Or.inr (Or.inl ⟨rfl, ?_⟩)
        refine r_store (i := 525) (u := 6) (w := 0) (L1 := [some ((6, 0)), some ((2, 0)), some ((2, 43)), some ((2, 81)), some (vi i), some (vi z408), some (vi z438)]) rfl rfl rfl rfl ?_
        refine r_goto (i := 526) (v := 643) rfl ?_
        refine r_iinc (i := 643) (u := 10) (v := 4) (s := 10) (L1 := [some ((6, 0)), some ((2, 0)), some ((2, 43)), some ((2, 81)), some (vi (i + 10)), some (vi z408), some (vi z438)]) rfl rfl rfl rfl rfl ?_
        refine r_goto (i := 644) (v := 13) rfl ?_
        refine yT_drop (L1 := [some ((6, 0)), some ((2, 0)), some ((2, 43)), some ((2, 81)), some (vi (i + 10)), none, none]) rfl ?_
        exact ih S436 hI441 e446 e447 e444 e445 (i + 10) ⟨by omega, by omega⟩ (by exact wRM_le e448 (by omega)) (by omega)
      · refine r_swK (i := 24) (u := 1) (v := 643) (k := 11) (t := 527) rfl rfl h16 (by decide) (by decide) rfl ?_
        refine r_load (i := 527) (u := 1) (w := 2) rfl rfl rfl ?_
        refine r_call (i := 528) (u := 0) (v := 16) (w := 0) (b := 0) (na := 257) (C2 := xC16) (as := [(2, 0)]) (s := []) rfl rfl rfl rfl rfl rfl rfl (sp16  hI    (by omega)) (fun r449 S450 hq451 => ?_)
        obtain ⟨z452, rfl, h453, rfl⟩ := hq451
        refine Or.inr (Or.inl ⟨rfl, ?_⟩)
        refine r_pop2 (i := 529) rfl rfl ?_
        refine r_load (i := 530) (u := 2) (w := 2) rfl rfl rfl ?_
        refine r_call (i := 531) (u := 11) (v := 239) (w := 0) (b := 0) (na := 257) (C2 := xC239) (as := [(2, 43)]) (s := []) rfl rfl rfl rfl rfl rfl rfl (sp239  hI    (by omega)) (fun r454 S455 hq456 => ?_)
        obtain ⟨z457, rfl, h458, hI459, hF460, hR461⟩ := hq456
        have e462 := N23x.fr e_N23 hF460 hR461 rfl rfl rfl
        have e463 := CRx.fr e_CR hF460 rfl rfl
        have e464 := RTx.fr e_RT hF460 rfl rfl
        have e465 := RSx.fr e_RS hF460 rfl rfl
        have e466 := wRM_rm q_0 hR461
        refine Or.inr (Or.inl ⟨rfl, ?_⟩)
        refine r_pop2 (i := 532) rfl rfl ?_
        refine r_goto (i := 533) (v := 643) rfl ?_
        refine r_iinc (i := 643) (u := 10) (v := 4) (s := 10) (L1 := [some ((6, 0)), some ((2, 0)), some ((2, 43)), some ((2, 81)), some (vi (i + 10)), none, none]) rfl rfl rfl rfl rfl ?_
        refine r_goto (i := 644) (v := 13) rfl ?_
        exact ih S455 hI459 e462 e463 e464 e465 (i + 10) ⟨by omega, by omega⟩ (by exact wRM_le e466 (by omega)) (by omega)
      · refine r_swK (i := 24) (u := 1) (v := 643) (k := 12) (t := 534) rfl rfl h17 (by decide) (by decide) rfl ?_
        refine r_load (i := 534) (u := 1) (w := 2) rfl rfl rfl ?_
        refine r_call (i := 535) (u := 0) (v := 3) (w := 0) (b := 0) (na := 257) (C2 := xC3) (as := [(2, 0)]) (s := []) rfl rfl rfl rfl rfl rfl rfl (sp3  hI    (by omega)) (fun r467 S468 hq469 => ?_)
        obtain ⟨z470, rfl, h471, h472, rfl⟩ := hq469
        refine Or.inr (Or.inl ⟨rfl, ?_⟩)
        refine r_pop (i := 536) rfl rfl ?_
        refine r_load (i := 537) (u := 2) (w := 2) rfl rfl rfl ?_
        refine r_call (i := 538) (u := 11) (v := 184) (w := 0) (b := 0) (na := 257) (C2 := xC184) (as := [(2, 43)]) (s := []) rfl rfl rfl rfl rfl rfl rfl (sp184  hI    (by omega)) (fun r473 S474 hq475 => ?_)
        obtain ⟨z476, rfl, h477, h478, hI479, hF480, hR481⟩ := hq475
        have e482 := N23x.fr e_N23 hF480 hR481 rfl rfl rfl
        have e483 := CRx.fr e_CR hF480 rfl rfl
        have e484 := RTx.fr e_RT hF480 rfl rfl
        have e485 := RSx.fr e_RS hF480 rfl rfl
        have e486 := wRM_rm q_0 hR481
        refine Or.inr (Or.inl ⟨rfl, ?_⟩)
        refine r_pop (i := 539) rfl rfl ?_
        refine r_goto (i := 540) (v := 643) rfl ?_
        refine r_iinc (i := 643) (u := 10) (v := 4) (s := 10) (L1 := [some ((6, 0)), some ((2, 0)), some ((2, 43)), some ((2, 81)), some (vi (i + 10)), none, none]) rfl rfl rfl rfl rfl ?_
        refine r_goto (i := 644) (v := 13) rfl ?_
        exact ih S474 hI479 e482 e483 e484 e485 (i + 10) ⟨by omega, by omega⟩ (by exact wRM_le e486 (by omega)) (by omega)
      · refine r_swK (i := 24) (u := 1) (v := 643) (k := 13) (t := 541) rfl rfl h18 (by decide) (by decide) rfl ?_
        refine r_load (i := 541) (u := 1) (w := 2) rfl rfl rfl ?_
        refine r_load (i := 542) (u := 0) (w := 2) rfl rfl rfl ?_
        refine r_load (i := 543) (u := 4) (w := 0) rfl rfl rfl ?_
        refine r_const (i := 544) (u := 1) (z := 1) rfl rfl ?_
        refine r_iadd (i := 545) rfl ?_
        refine r_scA (i := 546) hG rfl (by omega) (by omega) fun h487 => ?_
        have h487 : Rg (sc (i + 1).toNat) := h487
        refine r_load (i := 547) (u := 0) (w := 2) rfl rfl rfl ?_
        refine r_load (i := 548) (u := 4) (w := 0) rfl rfl rfl ?_
        refine r_const (i := 549) (u := 2) (z := 2) rfl rfl ?_
        refine r_iadd (i := 550) rfl ?_
        refine r_scA (i := 551) hG rfl (by omega) (by omega) fun h488 => ?_
        have h488 : Rg (sc (i + 2).toNat) := h488
        refine r_call (i := 552) (u := 0) (v := 9) (w := 0) (b := 0) (na := 771) (C2 := xC9) (as := [(2, 0), vi (sc (i + 1).toNat), vi (sc (i + 2).toNat)]) (s := []) rfl rfl rfl rfl rfl rfl rfl (sp9 (i0 := sc (i + 1).toNat) (w0 := sc (i + 2).toNat) hI ⟨by omega, by omega⟩ ⟨by omega, by omega⟩   (by omega)) (fun r489 S490 hq491 => ?_)
        obtain ⟨z492, rfl, h493, rfl⟩ := hq491
        refine Or.inr (Or.inl ⟨rfl, ?_⟩)
        refine r_pop2 (i := 553) rfl rfl ?_
        refine r_load (i := 554) (u := 2) (w := 2) rfl rfl rfl ?_
        refine r_load (i := 555) (u := 0) (w := 2) rfl rfl rfl ?_
        refine r_load (i := 556) (u := 4) (w := 0) rfl rfl rfl ?_
        refine r_const (i := 557) (u := 1) (z := 1) rfl rfl ?_
        refine r_iadd (i := 558) rfl ?_
        refine r_scA (i := 559) hG rfl (by omega) (by omega) fun h494 => ?_
        have h494 : Rg (sc (i + 1).toNat) := h494
        refine r_load (i := 560) (u := 0) (w := 2) rfl rfl rfl ?_
        refine r_load (i := 561) (u := 4) (w := 0) rfl rfl rfl ?_
        refine r_const (i := 562) (u := 2) (z := 2) rfl rfl ?_
        refine r_iadd (i := 563) rfl ?_
        refine r_scA (i := 564) hG rfl (by omega) (by omega) fun h495 => ?_
        have h495 : Rg (sc (i + 2).toNat) := h495
        refine r_call (i := 565) (u := 11) (v := 205) (w := 0) (b := 0) (na := 771) (C2 := xC205) (as := [(2, 43), vi (sc (i + 1).toNat), vi (sc (i + 2).toNat)]) (s := []) rfl rfl rfl rfl rfl rfl rfl (sp205 (i0 := sc (i + 1).toNat) (w0 := sc (i + 2).toNat) hI ⟨by omega, by omega⟩ ⟨by omega, by omega⟩   (by omega)) (fun r496 S497 hq498 => ?_)
        obtain ⟨z499, rfl, h500, hI501, hF502, hR503⟩ := hq498
        have e504 := N23x.fr e_N23 hF502 hR503 rfl rfl rfl
        have e505 := CRx.fr e_CR hF502 rfl rfl
        have e506 := RTx.fr e_RT hF502 rfl rfl
        have e507 := RSx.fr e_RS hF502 rfl rfl
        have e508 := wRM_rm q_0 hR503
        refine Or.inr (Or.inl ⟨rfl, ?_⟩)
        refine r_pop2 (i := 566) rfl rfl ?_
        refine r_goto (i := 567) (v := 643) rfl ?_
        refine r_iinc (i := 643) (u := 10) (v := 4) (s := 10) (L1 := [some ((6, 0)), some ((2, 0)), some ((2, 43)), some ((2, 81)), some (vi (i + 10)), none, none]) rfl rfl rfl rfl rfl ?_
        refine r_goto (i := 644) (v := 13) rfl ?_
        exact ih S497 hI501 e504 e505 e506 e507 (i + 10) ⟨by omega, by omega⟩ (by exact wRM_le e508 (by omega)) (by omega)
      · refine r_swK (i := 24) (u := 1) (v := 643) (k := 14) (t := 568) rfl rfl h19 (by decide) (by decide) rfl ?_
        refine r_load (i := 568) (u := 1) (w := 2) rfl rfl rfl ?_
        refine r_call (i := 569) (u := 0) (v := 17) (w := 0) (b := 0) (na := 257) (C2 := xC17) (as := [(2, 0)]) (s := []) rfl rfl rfl rfl rfl rfl rfl (sp17  hI    (by omega)) (fun r509 S510 hq511 => ?_)
        obtain ⟨z512, rfl, h513, h514, rfl⟩ := hq511
        refine Or.inr (Or.inl ⟨rfl, ?_⟩)
        refine r_pop (i := 570) rfl rfl ?_
        refine r_load (i := 571) (u := 2) (w := 2) rfl rfl rfl ?_
        refine r_call (i := 572) (u := 11) (v := 242) (w := 0) (b := 0) (na := 257) (C2 := xC242) (as := [(2, 43)]) (s := []) rfl rfl rfl rfl rfl rfl rfl (sp242  hI    (by omega)) (fun r515 S516 hq517 => ?_)
        obtain ⟨z518, rfl, h519, h520, hI521, hF522, hR523⟩ := hq517
        have e524 := N23x.fr e_N23 hF522 hR523 rfl rfl rfl
        have e525 := CRx.fr e_CR hF522 rfl rfl
        have e526 := RTx.fr e_RT hF522 rfl rfl
        have e527 := RSx.fr e_RS hF522 rfl rfl
        have e528 := wRM_rm q_0 hR523
        refine Or.inr (Or.inl ⟨rfl, ?_⟩)
        refine r_pop (i := 573) rfl rfl ?_
        refine r_goto (i := 574) (v := 643) rfl ?_
        refine r_iinc (i := 643) (u := 10) (v := 4) (s := 10) (L1 := [some ((6, 0)), some ((2, 0)), some ((2, 43)), some ((2, 81)), some (vi (i + 10)), none, none]) rfl rfl rfl rfl rfl ?_
        refine r_goto (i := 644) (v := 13) rfl ?_
        exact ih S516 hI521 e524 e525 e526 e527 (i + 10) ⟨by omega, by omega⟩ (by exact wRM_le e528 (by omega)) (by omega)
      · refine r_swK (i := 24) (u := 1) (v := 643) (k := 15) (t := 575) rfl rfl h20 (by decide) (by decide) rfl ?_
        refine r_load (i := 575) (u := 1) (w := 2) rfl rfl rfl ?_
        refine r_load (i := 576) (u := 0) (w := 2) rfl rfl rfl ?_
        refine r_load (i := 577) (u := 4) (w := 0) rfl rfl rfl ?_
        refine r_const (i := 578) (u := 1) (z := 1) rfl rfl ?_
        refine r_iadd (i := 579) rfl ?_
        refine r_scA (i := 580) hG rfl (by omega) (by omega) fun h529 => ?_
        have h529 : Rg (sc (i + 1).toNat) := h529
        refine r_call (i := 581) (u := 0) (v := 4) (w := 0) (b := 0) (na := 514) (C2 := xC4) (as := [(2, 0), vi (sc (i + 1).toNat)]) (s := []) rfl rfl rfl rfl rfl rfl rfl (sp4 (k := sc (i + 1).toNat) hI ⟨by omega, by omega⟩   (by omega)) (fun r530 S531 hq532 => ?_)
        obtain ⟨z533, rfl, h534, h535, rfl⟩ := hq532
        refine Or.inr (Or.inl ⟨rfl, ?_⟩)
        refine r_pop (i := 582) rfl rfl ?_
        refine r_load (i := 583) (u := 2) (w := 2) rfl rfl rfl ?_
        refine r_load (i := 584) (u := 0) (w := 2) rfl rfl rfl ?_
        refine r_load (i := 585) (u := 4) (w := 0) rfl rfl rfl ?_
        refine r_const (i := 586) (u := 1) (z := 1) rfl rfl ?_
        refine r_iadd (i := 587) rfl ?_
        refine r_scA (i := 588) hG rfl (by omega) (by omega) fun h536 => ?_
        have h536 : Rg (sc (i + 1).toNat) := h536
        refine r_call (i := 589) (u := 11) (v := 187) (w := 0) (b := 0) (na := 514) (C2 := xC187) (as := [(2, 43), vi (sc (i + 1).toNat)]) (s := []) rfl rfl rfl rfl rfl rfl rfl (sp187 (k := sc (i + 1).toNat) hI ⟨by omega, by omega⟩   (by omega)) (fun r537 S538 hq539 => ?_)
        obtain ⟨z540, rfl, h541, h542, hI543, hF544, hR545⟩ := hq539
        have e546 := N23x.fr e_N23 hF544 hR545 rfl rfl rfl
        have e547 := CRx.fr e_CR hF544 rfl rfl
        have e548 := RTx.fr e_RT hF544 rfl rfl
        have e549 := RSx.fr e_RS hF544 rfl rfl
        have e550 := wRM_rm q_0 hR545
        refine Or.inr (Or.inl ⟨rfl, ?_⟩)
        refine r_pop (i := 590) rfl rfl ?_
        refine r_goto (i := 591) (v := 643) rfl ?_
        refine r_iinc (i := 643) (u := 10) (v := 4) (s := 10) (L1 := [some ((6, 0)), some ((2, 0)), some ((2, 43)), some ((2, 81)), some (vi (i + 10)), none, none]) rfl rfl rfl rfl rfl ?_
        refine r_goto (i := 644) (v := 13) rfl ?_
        exact ih S538 hI543 e546 e547 e548 e549 (i + 10) ⟨by omega, by omega⟩ (by exact wRM_le e550 (by omega)) (by omega)
      · refine r_swK (i := 24) (u := 1) (v := 643) (k := 16) (t := 592) rfl rfl h21 (by decide) (by decide) rfl ?_
        refine r_load (i := 592) (u := 1) (w := 2) rfl rfl rfl ?_
        refine r_load (i := 593) (u := 0) (w := 2) rfl rfl rfl ?_
        refine r_load (i := 594) (u := 4) (w := 0) rfl rfl rfl ?_
        refine r_const (i := 595) (u := 1) (z := 1) rfl rfl ?_
        refine r_iadd (i := 596) rfl ?_
        refine r_scA (i := 597) hG rfl (by omega) (by omega) fun h551 => ?_
        have h551 : Rg (sc (i + 1).toNat) := h551
        refine r_load (i := 598) (u := 0) (w := 2) rfl rfl rfl ?_
        refine r_load (i := 599) (u := 4) (w := 0) rfl rfl rfl ?_
        refine r_const (i := 600) (u := 2) (z := 2) rfl rfl ?_
        refine r_iadd (i := 601) rfl ?_
        refine r_scA (i := 602) hG rfl (by omega) (by omega) fun h552 => ?_
        have h552 : Rg (sc (i + 2).toNat) := h552
        refine r_call (i := 603) (u := 0) (v := 6) (w := 0) (b := 0) (na := 771) (C2 := xC6) (as := [(2, 0), vi (sc (i + 1).toNat), vi (sc (i + 2).toNat)]) (s := []) rfl rfl rfl rfl rfl rfl rfl (sp6 (k := sc (i + 1).toNat) (b := sc (i + 2).toNat) hI ⟨by omega, by omega⟩ ⟨by omega, by omega⟩   (by omega)) (fun r553 S554 hq555 => ?_)
        obtain ⟨z556, rfl, h557, h558, hI559, hF560, hR561⟩ := hq555
        have e562 := N23x.fr e_N23 hF560 hR561 rfl rfl rfl
        have e563 := CRx.fr e_CR hF560 rfl rfl
        have e564 := RTx.fr e_RT hF560 rfl rfl
        have e565 := RSx.fr e_RS hF560 rfl rfl
        have e566 := wRM_rm q_0 hR561
        refine Or.inr (Or.inl ⟨rfl, ?_⟩)
        refine r_pop (i := 604) rfl rfl ?_
        refine r_load (i := 605) (u := 2) (w := 2) rfl rfl rfl ?_
        refine r_load (i := 606) (u := 0) (w := 2) rfl rfl rfl ?_
        refine r_load (i := 607) (u := 4) (w := 0) rfl rfl rfl ?_
        refine r_const (i := 608) (u := 1) (z := 1) rfl rfl ?_
        refine r_iadd (i := 609) rfl ?_
        refine r_scA (i := 610) hG rfl (by omega) (by omega) fun h567 => ?_
        have h567 : Rg (sc (i + 1).toNat) := h567
        refine r_load (i := 611) (u := 0) (w := 2) rfl rfl rfl ?_
        refine r_load (i := 612) (u := 4) (w := 0) rfl rfl rfl ?_
        refine r_const (i := 613) (u := 2) (z := 2) rfl rfl ?_
        refine r_iadd (i := 614) rfl ?_
        refine r_scA (i := 615) hG rfl (by omega) (by omega) fun h568 => ?_
        have h568 : Rg (sc (i + 2).toNat) := h568
        refine r_call (i := 616) (u := 11) (v := 191) (w := 0) (b := 0) (na := 771) (C2 := xC191) (as := [(2, 43), vi (sc (i + 1).toNat), vi (sc (i + 2).toNat)]) (s := []) rfl rfl rfl rfl rfl rfl rfl (sp191 (k := sc (i + 1).toNat) (b := sc (i + 2).toNat) hI559 ⟨by omega, by omega⟩ ⟨by omega, by omega⟩   (by omega)) (fun r569 S570 hq571 => ?_)
        obtain ⟨z572, rfl, h573, h574, hI575, hF576, hR577⟩ := hq571
        have e578 := N23x.fr e562 hF576 hR577 rfl rfl rfl
        have e579 := CRx.fr e563 hF576 rfl rfl
        have e580 := RTx.fr e564 hF576 rfl rfl
        have e581 := RSx.fr e565 hF576 rfl rfl
        have e582 := wRM_rm e566 hR577
        refine Or.inr (Or.inl ⟨rfl, ?_⟩)
        refine r_pop (i := 617) rfl rfl ?_
        refine r_goto (i := 618) (v := 643) rfl ?_
        refine r_iinc (i := 643) (u := 10) (v := 4) (s := 10) (L1 := [some ((6, 0)), some ((2, 0)), some ((2, 43)), some ((2, 81)), some (vi (i + 10)), none, none]) rfl rfl rfl rfl rfl ?_
        refine r_goto (i := 644) (v := 13) rfl ?_
        exact ih S570 hI575 e578 e579 e580 e581 (i + 10) ⟨by omega, by omega⟩ (by exact wRM_le e582 (by omega)) (by omega)
      · refine r_swK (i := 24) (u := 1) (v := 643) (k := 17) (t := 619) rfl rfl h22 (by decide) (by decide) rfl ?_
        refine r_load (i := 619) (u := 1) (w := 2) rfl rfl rfl ?_
        refine r_load (i := 620) (u := 0) (w := 2) rfl rfl rfl ?_
        refine r_load (i := 621) (u := 4) (w := 0) rfl rfl rfl ?_
        refine r_const (i := 622) (u := 1) (z := 1) rfl rfl ?_
        refine r_iadd (i := 623) rfl ?_
        refine r_scA (i := 624) hG rfl (by omega) (by omega) fun h583 => ?_
        have h583 : Rg (sc (i + 1).toNat) := h583
        refine r_call (i := 625) (u := 0) (v := 7) (w := 0) (b := 0) (na := 514) (C2 := xC7) (as := [(2, 0), vi (sc (i + 1).toNat)]) (s := []) rfl rfl rfl rfl rfl rfl rfl (sp7 (k := sc (i + 1).toNat) hI ⟨by omega, by omega⟩   (by omega)) (fun r584 S585 hq586 => ?_)
        obtain ⟨z587, rfl, h588, h589, hI590, hF591, hR592⟩ := hq586
        have e593 := N23x.fr e_N23 hF591 hR592 rfl rfl rfl
        have e594 := CRx.fr e_CR hF591 rfl rfl
        have e595 := RTx.fr e_RT hF591 rfl rfl
        have e596 := RSx.fr e_RS hF591 rfl rfl
        have e597 := wRM_rm q_0 hR592
        refine Or.inr (Or.inl ⟨rfl, ?_⟩)
        refine r_pop (i := 626) rfl rfl ?_
        refine r_load (i := 627) (u := 2) (w := 2) rfl rfl rfl ?_
        refine r_load (i := 628) (u := 0) (w := 2) rfl rfl rfl ?_
        refine r_load (i := 629) (u := 4) (w := 0) rfl rfl rfl ?_
        refine r_const (i := 630) (u := 1) (z := 1) rfl rfl ?_
        refine r_iadd (i := 631) rfl ?_
        refine r_scA (i := 632) hG rfl (by omega) (by omega) fun h598 => ?_
        have h598 : Rg (sc (i + 1).toNat) := h598
        refine r_call (i := 633) (u := 11) (v := 197) (w := 0) (b := 0) (na := 514) (C2 := xC197) (as := [(2, 43), vi (sc (i + 1).toNat)]) (s := []) rfl rfl rfl rfl rfl rfl rfl (sp197 (k := sc (i + 1).toNat) hI590 ⟨by omega, by omega⟩   (by omega)) (fun r599 S600 hq601 => ?_)
        obtain ⟨z602, rfl, h603, h604, hI605, hF606, hR607⟩ := hq601
        have e608 := N23x.fr e593 hF606 hR607 rfl rfl rfl
        have e609 := CRx.fr e594 hF606 rfl rfl
        have e610 := RTx.fr e595 hF606 rfl rfl
        have e611 := RSx.fr e596 hF606 rfl rfl
        have e612 := wRM_rm e597 hR607
        refine Or.inr (Or.inl ⟨rfl, ?_⟩)
        refine r_pop (i := 634) rfl rfl ?_
        refine r_goto (i := 635) (v := 643) rfl ?_
        refine r_iinc (i := 643) (u := 10) (v := 4) (s := 10) (L1 := [some ((6, 0)), some ((2, 0)), some ((2, 43)), some ((2, 81)), some (vi (i + 10)), none, none]) rfl rfl rfl rfl rfl ?_
        refine r_goto (i := 644) (v := 13) rfl ?_
        exact ih S600 hI605 e608 e609 e610 e611 (i + 10) ⟨by omega, by omega⟩ (by exact wRM_le e612 (by omega)) (by omega)
      · refine r_swK (i := 24) (u := 1) (v := 643) (k := 18) (t := 636) rfl rfl h23 (by decide) (by decide) rfl ?_
        refine r_load (i := 636) (u := 1) (w := 2) rfl rfl rfl ?_
        refine r_call (i := 637) (u := 0) (v := 15) (w := 0) (b := 0) (na := 257) (C2 := xC15) (as := [(2, 0)]) (s := []) rfl rfl rfl rfl rfl rfl rfl (sp15  hI    (by omega)) (fun r613 S614 hq615 => ?_)
        obtain ⟨z616, rfl, h617, h618, hI619, hF620, hR621⟩ := hq615
        have e622 := N23x.fr e_N23 hF620 hR621 rfl rfl rfl
        have e623 := CRx.fr e_CR hF620 rfl rfl
        have e624 := RTx.fr e_RT hF620 rfl rfl
        have e625 := RSx.fr e_RS hF620 rfl rfl
        have e626 := wRM_rm q_0 hR621
        refine Or.inr (Or.inl ⟨rfl, ?_⟩)
        refine r_pop (i := 638) rfl rfl ?_
        refine r_load (i := 639) (u := 2) (w := 2) rfl rfl rfl ?_
        refine r_call (i := 640) (u := 11) (v := 235) (w := 0) (b := 0) (na := 1025) (C2 := xC235) (as := [(2, 43)]) (s := []) rfl rfl rfl rfl rfl rfl rfl (sp235  hI619    (by omega)) (fun r627 S628 hq629 => ?_)
        obtain ⟨z630, rfl, h631, h632, hI633, hF634, hR635⟩ := hq629
        have e636 := N23x.fr e622 hF634 hR635 rfl rfl rfl
        have e637 := CRx.fr e623 hF634 rfl rfl
        have e638 := RTx.fr e624 hF634 rfl rfl
        have e639 := RSx.fr e625 hF634 rfl rfl
        have e640 := wRM_rm e626 hR635
        refine Or.inr (Or.inl ⟨rfl, ?_⟩)
        refine r_pop (i := 641) rfl rfl ?_
        refine r_goto (i := 642) (v := 643) rfl ?_
        refine r_iinc (i := 643) (u := 10) (v := 4) (s := 10) (L1 := [some ((6, 0)), some ((2, 0)), some ((2, 43)), some ((2, 81)), some (vi (i + 10)), none, none]) rfl rfl rfl rfl rfl ?_
        refine r_goto (i := 644) (v := 13) rfl ?_
        exact ih S628 hI633 e636 e637 e638 e639 (i + 10) ⟨by omega, by omega⟩ (by exact wRM_le e640 (by omega)) (by omega)
      · refine r_swK (i := 24) (u := 1) (v := 643) (k := 19) (t := 643) rfl rfl h24 (by decide) (by decide) rfl ?_
        refine r_iinc (i := 643) (u := 10) (v := 4) (s := 10) (L1 := [some ((6, 0)), some ((2, 0)), some ((2, 43)), some ((2, 81)), some (vi (i + 10)), none, none]) rfl rfl rfl rfl rfl ?_
        refine r_goto (i := 644) (v := 13) rfl ?_
        exact ih S hI e_N23 e_CR e_RT e_RS (i + 10) ⟨by omega, by omega⟩ (by exact wRM_le q_0 (by omega)) (by omega)
      · refine r_swK (i := 24) (u := 1) (v := 643) (k := 20) (t := 643) rfl rfl h25 (by decide) (by decide) rfl ?_
        refine r_iinc (i := 643) (u := 10) (v := 4) (s := 10) (L1 := [some ((6, 0)), some ((2, 0)), some ((2, 43)), some ((2, 81)), some (vi (i + 10)), none, none]) rfl rfl rfl rfl rfl ?_
        refine r_goto (i := 644) (v := 13) rfl ?_
        exact ih S hI e_N23 e_CR e_RT e_RS (i + 10) ⟨by omega, by omega⟩ (by exact wRM_le q_0 (by omega)) (by omega)
      · refine r_swK (i := 24) (u := 1) (v := 643) (k := 21) (t := 643) rfl rfl h26 (by decide) (by decide) rfl ?_
        refine r_iinc (i := 643) (u := 10) (v := 4) (s := 10) (L1 := [some ((6, 0)), some ((2, 0)), some ((2, 43)), some ((2, 81)), some (vi (i + 10)), none, none]) rfl rfl rfl rfl rfl ?_
        refine r_goto (i := 644) (v := 13) rfl ?_
        exact ih S hI e_N23 e_CR e_RT e_RS (i + 10) ⟨by omega, by omega⟩ (by exact wRM_le q_0 (by omega)) (by omega)
      · refine r_swK (i := 24) (u := 1) (v := 643) (k := 22) (t := 643) rfl rfl h27 (by decide) (by decide) rfl ?_
        refine r_iinc (i := 643) (u := 10) (v := 4) (s := 10) (L1 := [some ((6, 0)), some ((2, 0)), some ((2, 43)), some ((2, 81)), some (vi (i + 10)), none, none]) rfl rfl rfl rfl rfl ?_
        refine r_goto (i := 644) (v := 13) rfl ?_
        exact ih S hI e_N23 e_CR e_RT e_RS (i + 10) ⟨by omega, by omega⟩ (by exact wRM_le q_0 (by omega)) (by omega)
      · refine r_swK (i := 24) (u := 1) (v := 643) (k := 23) (t := 643) rfl rfl h28 (by decide) (by decide) rfl ?_
        refine r_iinc (i := 643) (u := 10) (v := 4) (s := 10) (L1 := [some ((6, 0)), some ((2, 0)), some ((2, 43)), some ((2, 81)), some (vi (i + 10)), none, none]) rfl rfl rfl rfl rfl ?_
        refine r_goto (i := 644) (v := 13) rfl ?_
        exact ih S hI e_N23 e_CR e_RT e_RS (i + 10) ⟨by omega, by omega⟩ (by exact wRM_le q_0 (by omega)) (by omega)
      · refine r_swK (i := 24) (u := 1) (v := 643) (k := 24) (t := 643) rfl rfl h29 (by decide) (by decide) rfl ?_
        refine r_iinc (i := 643) (u := 10) (v := 4) (s := 10) (L1 := [some ((6, 0)), some ((2, 0)), some ((2, 43)), some ((2, 81)), some (vi (i + 10)), none, none]) rfl rfl rfl rfl rfl ?_
        refine r_goto (i := 644) (v := 13) rfl ?_
        exact ih S hI e_N23 e_CR e_RT e_RS (i + 10) ⟨by omega, by omega⟩ (by exact wRM_le q_0 (by omega)) (by omega)
      · refine r_swK (i := 24) (u := 1) (v := 643) (k := 25) (t := 643) rfl rfl h30 (by decide) (by decide) rfl ?_
        refine r_iinc (i := 643) (u := 10) (v := 4) (s := 10) (L1 := [some ((6, 0)), some ((2, 0)), some ((2, 43)), some ((2, 81)), some (vi (i + 10)), none, none]) rfl rfl rfl rfl rfl ?_
        refine r_goto (i := 644) (v := 13) rfl ?_
        exact ih S hI e_N23 e_CR e_RT e_RS (i + 10) ⟨by omega, by omega⟩ (by exact wRM_le q_0 (by omega)) (by omega)
      · refine r_swK (i := 24) (u := 1) (v := 643) (k := 26) (t := 643) rfl rfl h31 (by decide) (by decide) rfl ?_
        refine r_iinc (i := 643) (u := 10) (v := 4) (s := 10) (L1 := [some ((6, 0)), some ((2, 0)), some ((2, 43)), some ((2, 81)), some (vi (i + 10)), none, none]) rfl rfl rfl rfl rfl ?_
        refine r_goto (i := 644) (v := 13) rfl ?_
        exact ih S hI e_N23 e_CR e_RT e_RS (i + 10) ⟨by omega, by omega⟩ (by exact wRM_le q_0 (by omega)) (by omega)
      · refine r_swK (i := 24) (u := 1) (v := 643) (k := 27) (t := 643) rfl rfl h32 (by decide) (by decide) rfl ?_
        refine r_iinc (i := 643) (u := 10) (v := 4) (s := 10) (L1 := [some ((6, 0)), some ((2, 0)), some ((2, 43)), some ((2, 81)), some (vi (i + 10)), none, none]) rfl rfl rfl rfl rfl ?_
        refine r_goto (i := 644) (v := 13) rfl ?_
        exact ih S hI e_N23 e_CR e_RT e_RS (i + 10) ⟨by omega, by omega⟩ (by exact wRM_le q_0 (by omega)) (by omega)
      · refine r_swK (i := 24) (u := 1) (v := 643) (k := 28) (t := 643) rfl rfl h33 (by decide) (by decide) rfl ?_
        refine r_iinc (i := 643) (u := 10) (v := 4) (s := 10) (L1 := [some ((6, 0)), some ((2, 0)), some ((2, 43)), some ((2, 81)), some (vi (i + 10)), none, none]) rfl rfl rfl rfl rfl ?_
        refine r_goto (i := 644) (v := 13) rfl ?_
        exact ih S hI e_N23 e_CR e_RT e_RS (i + 10) ⟨by omega, by omega⟩ (by exact wRM_le q_0 (by omega)) (by omega)
      · refine r_swK (i := 24) (u := 1) (v := 643) (k := 29) (t := 643) rfl rfl h34 (by decide) (by decide) rfl ?_
        refine r_iinc (i := 643) (u := 10) (v := 4) (s := 10) (L1 := [some ((6, 0)), some ((2, 0)), some ((2, 43)), some ((2, 81)), some (vi (i + 10)), none, none]) rfl rfl rfl rfl rfl ?_
        refine r_goto (i := 644) (v := 13) rfl ?_
        exact ih S hI e_N23 e_CR e_RT e_RS (i + 10) ⟨by omega, by omega⟩ (by exact wRM_le q_0 (by omega)) (by omega)
      · refine r_swK (i := 24) (u := 1) (v := 643) (k := 30) (t := 643) rfl rfl h35 (by decide) (by decide) rfl ?_
        refine r_iinc (i := 643) (u := 10) (v := 4) (s := 10) (L1 := [some ((6, 0)), some ((2, 0)), some ((2, 43)), some ((2, 81)), some (vi (i + 10)), none, none]) rfl rfl rfl rfl rfl ?_
        refine r_goto (i := 644) (v := 13) rfl ?_
        exact ih S hI e_N23 e_CR e_RT e_RS (i + 10) ⟨by omega, by omega⟩ (by exact wRM_le q_0 (by omega)) (by omega)
      · refine r_swK (i := 24) (u := 1) (v := 643) (k := 31) (t := 643) rfl rfl h36 (by decide) (by decide) rfl ?_
        refine r_iinc (i := 643) (u := 10) (v := 4) (s := 10) (L1 := [some ((6, 0)), some ((2, 0)), some ((2, 43)), some ((2, 81)), some (vi (i + 10)), none, none]) rfl rfl rfl rfl rfl ?_
        refine r_goto (i := 644) (v := 13) rfl ?_
        exact ih S hI e_N23 e_CR e_RT e_RS (i + 10) ⟨by omega, by omega⟩ (by exact wRM_le q_0 (by omega)) (by omega)
end XNC
