set_option linter.unusedVariables false
noncomputable section XNC
def TFt : List (Nat × Nat × Int × Int) := [(1, 7, 4, 20), (9, 8, 4, 60), (17, 6, 0, 19), (17, 7, 0, 3), (17, 10, 0, 20), (17, 11, 0, 60), (17, 12, 0, 60), (22, 3, 0, 24), (26, 2, 0, 4), (26, 3, -1, 23), (26, 4, 0, 5), (40, 2, 0, 60000), (40, 3, 0, 60000), (40, 4, 0, 60000), (40, 5, -1, 60000), (43, 0, 0, 2), (43, 1, 4, 20), (43, 10, 4, 60), (43, 19, 0, 1), (43, 20, 0, 24), (43, 21, 0, 19), (43, 22, 0, 3), (43, 31, 0, 60), (43, 33, 0, 5), (43, 34, -1, 23), (43, 35, 0, 4), (43, 42, 0, 23500), (43, 43, 0, 24000), (43, 49, 0, 1199), (43, 50, 0, 22000), (43, 51, 0, 200), (43, 53, 0, 2147483647), (43, 56, 0, 23600), (43, 57, -10, 23600), (43, 58, 0, 24001)]
def TAt : List (Nat × Int × Int) := [(3, 0, 7), (4, 0, 4), (5, -1, 19), (7, 0, 4), (8, 0, 19), (10, 0, 19), (11, 0, 10), (12, 0, 63), (14, 0, 23), (15, 0, 3), (16, 0, 19), (18, -1, 19), (19, 0, 19), (20, 0, 59), (21, 0, 59), (23, 0, 59), (24, 0, 3), (25, 0, 3), (27, 0, 23), (42, 0, 3), (48, 0, 4), (49, -1, 19), (50, 0, 19), (51, 0, 4), (52, 0, 19), (53, 0, 10), (54, 0, 63), (55, 0, 1048575), (56, 0, 23), (57, 0, 19), (58, 0, 3), (59, 0, 3), (60, 0, 59), (61, 0, 3), (62, 0, 19), (63, 0, 3), (64, -1, 19), (66, 0, 59), (69, 0, 23), (71, 0, 255), (73, 0, 12), (74, 0, 22000), (75, 0, 1200), (76, 0, 255), (77, 0, 127), (78, 0, 1), (79, 0, 19), (80, 0, 23500)]
theorem tf1_7 : yfd TFt 1 7 = some (4, 20) := rfl
theorem tf9_8 : yfd TFt 9 8 = some (4, 60) := rfl
theorem tf17_6 : yfd TFt 17 6 = some (0, 19) := rfl
theorem tf17_7 : yfd TFt 17 7 = some (0, 3) := rfl
theorem tf17_10 : yfd TFt 17 10 = some (0, 20) := rfl
theorem tf17_11 : yfd TFt 17 11 = some (0, 60) := rfl
theorem tf17_12 : yfd TFt 17 12 = some (0, 60) := rfl
theorem tf22_3 : yfd TFt 22 3 = some (0, 24) := rfl
theorem tf26_2 : yfd TFt 26 2 = some (0, 4) := rfl
theorem tf26_3 : yfd TFt 26 3 = some (-1, 23) := rfl
theorem tf26_4 : yfd TFt 26 4 = some (0, 5) := rfl
theorem tf40_2 : yfd TFt 40 2 = some (0, 60000) := rfl
theorem tf40_3 : yfd TFt 40 3 = some (0, 60000) := rfl
theorem tf40_4 : yfd TFt 40 4 = some (0, 60000) := rfl
theorem tf40_5 : yfd TFt 40 5 = some (-1, 60000) := rfl
theorem tf43_0 : yfd TFt 43 0 = some (0, 2) := rfl
theorem tf43_1 : yfd TFt 43 1 = some (4, 20) := rfl
theorem tf43_10 : yfd TFt 43 10 = some (4, 60) := rfl
theorem tf43_19 : yfd TFt 43 19 = some (0, 1) := rfl
theorem tf43_20 : yfd TFt 43 20 = some (0, 24) := rfl
theorem tf43_21 : yfd TFt 43 21 = some (0, 19) := rfl
theorem tf43_22 : yfd TFt 43 22 = some (0, 3) := rfl
theorem tf43_31 : yfd TFt 43 31 = some (0, 60) := rfl
theorem tf43_33 : yfd TFt 43 33 = some (0, 5) := rfl
theorem tf43_34 : yfd TFt 43 34 = some (-1, 23) := rfl
theorem tf43_35 : yfd TFt 43 35 = some (0, 4) := rfl
theorem tf43_42 : yfd TFt 43 42 = some (0, 23500) := rfl
theorem tf43_43 : yfd TFt 43 43 = some (0, 24000) := rfl
theorem tf43_49 : yfd TFt 43 49 = some (0, 1199) := rfl
theorem tf43_50 : yfd TFt 43 50 = some (0, 22000) := rfl
theorem tf43_51 : yfd TFt 43 51 = some (0, 200) := rfl
theorem tf43_53 : yfd TFt 43 53 = some (0, 2147483647) := rfl
theorem tf43_56 : yfd TFt 43 56 = some (0, 23600) := rfl
theorem tf43_57 : yfd TFt 43 57 = some (-10, 23600) := rfl
theorem tf43_58 : yfd TFt 43 58 = some (0, 24001) := rfl
theorem ta3 : yad TAt 3 = some (0, 7) := rfl
theorem ta4 : yad TAt 4 = some (0, 4) := rfl
theorem ta5 : yad TAt 5 = some (-1, 19) := rfl
theorem ta7 : yad TAt 7 = some (0, 4) := rfl
theorem ta8 : yad TAt 8 = some (0, 19) := rfl
theorem ta10 : yad TAt 10 = some (0, 19) := rfl
theorem ta11 : yad TAt 11 = some (0, 10) := rfl
theorem ta12 : yad TAt 12 = some (0, 63) := rfl
theorem ta14 : yad TAt 14 = some (0, 23) := rfl
theorem ta15 : yad TAt 15 = some (0, 3) := rfl
theorem ta16 : yad TAt 16 = some (0, 19) := rfl
theorem ta18 : yad TAt 18 = some (-1, 19) := rfl
theorem ta19 : yad TAt 19 = some (0, 19) := rfl
theorem ta20 : yad TAt 20 = some (0, 59) := rfl
theorem ta21 : yad TAt 21 = some (0, 59) := rfl
theorem ta23 : yad TAt 23 = some (0, 59) := rfl
theorem ta24 : yad TAt 24 = some (0, 3) := rfl
theorem ta25 : yad TAt 25 = some (0, 3) := rfl
theorem ta27 : yad TAt 27 = some (0, 23) := rfl
theorem ta42 : yad TAt 42 = some (0, 3) := rfl
theorem ta48 : yad TAt 48 = some (0, 4) := rfl
theorem ta49 : yad TAt 49 = some (-1, 19) := rfl
theorem ta50 : yad TAt 50 = some (0, 19) := rfl
theorem ta51 : yad TAt 51 = some (0, 4) := rfl
theorem ta52 : yad TAt 52 = some (0, 19) := rfl
theorem ta53 : yad TAt 53 = some (0, 10) := rfl
theorem ta54 : yad TAt 54 = some (0, 63) := rfl
theorem ta55 : yad TAt 55 = some (0, 1048575) := rfl
theorem ta56 : yad TAt 56 = some (0, 23) := rfl
theorem ta57 : yad TAt 57 = some (0, 19) := rfl
theorem ta58 : yad TAt 58 = some (0, 3) := rfl
theorem ta59 : yad TAt 59 = some (0, 3) := rfl
theorem ta60 : yad TAt 60 = some (0, 59) := rfl
theorem ta61 : yad TAt 61 = some (0, 3) := rfl
theorem ta62 : yad TAt 62 = some (0, 19) := rfl
theorem ta63 : yad TAt 63 = some (0, 3) := rfl
theorem ta64 : yad TAt 64 = some (-1, 19) := rfl
theorem ta66 : yad TAt 66 = some (0, 59) := rfl
theorem ta69 : yad TAt 69 = some (0, 23) := rfl
theorem ta71 : yad TAt 71 = some (0, 255) := rfl
theorem ta73 : yad TAt 73 = some (0, 12) := rfl
theorem ta74 : yad TAt 74 = some (0, 22000) := rfl
theorem ta75 : yad TAt 75 = some (0, 1200) := rfl
theorem ta76 : yad TAt 76 = some (0, 255) := rfl
theorem ta77 : yad TAt 77 = some (0, 127) := rfl
theorem ta78 : yad TAt 78 = some (0, 1) := rfl
theorem ta79 : yad TAt 79 = some (0, 19) := rfl
theorem ta80 : yad TAt 80 = some (0, 23500) := rfl
def SPF : List (Nat × Nat) := [(26, 4), (26, 5), (31, 1), (34, 1), (43, 33), (43, 36)]
def SPA : List Nat := [13, 49, 55, 100, 101, 102, 103, 104, 105]
/-- all digits of a method's parameters are kinds -/
def KP (a : Int) : Prop := ∀ j : Int, 0 ≤ j → j < 4 → yand (yshr a (5 * j)) 31 ≤ 23
theorem KP_of4 {a : Int} (h0 : yand (yshr a (5 * 0)) 31 ≤ 23) (h1 : yand (yshr a (5 * 1)) 31 ≤ 23) (h2 : yand (yshr a (5 * 2)) 31 ≤ 23) (h3 : yand (yshr a (5 * 3)) 31 ≤ 23) : KP a := by
  intro j hj0 hj4
  rcases (show j = 0 ∨ j = 1 ∨ j = 2 ∨ j = 3 by omega) with rfl | rfl | rfl | rfl
  · exact h0
  · exact h1
  · exact h2
  · exact h3
theorem yand_z (y : Int) : yand 0 y = 0 := by
  unfold yand
  have : enc 0 = 0 := rfl
  rw [this]
  show dec (0 &&& enc y) = 0
  rw [Nat.zero_and]
  rfl
theorem KP_ab {a n : Int} (hn0 : 0 ≤ n) (hn4 : n ≤ 4) (h0 : 1 ≤ n → yand (yshr a (5 * 0)) 31 ≤ 23) (h1 : 2 ≤ n → yand (yshr a (5 * 1)) 31 ≤ 23) (h2 : 3 ≤ n → yand (yshr a (5 * 2)) 31 ≤ 23) (h3 : 4 ≤ n → yand (yshr a (5 * 3)) 31 ≤ 23) (hz : yshr a (5 * n) = 0) : KP a := by
  intro j hj0 hj4
  rcases Int.lt_or_le j n with hlt | hge
  · rcases (show j = 0 ∨ j = 1 ∨ j = 2 ∨ j = 3 by omega) with rfl | rfl | rfl | rfl
    · exact h0 (by omega)
    · exact h1 (by omega)
    · exact h2 (by omega)
    · exact h3 (by omega)
  · rw [yshr_up (a := 5 * n) (b := 5 * j) (by omega) (by omega) (by omega) hz, yand_z]
    decide
/-- what holds of the two objects between the calls, and mostly within them -/
def yI (S : yS) : Prop := (yBd TFt TAt S) ∧ (∀ j, KP (S.a 55 j)) ∧ (∀ j, KP (S.a 13 j)) ∧ (4 ≤ S.f 43 33 → 0 ≤ S.f 43 36 ∧ S.f 43 36 ≤ 19) ∧ (4 ≤ S.f 26 4 → 0 ≤ S.f 26 5 ∧ S.f 26 5 ≤ 19) ∧ (∀ j : Nat, S.a 49 j < j) ∧ (0 ≤ S.f 31 1 ∧ S.f 31 1 ≤ S.n 0 ∧ S.f 31 1 ≤ 60000) ∧ (0 ≤ S.f 34 1 ∧ S.f 34 1 ≤ S.n 1 ∧ S.f 34 1 ≤ 60000) ∧ (512 ≤ S.n 0 ∧ S.n 0 ≤ 200000 ∧ 512 ≤ S.n 1 ∧ S.n 1 ≤ 200000 ∧ 128 ≤ S.n 3 ∧ S.n 3 ≤ S.n 2 ∧ S.n 2 ≤ 200000 ∧ 128 ≤ S.n 4 ∧ S.n 4 ≤ 200000) ∧ (7100000 ≤ S.bs + 2 * (S.n 0 + S.n 1 + S.n 2 + S.n 3 + S.n 4) ∧ 76000000 ≤ 128 * S.bc + (S.n 0 + S.n 1 + S.n 2 + S.n 3 + S.n 4))
theorem yI.mk' {S : yS} (h : (yBd TFt TAt S) ∧ (∀ j, KP (S.a 55 j)) ∧ (∀ j, KP (S.a 13 j)) ∧ (4 ≤ S.f 43 33 → 0 ≤ S.f 43 36 ∧ S.f 43 36 ≤ 19) ∧ (4 ≤ S.f 26 4 → 0 ≤ S.f 26 5 ∧ S.f 26 5 ≤ 19) ∧ (∀ j : Nat, S.a 49 j < j) ∧ (0 ≤ S.f 31 1 ∧ S.f 31 1 ≤ S.n 0 ∧ S.f 31 1 ≤ 60000) ∧ (0 ≤ S.f 34 1 ∧ S.f 34 1 ≤ S.n 1 ∧ S.f 34 1 ≤ 60000) ∧ (512 ≤ S.n 0 ∧ S.n 0 ≤ 200000 ∧ 512 ≤ S.n 1 ∧ S.n 1 ≤ 200000 ∧ 128 ≤ S.n 3 ∧ S.n 3 ≤ S.n 2 ∧ S.n 2 ≤ 200000 ∧ 128 ≤ S.n 4 ∧ S.n 4 ≤ 200000) ∧ (7100000 ≤ S.bs + 2 * (S.n 0 + S.n 1 + S.n 2 + S.n 3 + S.n 4) ∧ 76000000 ≤ 128 * S.bc + (S.n 0 + S.n 1 + S.n 2 + S.n 3 + S.n 4))) : yI S := h
theorem yI.bd {S : yS} (h : yI S) : yBd TFt TAt S := h.1
theorem yI.k55 {S : yS} (h : yI S) : ∀ j, KP (S.a 55 j) := h.2.1
theorem yI.k13 {S : yS} (h : yI S) : ∀ j, KP (S.a 13 j) := h.2.2.1
theorem yI.m2 {S : yS} (h : yI S) : 4 ≤ S.f 43 33 → 0 ≤ S.f 43 36 ∧ S.f 43 36 ≤ 19 := h.2.2.2.1
theorem yI.c2 {S : yS} (h : yI S) : 4 ≤ S.f 26 4 → 0 ≤ S.f 26 5 ∧ S.f 26 5 ≤ 19 := h.2.2.2.2.1
theorem yI.m3 {S : yS} (h : yI S) : ∀ j : Nat, S.a 49 j < j := h.2.2.2.2.2.1
theorem yI.b0 {S : yS} (h : yI S) : 0 ≤ S.f 31 1 ∧ S.f 31 1 ≤ S.n 0 ∧ S.f 31 1 ≤ 60000 := h.2.2.2.2.2.2.1
theorem yI.b1 {S : yS} (h : yI S) : 0 ≤ S.f 34 1 ∧ S.f 34 1 ≤ S.n 1 ∧ S.f 34 1 ≤ 60000 := h.2.2.2.2.2.2.2.1
theorem yI.bn {S : yS} (h : yI S) : 512 ≤ S.n 0 ∧ S.n 0 ≤ 200000 ∧ 512 ≤ S.n 1 ∧ S.n 1 ≤ 200000 ∧ 128 ≤ S.n 3 ∧ S.n 3 ≤ S.n 2 ∧ S.n 2 ≤ 200000 ∧ 128 ≤ S.n 4 ∧ S.n 4 ≤ 200000 := h.2.2.2.2.2.2.2.2.1
theorem yI.br {S : yS} (h : yI S) : 7100000 ≤ S.bs + 2 * (S.n 0 + S.n 1 + S.n 2 + S.n 3 + S.n 4) ∧ 76000000 ≤ 128 * S.bc + (S.n 0 + S.n 1 + S.n 2 + S.n 3 + S.n 4) := h.2.2.2.2.2.2.2.2.2
section
variable {S : yS}
theorem yI.f (h : yI S) {b w : Nat} {lo hi : Int} (e : yfd TFt b w = some (lo, hi)) : lo ≤ S.f b w ∧ S.f b w ≤ hi := h.bd.f e
theorem yI.a (h : yI S) {b : Nat} {lo hi : Int} (e : yad TAt b = some (lo, hi)) (j : Nat) : lo ≤ S.a b j ∧ S.a b j ≤ hi := h.bd.a e j
theorem ysp {b w b' w' : Nat} {z : Int} (e : yin2 SPF b w = false) (e' : yin2 SPF b' w' = true) : (ysf S b w z).f b' w' = S.f b' w' := by
  refine ysf_ne ?_
  by_cases h1 : b' = b
  · by_cases h2 : w' = w
    · subst h1 h2; rw [e] at e'; cases e'
    · exact Or.inr h2
  · exact Or.inl h1
theorem yspa {b j b' : Nat} {z : Int} (e : yin SPA b = false) (e' : yin SPA b' = true) (j' : Nat) : (ysa S b j z).a b' j' = S.a b' j' := by
  refine ysa_ne (Or.inl ?_)
  intro h1
  subst h1
  rw [e] at e'
  cases e'
theorem yI.setfB (h : yI S) {b w : Nat} {z : Int} (hb : yBd TFt TAt (ysf S b w z)) (e : yin2 SPF b w = false) : yI (ysf S b w z) := by
  refine yI.mk' ⟨hb, h.k55, h.k13, ?_, ?_, h.m3, ?_, ?_, h.bn, h.br⟩
  · rw [ysp e rfl, ysp e rfl]; exact h.m2
  · rw [ysp e rfl, ysp e rfl]; exact h.c2
  · rw [ysp e rfl]; exact h.b0
  · rw [ysp e rfl]; exact h.b1
theorem yI.setf (h : yI S) {b w : Nat} {lo hi z : Int} (e : yfd TFt b w = some (lo, hi)) (e2 : yin2 SPF b w = false) (h1 : lo ≤ z) (h2 : z ≤ hi) : yI (ysf S b w z) := h.setfB (h.bd.setf e h1 h2) e2
theorem yI.setf0 (h : yI S) {b w : Nat} {z : Int} (e : yfd TFt b w = none) (e2 : yin2 SPF b w = false) : yI (ysf S b w z) := h.setfB (h.bd.setf0 e) e2
theorem yI.setaB (h : yI S) {b j : Nat} {z : Int} (hb : yBd TFt TAt (ysa S b j z)) (e : yin SPA b = false) : yI (ysa S b j z) := by
  refine yI.mk' ⟨hb, fun j' => ?_, fun j' => ?_, h.m2, h.c2, fun j' => ?_, h.b0, h.b1, h.bn, h.br⟩
  · rw [yspa e rfl]; exact h.k55 j'
  · rw [yspa e rfl]; exact h.k13 j'
  · rw [yspa e rfl]; exact h.m3 j'
theorem yI.seta (h : yI S) {b j : Nat} {lo hi z : Int} (e : yad TAt b = some (lo, hi)) (e2 : yin SPA b = false) (h1 : lo ≤ z) (h2 : z ≤ hi) : yI (ysa S b j z) := h.setaB (h.bd.seta e h1 h2) e2
theorem yI.seta0 (h : yI S) {b j : Nat} {z : Int} (e : yad TAt b = none) (e2 : yin SPA b = false) : yI (ysa S b j z) := h.setaB (h.bd.seta0 e) e2
theorem ysa_le {p : Int → Prop} {b j b' j' : Nat} {z : Int} (h : p (S.a b' j')) (hz : p z) : p ((ysa S b j z).a b' j') := by
  show p (cond (Nat.beq b' b && Nat.beq j' j) z (S.a b' j'))
  cases Nat.beq b' b && Nat.beq j' j with
  | true => exact hz
  | false => exact h
theorem yI.seta55 (h : yI S) {j : Nat} {z : Int} (h1 : 0 ≤ z) (h2 : z ≤ 1048575) (hz : KP z) : yI (ysa S 55 j z) := by
  refine yI.mk' ⟨h.bd.seta ta55 h1 h2, fun j' => ysa_le (h.k55 j') hz, fun j' => ?_, h.m2, h.c2, fun j' => ?_, h.b0, h.b1, h.bn, h.br⟩
  · rw [ysa_ne (Or.inl (by decide))]; exact h.k13 j'
  · rw [ysa_ne (Or.inl (by decide))]; exact h.m3 j'
theorem yI.seta13 (h : yI S) {j : Nat} {z : Int} (hz : KP z) : yI (ysa S 13 j z) := by
  refine yI.mk' ⟨h.bd.seta0 rfl, fun j' => ?_, fun j' => ysa_le (h.k13 j') hz, h.m2, h.c2, fun j' => ?_, h.b0, h.b1, h.bn, h.br⟩
  · rw [ysa_ne (Or.inl (by decide))]; exact h.k55 j'
  · rw [ysa_ne (Or.inl (by decide))]; exact h.m3 j'
theorem yI.seta49 (h : yI S) {j : Nat} {z : Int} (h1 : -1 ≤ z) (h2 : z ≤ 19) (hz : z < j) : yI (ysa S 49 j z) := by
  refine yI.mk' ⟨h.bd.seta ta49 h1 h2, fun j' => ?_, fun j' => ?_, h.m2, h.c2, fun j' => ?_, h.b0, h.b1, h.bn, h.br⟩
  · rw [ysa_ne (Or.inl (by decide))]; exact h.k55 j'
  · rw [ysa_ne (Or.inl (by decide))]; exact h.k13 j'
  · by_cases hj : j' = j
    · subst hj; rw [ysa_eq]; exact hz
    · rw [ysa_ne (Or.inr hj)]; exact h.m3 j'
theorem yI.set43 (h : yI S) {z y : Int} (h1 : 0 ≤ z) (h2 : z ≤ 5) (hz : 4 ≤ z → 0 ≤ y ∧ y ≤ 19) : yI (ysf (ysf S 43 33 z) 43 36 y) := by
  refine yI.mk' ⟨(h.bd.setf tf43_33 h1 h2).setf0 rfl, h.k55, h.k13, ?_, ?_, h.m3, ?_, ?_, h.bn, h.br⟩
  · rw [ysf_eq, ysf_ne (Or.inr (by decide)), ysf_eq]; exact hz
  · rw [ysf_ne (Or.inl (by decide)), ysf_ne (Or.inl (by decide)), ysf_ne (Or.inl (by decide)), ysf_ne (Or.inl (by decide))]; exact h.c2
  · rw [ysf_ne (Or.inl (by decide)), ysf_ne (Or.inl (by decide))]; exact h.b0
  · rw [ysf_ne (Or.inl (by decide)), ysf_ne (Or.inl (by decide))]; exact h.b1
theorem yI.set26 (h : yI S) {z y : Int} (h1 : 0 ≤ z) (h2 : z ≤ 5) (hz : 4 ≤ z → 0 ≤ y ∧ y ≤ 19) : yI (ysf (ysf S 26 4 z) 26 5 y) := by
  refine yI.mk' ⟨(h.bd.setf tf26_4 h1 h2).setf0 rfl, h.k55, h.k13, ?_, ?_, h.m3, ?_, ?_, h.bn, h.br⟩
  · rw [ysf_ne (Or.inl (by decide)), ysf_ne (Or.inl (by decide)), ysf_ne (Or.inl (by decide)), ysf_ne (Or.inl (by decide))]; exact h.m2
  · rw [ysf_eq, ysf_ne (Or.inr (by decide)), ysf_eq]; exact hz
  · rw [ysf_ne (Or.inl (by decide)), ysf_ne (Or.inl (by decide))]; exact h.b0
  · rw [ysf_ne (Or.inl (by decide)), ysf_ne (Or.inl (by decide))]; exact h.b1
theorem yI.set26v (h : yI S) {y : Int} (hz : S.f 26 4 < 4) : yI (ysf S 26 5 y) := by
  refine yI.mk' ⟨h.bd.setf0 rfl, h.k55, h.k13, ?_, ?_, h.m3, ?_, ?_, h.bn, h.br⟩
  · rw [ysf_ne (Or.inl (by decide)), ysf_ne (Or.inl (by decide))]; exact h.m2
  · rw [ysf_ne (Or.inr (by decide))]; intro h9; exact absurd h9 (by omega)
  · rw [ysf_ne (Or.inl (by decide))]; exact h.b0
  · rw [ysf_ne (Or.inl (by decide))]; exact h.b1
theorem yI.cost (h : yI S) {c s : Nat} (h1 : 7100000 ≤ S.bs - s + 2 * (S.n 0 + S.n 1 + S.n 2 + S.n 3 + S.n 4)) (h2 : 76000000 ≤ 128 * (S.bc - c) + (S.n 0 + S.n 1 + S.n 2 + S.n 3 + S.n 4)) : yI (ycost S c s) := yI.mk' ⟨h.bd, h.k55, h.k13, h.m2, h.c2, h.m3, h.b0, h.b1, h.bn, ⟨h1, h2⟩⟩
theorem yad_none {l : List (Nat × Int × Int)} (h : l.all (fun q => Nat.blt q.1 100) = true) {b : Nat} (hb : 100 ≤ b) : yad l b = none := by
  induction l with
  | nil => rfl
  | cons q r ih =>
    obtain ⟨a, lo, hi⟩ := q
    rw [List.all_cons, Bool.and_eq_true, Nat.blt_eq] at h
    show cond (Nat.beq a b) (some (lo, hi)) (yad r b) = none
    rw [ybeqF (by have := h.1; omega)]
    exact ih h.2
/-- how many bytes are used -/
theorem yI.use0 (h : yI S) {z : Int} (h0 : 0 ≤ z) (h1 : z ≤ S.n 0) (h2 : z ≤ 60000) : yI (ysf S 31 1 z) := by
  refine yI.mk' ⟨h.bd.setf0 rfl, h.k55, h.k13, ?_, ?_, h.m3, ?_, ?_, h.bn, h.br⟩
  · rw [ysf_ne (Or.inl (by decide)), ysf_ne (Or.inl (by decide))]; exact h.m2
  · rw [ysf_ne (Or.inl (by decide)), ysf_ne (Or.inl (by decide))]; exact h.c2
  · rw [ysf_eq]; exact ⟨h0, h1, h2⟩
  · rw [ysf_ne (Or.inl (by decide))]; exact h.b1
theorem yI.use1 (h : yI S) {z : Int} (h0 : 0 ≤ z) (h1 : z ≤ S.n 1) (h2 : z ≤ 60000) : yI (ysf S 34 1 z) := by
  refine yI.mk' ⟨h.bd.setf0 rfl, h.k55, h.k13, ?_, ?_, h.m3, ?_, ?_, h.bn, h.br⟩
  · rw [ysf_ne (Or.inl (by decide)), ysf_ne (Or.inl (by decide))]; exact h.m2
  · rw [ysf_ne (Or.inl (by decide)), ysf_ne (Or.inl (by decide))]; exact h.c2
  · rw [ysf_ne (Or.inl (by decide))]; exact h.b0
  · rw [ysf_eq]; exact ⟨h0, h1, h2⟩
/-- a byte or an int of a row that grows -/
theorem yBd.setg {TF : List (Nat × Nat × Int × Int)} {TA : List (Nat × Int × Int)} (h : yBd TF TA S) {b j : Nat} {z : Int} (e : yad TA b = none) : yBd TF TA (ysa S b j z) := h.seta0 e
theorem yI.setg (h : yI S) {b j : Nat} {z : Int} (e : yad TAt b = none) (e2 : Nat.ble 100 b = true) : yI (ysa S b j z) := by
  have hb := Nat.le_of_ble_eq_true e2
  refine yI.mk' ⟨h.bd.seta0 e, fun j' => ?_, fun j' => ?_, h.m2, h.c2, fun j' => ?_, h.b0, h.b1, h.bn, h.br⟩
  · rw [ysa_ne (Or.inl (by omega))]; exact h.k55 j'
  · rw [ysa_ne (Or.inl (by omega))]; exact h.k13 j'
  · rw [ysa_ne (Or.inl (by omega))]; exact h.m3 j'
theorem yI.new (h : yI S) {q u m k : Nat} (hk : k < 5) : True := trivial
/-- a row has grown -/
def yGr (k : Nat) (m : Nat) (S S' : yS) : Prop := (S'.f = S.f) ∧ (∀ b, b ≠ 100 + k → b ≠ 105 → S'.a b = S.a b) ∧ (∀ j, j < S.n k → S'.a (100 + k) j = S.a (100 + k) j) ∧ (S'.n k = m) ∧ (∀ q, q < 5 → q ≠ k → S'.n q = S.n q) ∧ (S'.bc + 1 = S.bc) ∧ (S'.bs + m = S.bs)
theorem yGr.mk' {k m : Nat} {S S' : yS} (h : (S'.f = S.f) ∧ (∀ b, b ≠ 100 + k → b ≠ 105 → S'.a b = S.a b) ∧ (∀ j, j < S.n k → S'.a (100 + k) j = S.a (100 + k) j) ∧ (S'.n k = m) ∧ (∀ q, q < 5 → q ≠ k → S'.n q = S.n q) ∧ (S'.bc + 1 = S.bc) ∧ (S'.bs + m = S.bs)) : yGr k m S S' := h
theorem yGr.f {k m : Nat} {S S' : yS} (h : yGr k m S S') : S'.f = S.f := h.1
theorem yGr.a {k m : Nat} {S S' : yS} (h : yGr k m S S') : ∀ b, b ≠ 100 + k → b ≠ 105 → S'.a b = S.a b := h.2.1
theorem yGr.g {k m : Nat} {S S' : yS} (h : yGr k m S S') : ∀ j, j < S.n k → S'.a (100 + k) j = S.a (100 + k) j := h.2.2.1
theorem yGr.n1 {k m : Nat} {S S' : yS} (h : yGr k m S S') : S'.n k = m := h.2.2.2.1
theorem yGr.n {k m : Nat} {S S' : yS} (h : yGr k m S S') : ∀ q, q < 5 → q ≠ k → S'.n q = S.n q := h.2.2.2.2.1
theorem yGr.c {k m : Nat} {S S' : yS} (h : yGr k m S S') : S'.bc + 1 = S.bc := h.2.2.2.2.2.1
theorem yGr.s {k m : Nat} {S S' : yS} (h : yGr k m S S') : S'.bs + m = S.bs := h.2.2.2.2.2.2
theorem yI.grow {S' : yS} {k m : Nat} (h : yI S) (hk : k < 5) (hG : yGr k m S S') (hb : (k = 0 → S.f 31 1 ≤ m ∧ 512 ≤ m) ∧ (k = 1 → S.f 34 1 ≤ m ∧ 512 ≤ m) ∧ 128 ≤ m ∧ m ≤ 200000) (h23 : S'.n 3 ≤ S'.n 2) (h2 : 2 * S.n k ≤ m) (h1 : 128 ≤ S.n k) : yI S' := by
  have ha : ∀ b, b < 100 → S'.a b = S.a b := fun b hb => hG.a b (by omega) (by omega)
  have hn : ∀ q, q < 5 → S'.n q = if q = k then m else S.n q := by
    intro q hq
    by_cases e : q = k
    · rw [if_pos e, e]; exact hG.n1
    · rw [if_neg e]; exact hG.n q hq e
  have hbd : yBd TFt TAt S' := by
    refine ⟨fun b w lo hi e => ?_, fun b lo hi e j => ?_⟩
    · rw [hG.f]; exact h.bd.1 b w lo hi e
    · have hlt : b < 100 := by
        rcases Nat.lt_or_ge b 100 with h9 | h9
        · exact h9
        · exfalso
          have : yad TAt b = none := yad_none (by decide) h9
          rw [this] at e
          cases e
      rw [ha b hlt]; exact h.bd.2 b lo hi e j
  obtain ⟨c0, c1, c2, c3, c4, c5, c6, c7, c8⟩ := h.bn
  have m0 := hn 0 (by decide)
  have m1 := hn 1 (by decide)
  have m2 := hn 2 (by decide)
  have m3 := hn 3 (by decide)
  have m4 := hn 4 (by decide)
  have hc := hG.c
  have hs := hG.s
  obtain ⟨r1, r2⟩ := h.br
  have e : k = 0 ∨ k = 1 ∨ k = 2 ∨ k = 3 ∨ k = 4 := by omega
  refine yI.mk' ⟨hbd, fun j => ?_, fun j => ?_, ?_, ?_, fun j => ?_, ?_, ?_, ?_, ?_⟩
  · rw [ha 55 (by decide)]; exact h.k55 j
  · rw [ha 13 (by decide)]; exact h.k13 j
  · rw [hG.f]; exact h.m2
  · rw [hG.f]; exact h.c2
  · rw [ha 49 (by decide)]; exact h.m3 j
  · rw [hG.f]
    have := h.b0
    rcases e with rfl | rfl | rfl | rfl | rfl <;> simp at m0 m1 m2 m3 m4 <;> omega
  · rw [hG.f]
    have := h.b1
    rcases e with rfl | rfl | rfl | rfl | rfl <;> simp at m0 m1 m2 m3 m4 <;> omega
  · rcases e with rfl | rfl | rfl | rfl | rfl <;> simp at m0 m1 m2 m3 m4 <;> omega
  · rcases e with rfl | rfl | rfl | rfl | rfl <;> simp at m0 m1 m2 m3 m4 <;> omega
end
theorem kpu {S : yS} (h : yI S) (j : Nat) (k : Int) (h0 : 0 ≤ k) (h4 : k < 4) : yand (yshr (S.a 55 j) (5 * k)) 31 ≤ 23 := h.k55 j k h0 h4
theorem kpu13 {S : yS} (h : yI S) (j : Nat) (k : Int) (h0 : 0 ≤ k) (h4 : k < 4) : yand (yshr (S.a 13 j) (5 * k)) 31 ≤ 23 := h.k13 j k h0 h4
theorem ycp_a {S : yS} {k1 i0 k2 j0 m b : Nat} (h : b ≠ 100 + k2) : (ycp S k1 i0 k2 j0 m).a b = S.a b := by
  funext j
  show cond (Nat.beq b (100 + k2) && (Nat.ble j0 j && Nat.blt j (j0 + m))) (S.a (100 + k1) (i0 + (j - j0))) (S.a b j) = _
  rw [ybeqF h]; rfl
theorem yI.cp {S : yS} (h : yI S) {k1 i0 k2 j0 m : Nat} : yI (ycp S k1 i0 k2 j0 m) := by
  refine yI.mk' ⟨⟨h.bd.1, fun b lo hi e j => ?_⟩, fun j => ?_, fun j => ?_, h.m2, h.c2, fun j => ?_, h.b0, h.b1, h.bn, h.br⟩
  · have hlt : b < 100 := by
      rcases Nat.lt_or_ge b 100 with h9 | h9
      · exact h9
      · exfalso
        have : yad TAt b = none := yad_none (by decide) h9
        rw [this] at e
        cases e
    rw [ycp_a (by omega)]; exact h.bd.2 b lo hi e j
  · rw [ycp_a (by omega)]; exact h.k55 j
  · rw [ycp_a (by omega)]; exact h.k13 j
  · rw [ycp_a (by omega)]; exact h.m3 j
theorem yFr.cp {MF : List (Nat × Nat)} {MA : List Nat} {S S1 : yS} (h : yFr MF MA S S1) {k1 i0 k2 j0 m : Nat} (e : yin MA (100 + k2) = true) : yFr MF MA S (ycp S1 k1 i0 k2 j0 m) := by
  refine yFr.mk' ⟨fun b w e' => h.f e', fun b e' j => ?_⟩
  rw [ycp_a (fun h9 => by rw [h9, e] at e'; cases e')]
  exact h.a e' j
theorem yRm.cp {MN : List Nat} {S S1 : yS} (h : yRm MN S S1) {k1 i0 k2 j0 m : Nat} : yRm MN S (ycp S1 k1 i0 k2 j0 m) := yRm.mk' ⟨h.n, fun _ e => h.e e, h.c, h.s⟩

/-! a constructor returns nothing -/
def CR (S : yS) : Prop := ∀ j : Nat, S.a 53 j = 10 → S.a 56 j = 0
theorem CRx : yX [] [53, 56] CR := by
  intro S S' _ ha h j hj
  rw [ha 53 rfl] at hj
  rw [ha 56 rfl]
  exact h j hj
theorem CR_push {S S' : yS} {m : Nat} {w b : Int} (h : CR S) (hw : w = 10 → b = 0) (h1 : ∀ j, S'.a 53 j = (ysa S 53 m w).a 53 j) (h2 : ∀ j, S'.a 56 j = (ysa S 56 m b).a 56 j) : CR S' := by
  intro j hj
  rw [h1] at hj
  rw [h2]
  by_cases e : j = m
  · subst e
    rw [ysa_eq] at hj ⊢
    exact hw hj
  · rw [ysa_ne (Or.inr e)] at hj ⊢
    exact h j hj
/-! single bits -/
theorem land_p (k n : Nat) : n &&& 2 ^ k = 0 ∨ n &&& 2 ^ k = 2 ^ k := by
  cases hb : n.testBit k with
  | false =>
    left
    apply Nat.eq_of_testBit_eq
    intro i
    rw [Nat.testBit_and, Nat.zero_testBit]
    by_cases e : k = i
    · subst e; rw [hb, Bool.false_and]
    · rw [Nat.testBit_two_pow_of_ne e, Bool.and_false]
  | true =>
    right
    apply Nat.eq_of_testBit_eq
    intro i
    rw [Nat.testBit_and]
    by_cases e : k = i
    · subst e; rw [hb, Bool.true_and]
    · rw [Nat.testBit_two_pow_of_ne e, Bool.and_false]
theorem yand_q {q : Nat} (hq : q < 2147483648) (h : ∀ n : Nat, n &&& q = 0 ∨ n &&& q = q) (x : Int) : yand x (q : Int) = 0 ∨ yand x (q : Int) = (q : Int) := by
  have e : enc (q : Int) = q := by
    have := enc_nat (z := (q : Int)) (by omega) (by omega)
    omega
  unfold yand
  rw [e]
  rcases h (enc x) with h | h
  · left
    have h : Nat.land (enc x) q = 0 := h
    rw [h]
    rfl
  · right
    have h : Nat.land (enc x) q = q := h
    rw [h]
    unfold dec
    rw [if_pos hq]
theorem yand_p1 (x : Int) : yand x 1 = 0 ∨ yand x 1 = 1 := yand_q (q := 1) (by decide) (land_p 0) x
theorem yand_p2 (x : Int) : yand x 2 = 0 ∨ yand x 2 = 2 := yand_q (q := 2) (by decide) (land_p 1) x
theorem yand_p4 (x : Int) : yand x 4 = 0 ∨ yand x 4 = 4 := yand_q (q := 4) (by decide) (land_p 2) x
theorem yand_p8 (x : Int) : yand x 8 = 0 ∨ yand x 8 = 8 := yand_q (q := 8) (by decide) (land_p 3) x
theorem yand_p16 (x : Int) : yand x 16 = 0 ∨ yand x 16 = 16 := yand_q (q := 16) (by decide) (land_p 4) x
theorem yand_p32 (x : Int) : yand x 32 = 0 ∨ yand x 32 = 32 := yand_q (q := 32) (by decide) (land_p 5) x
/-! types, on both sides -/
def RT (S : yS) : Prop := S.f 1 7 = S.f 43 1 ∧ (S.a 2 0 = 0 ∧ yand (S.a 3 0) 2 = 0) ∧ ∀ j : Nat, S.a 44 j = S.a 2 j ∧ S.a 45 j = yand (S.a 3 j) 1 ∧ 2 * S.a 46 j = yand (S.a 3 j) 2 ∧ 4 * S.a 47 j = yand (S.a 3 j) 4 ∧ S.a 48 j = S.a 4 j ∧ (S.a 2 j = 1 → S.a 49 j = -1 ∧ S.a 5 j = 0) ∧ (S.a 2 j = 0 → S.a 49 j = S.a 5 j)
theorem RTx : yX [(1, 7), (43, 1)] [2, 3, 4, 5, 44, 45, 46, 47, 48, 49] RT := by
  intro S S' hf ha h
  refine ⟨?_, ?_, fun j => ?_⟩
  · rw [hf 1 7 rfl, hf 43 1 rfl]; exact h.1
  · rw [ha 2 rfl, ha 3 rfl]; exact h.2.1
  · rw [ha 2 rfl, ha 3 rfl, ha 4 rfl, ha 5 rfl, ha 44 rfl, ha 45 rfl, ha 46 rfl, ha 47 rfl, ha 48 rfl, ha 49 rfl]
    exact h.2.2 j
/-- what a type may be -/
def tyC (S : yS) (b fl p up : Int) : Prop := 0 ≤ fl ∧ fl ≤ 7 ∧ yand fl 6 ≠ 6 ∧ (b = 1 → yand fl 6 = 0 ∧ up = 0) ∧ 0 ≤ p ∧ p ≤ 3 ∧ 0 ≤ up ∧ up < S.f 1 7 ∧ S.a 2 up.toNat = 0 ∧ yand (S.a 3 up.toNat) 2 = 0
def tyM (S : yS) (b fl p up : Int) : Prop := 0 ≤ fl ∧ fl < 8 ∧ yand fl 6 ≠ 6 ∧ (b ≠ 0 → yand fl 6 = 0) ∧ 0 ≤ p ∧ p < 4 ∧ 0 ≤ up ∧ up < S.f 43 1 ∧ (b ≠ 0 → up = 0) ∧ (b = 0 → S.a 44 up.toNat = 0 ∧ S.a 46 up.toNat = 0)
/-- a type is added -/
def cTy (S S1 : yS) (b fl p up : Int) : Prop := S1.f 1 7 = S.f 1 7 + 1 ∧ (∀ j, S1.a 2 j = (ysa S 2 (S.f 1 7).toNat b).a 2 j) ∧ (∀ j, S1.a 3 j = (ysa S 3 (S.f 1 7).toNat fl).a 3 j) ∧ (∀ j, S1.a 4 j = (ysa S 4 (S.f 1 7).toNat p).a 4 j) ∧ (∀ j, S1.a 5 j = (ysa S 5 (S.f 1 7).toNat up).a 5 j)
def mTy (S S1 : yS) (b fl p up : Int) : Prop := ∃ o f a u : Int, (o = yand fl 1 ∧ 2 * f = yand fl 2 ∧ 4 * a = yand fl 4 ∧ (b ≠ 0 → u = -1) ∧ (b = 0 → u = up)) ∧ S1.f 43 1 = S.f 43 1 + 1 ∧ (∀ j, S1.a 44 j = (ysa S 44 (S.f 43 1).toNat b).a 44 j) ∧ (∀ j, S1.a 45 j = (ysa S 45 (S.f 43 1).toNat o).a 45 j) ∧ (∀ j, S1.a 46 j = (ysa S 46 (S.f 43 1).toNat f).a 46 j) ∧ (∀ j, S1.a 47 j = (ysa S 47 (S.f 43 1).toNat a).a 47 j) ∧ (∀ j, S1.a 48 j = (ysa S 48 (S.f 43 1).toNat p).a 48 j) ∧ (∀ j, S1.a 49 j = (ysa S 49 (S.f 43 1).toNat u).a 49 j)
def sTy (S S1 : yS) : Prop := S1.f 43 1 = S.f 43 1 ∧ ∀ j, S1.a 44 j = S.a 44 j ∧ S1.a 45 j = S.a 45 j ∧ S1.a 46 j = S.a 46 j ∧ S1.a 47 j = S.a 47 j ∧ S1.a 48 j = S.a 48 j ∧ S1.a 49 j = S.a 49 j
theorem cTy81 {S S1 : yS} {b fl p up z : Int} {j : Nat} (h : cTy S S1 b fl p up) : cTy S (ysa S1 81 j z) b fl p up := h
def hTy (S S1 : yS) (b fl p up z : Int) : Prop := (z = 0 ∧ tyC S b fl p up ∧ S.f 1 7 ≤ 19 ∧ S1.a 81 (0 : Int).toNat = S.f 1 7 ∧ cTy S S1 b fl p up) ∨ (z = 1 ∧ ¬ tyC S b fl p up ∧ S1.f = S.f ∧ S1.a = S.a) ∨ (z = 2 ∧ tyC S b fl p up ∧ 20 ≤ S.f 1 7 ∧ S1.f = S.f ∧ S1.a = S.a)
def mTyQ (S S1 : yS) (b fl p up z : Int) : Prop := (S1.f 43 0 = 0 ∧ tyM S b fl p up ∧ S.f 43 1 ≤ 19 ∧ z = S.f 43 1 ∧ mTy S S1 b fl p up) ∨ (S1.f 43 0 = 1 ∧ ¬ tyM S b fl p up ∧ sTy S S1) ∨ (S1.f 43 0 = 2 ∧ tyM S b fl p up ∧ S.f 43 1 = 20 ∧ sTy S S1)
theorem tyC_M {S S1 : yS} {b fl p up : Int} (h : RT S) (hb : b = 0 ∨ b = 1) (e1 : S1.f 43 1 = S.f 43 1) (e2 : ∀ j, S1.a 44 j = S.a 44 j) (e3 : ∀ j, S1.a 46 j = S.a 46 j) : tyC S b fl p up ↔ tyM S1 b fl p up := by
  obtain ⟨h1, ⟨h2, h3⟩, h4⟩ := h
  obtain ⟨g1, g2, g3, g4, -⟩ := h4 up.toNat
  unfold tyC tyM
  rw [e1, e2, e3, g1]
  constructor
  · rintro ⟨a1, a2, a3, a4, a5, a6, a7, a8, a9, b1⟩
    exact ⟨a1, by omega, a3, fun h => (a4 (by omega)).1, a5, by omega, a7, by omega, fun h => (a4 (by omega)).2, fun h => ⟨a9, by omega⟩⟩
  · rintro ⟨a1, a2, a3, a4, a5, a6, a7, a8, a9, b1⟩
    rcases hb with hb | hb
    · obtain ⟨c1, c2⟩ := b1 hb
      exact ⟨a1, by omega, a3, fun h => by omega, a5, by omega, a7, by omega, c1, by omega⟩
    · have c1 := a4 (by omega)
      have c2 := a9 (by omega)
      subst c2
      exact ⟨a1, by omega, a3, fun h => ⟨c1, rfl⟩, a5, by omega, a7, by omega, h2, h3⟩
theorem RT_type {S S1 S2 : yS} {b fl p up k z : Int} {MF1 MF2 : List (Nat × Nat)} {MA1 MA2 : List Nat} (h : RT S) (hb : b = 0 ∨ b = 1) (h0 : 0 ≤ S.f 1 7) (hC : hTy S S1 b fl p up k) (hF1 : yFr MF1 MA1 S S1) (s1 : ydj2 [(43, 1)] MF1 = true) (s2 : ydj1 [44, 45, 46, 47, 48, 49] MA1 = true) (hM : mTyQ S1 S2 b fl p up z) (hF2 : yFr MF2 MA2 S1 S2) (s3 : ydj2 [(1, 7)] MF2 = true) (s4 : ydj1 [2, 3, 4, 5] MA2 = true) : RT S2 ∧ S2.f 43 0 = k ∧ (k = 0 → S1.a 81 (0 : Int).toNat = z) := by
  have f1 : S1.f 43 1 = S.f 43 1 := hF1.f (ydj2_of s1 rfl)
  have a44 : ∀ j, S1.a 44 j = S.a 44 j := fun j => hF1.a (ydj1_of s2 rfl) j
  have a45 : ∀ j, S1.a 45 j = S.a 45 j := fun j => hF1.a (ydj1_of s2 rfl) j
  have a46 : ∀ j, S1.a 46 j = S.a 46 j := fun j => hF1.a (ydj1_of s2 rfl) j
  have a47 : ∀ j, S1.a 47 j = S.a 47 j := fun j => hF1.a (ydj1_of s2 rfl) j
  have a48 : ∀ j, S1.a 48 j = S.a 48 j := fun j => hF1.a (ydj1_of s2 rfl) j
  have a49 : ∀ j, S1.a 49 j = S.a 49 j := fun j => hF1.a (ydj1_of s2 rfl) j
  have f2 : S2.f 1 7 = S1.f 1 7 := hF2.f (ydj2_of s3 rfl)
  have b2 : ∀ j, S2.a 2 j = S1.a 2 j := fun j => hF2.a (ydj1_of s4 rfl) j
  have b3 : ∀ j, S2.a 3 j = S1.a 3 j := fun j => hF2.a (ydj1_of s4 rfl) j
  have b4 : ∀ j, S2.a 4 j = S1.a 4 j := fun j => hF2.a (ydj1_of s4 rfl) j
  have b5 : ∀ j, S2.a 5 j = S1.a 5 j := fun j => hF2.a (ydj1_of s4 rfl) j
  have hcm := tyC_M (fl := fl) (p := p) (up := up) h hb f1 a44 a46
  obtain ⟨h1, ⟨h2, h3⟩, h4⟩ := h
  have same : S1.f = S.f → S1.a = S.a → sTy S1 S2 → RT S2 := by
    intro q1 q2 q3
    obtain ⟨q3, q4⟩ := q3
    refine ⟨by rw [f2, q3, q1]; exact h1, by rw [b2, b3, q2]; exact ⟨h2, h3⟩, fun j => ?_⟩
    obtain ⟨r1, r2, r3, r4, r5, r6⟩ := q4 j
    rw [b2, b3, b4, b5, r1, r2, r3, r4, r5, r6, q2]
    exact h4 j
  rcases hC with ⟨rfl, c1, c2, c3, c4⟩ | ⟨rfl, c1, c2, c3⟩ | ⟨rfl, c1, c2, c3, c4⟩
  · rcases hM with ⟨m1, m2, m3, m4, m5⟩ | ⟨m1, m2, m3⟩ | ⟨m1, m2, m3, m4⟩
    · refine ⟨?_, m1, fun _ => by omega⟩
      obtain ⟨t1, t2, t3, t4, t5⟩ := c4
      obtain ⟨o, f, a, u, ⟨u1, u2, u3, u4, u5⟩, v1, v2, v3, v4, v5, v6, v7⟩ := m5
      have en : (S1.f 43 1).toNat = (S.f 1 7).toNat := by rw [f1, h1]
      rw [en] at v2 v3 v4 v5 v6 v7
      have hn0 : (S.f 1 7).toNat ≠ 0 := by
        obtain ⟨-, -, -, -, -, -, q1, q2, -⟩ := c1
        omega
      refine ⟨by omega, ?_, fun j => ?_⟩
      · rw [b2, b3, t2, t3, ysa_ne (Or.inr (Ne.symm hn0)), ysa_ne (Or.inr (Ne.symm hn0))]
        exact ⟨h2, h3⟩
      · rw [b2, b3, b4, b5, v2, v3, v4, v5, v6, v7, t2, t3, t4, t5]
        by_cases hj : j = (S.f 1 7).toNat
        · subst hj
          rw [ysa_eq, ysa_eq, ysa_eq, ysa_eq, ysa_eq, ysa_eq, ysa_eq, ysa_eq, ysa_eq, ysa_eq]
          obtain ⟨-, -, -, q4, -⟩ := c1
          exact ⟨rfl, u1, u2, u3, rfl, fun e => ⟨u4 (by omega), (q4 e).2⟩, fun e => u5 e⟩
        · rw [ysa_ne (Or.inr hj), ysa_ne (Or.inr hj), ysa_ne (Or.inr hj), ysa_ne (Or.inr hj), ysa_ne (Or.inr hj), ysa_ne (Or.inr hj), ysa_ne (Or.inr hj), ysa_ne (Or.inr hj), ysa_ne (Or.inr hj), ysa_ne (Or.inr hj), a44, a45, a46, a47, a48, a49]
          exact h4 j
    · exact absurd (hcm.mp c1) m2
    · exfalso; omega
  · rcases hM with ⟨m1, m2, m3, m4, m5⟩ | ⟨m1, m2, m3⟩ | ⟨m1, m2, m3, m4⟩
    · exact absurd (hcm.mpr m2) c1
    · exact ⟨same c2 c3 m3, m1, fun h => absurd h (by decide)⟩
    · exact absurd (hcm.mpr m2) c1
  · rcases hM with ⟨m1, m2, m3, m4, m5⟩ | ⟨m1, m2, m3⟩ | ⟨m1, m2, m3, m4⟩
    · exfalso; omega
    · exact absurd (hcm.mp c1) m2
    · exact ⟨same c3 c4 m4, m1, fun h => absurd h (by decide)⟩

/-! the digits of the parameters -/
def dg (p k : Int) : Int := yand (yshr p (5 * k)) 31
def hMn (p z : Int) : Prop := (∀ k : Int, 0 ≤ k → k < z → dg p k ≠ 0) ∧ (z < 4 → dg p z = 0)
def kdC (n k : Int) : Prop := 1 ≤ k ∧ k < 4 + n
def pkC (n p : Int) : Prop := 0 ≤ p ∧ p < 1048576 ∧ ∃ q : Int, 0 ≤ q ∧ q ≤ 4 ∧ (∀ k : Int, 0 ≤ k → k < q → kdC n (dg p k)) ∧ (∀ k : Int, q ≤ k → k < 4 → dg p k = 0)
theorem yshr_div {x s : Int} (h0 : 0 ≤ x) (h1 : x < 2147483648) (hs : 0 ≤ s) (hs2 : s < 32) : yshr x s = x / ((2 ^ s.toNat : Nat) : Int) := by
  have e1 : (enc x : Int) = x := enc_nat h0 (by omega)
  have e2 : enc s = s.toNat := by have := enc_nat hs (by omega : s < 4294967296); omega
  have e3 : Nat.shiftRight (enc x) (enc s) = enc x / 2 ^ s.toNat := by
    show enc x >>> enc s = _
    rw [Nat.shiftRight_eq_div_pow, e2]
  have h4 : enc x / 2 ^ s.toNat ≤ enc x := Nat.div_le_self _ _
  unfold yshr
  rw [e3]
  unfold dec
  rw [if_pos (by omega), Int.natCast_ediv, e1]
theorem yand_31 {x : Int} (h0 : 0 ≤ x) (h1 : x < 2147483648) : yand x 31 = x % 32 := by
  have e1 : (enc x : Int) = x := enc_nat h0 (by omega)
  have e2 : enc 31 = 2 ^ 5 - 1 := rfl
  have e3 : Nat.land (enc x) (enc 31) = enc x % 2 ^ 5 := by
    rw [e2]
    exact Nat.and_two_pow_sub_one_eq_mod _ _
  unfold yand
  rw [e3]
  unfold dec
  rw [if_pos (by omega)]
  omega
theorem dg_n {p : Int} (h0 : 0 ≤ p) (h1 : p < 1048576) : dg p 0 = p % 32 ∧ dg p 1 = p / 32 % 32 ∧ dg p 2 = p / 1024 % 32 ∧ dg p 3 = p / 32768 % 32 := by
  have a0 : yshr p (5 * 0) = p / ((2 ^ (5 * 0 : Int).toNat : Nat) : Int) := yshr_div h0 (by omega) (by decide) (by decide)
  have a1 : yshr p (5 * 1) = p / ((2 ^ (5 * 1 : Int).toNat : Nat) : Int) := yshr_div h0 (by omega) (by decide) (by decide)
  have a2 : yshr p (5 * 2) = p / ((2 ^ (5 * 2 : Int).toNat : Nat) : Int) := yshr_div h0 (by omega) (by decide) (by decide)
  have a3 : yshr p (5 * 3) = p / ((2 ^ (5 * 3 : Int).toNat : Nat) : Int) := yshr_div h0 (by omega) (by decide) (by decide)
  have c0 : ((2 ^ (5 * 0 : Int).toNat : Nat) : Int) = 1 := by decide
  have c1 : ((2 ^ (5 * 1 : Int).toNat : Nat) : Int) = 32 := by decide
  have c2 : ((2 ^ (5 * 2 : Int).toNat : Nat) : Int) = 1024 := by decide
  have c3 : ((2 ^ (5 * 3 : Int).toNat : Nat) : Int) = 32768 := by decide
  rw [c0] at a0
  rw [c1] at a1
  rw [c2] at a2
  rw [c3] at a3
  unfold dg
  rw [a0, a1, a2, a3]
  refine ⟨?_, ?_, ?_, ?_⟩
  · rw [yand_31 (by omega) (by omega)]; omega
  · rw [yand_31 (by omega) (by omega)]
  · rw [yand_31 (by omega) (by omega)]
  · rw [yand_31 (by omega) (by omega)]
theorem ab0 {p n : Int} (hr : -2147483648 ≤ p ∧ p ≤ 2147483647) (h0 : 0 ≤ n) (h4 : n ≤ 4) (h : yshr p (5 * n) = 0) : 0 ≤ p ∧ p < 1048576 ∧ ∀ k : Int, n ≤ k → k < 4 → dg p k = 0 := by
  have h20 := yshr_up (a := 5 * n) (b := 20) (by omega) (by omega) (by decide) h
  have h1 := dec_zero (yshr_lt p 20) h20
  have e20 : enc 20 = 20 := rfl
  rw [e20] at h1
  have h2 : enc p < 1048576 := by
    have h3 : enc p >>> 20 = 0 := h1
    rw [Nat.shiftRight_eq_div_pow] at h3
    have h5 : (2 : Nat) ^ 20 = 1048576 := by decide
    rw [h5] at h3
    omega
  have h6 : 0 ≤ p ∧ p < 1048576 := by unfold enc at h2; omega
  refine ⟨h6.1, h6.2, fun k h7 h8 => ?_⟩
  unfold dg
  rw [yshr_up (a := 5 * n) (b := 5 * k) (by omega) (by omega) (by omega) h, yand_z]
theorem ab1 {p n : Int} (h0 : 0 ≤ p) (h1 : p < 1048576) (hn : 0 ≤ n) (h4 : n ≤ 4) (h : ∀ k : Int, n ≤ k → k < 4 → dg p k = 0) : yshr p (5 * n) = 0 := by
  obtain ⟨d0, d1, d2, d3⟩ := dg_n h0 h1
  rw [yshr_div h0 (by omega) (by omega) (by omega)]
  rcases (show n = 0 ∨ n = 1 ∨ n = 2 ∨ n = 3 ∨ n = 4 by omega) with rfl | rfl | rfl | rfl | rfl
  · have c0 : ((2 ^ (5 * 0 : Int).toNat : Nat) : Int) = 1 := by decide
    rw [c0]
    have := h 0 (by decide) (by decide)
    have := h 1 (by decide) (by decide)
    have := h 2 (by decide) (by decide)
    have := h 3 (by decide) (by decide)
    omega
  · have c0 : ((2 ^ (5 * 1 : Int).toNat : Nat) : Int) = 32 := by decide
    rw [c0]
    have := h 1 (by decide) (by decide)
    have := h 2 (by decide) (by decide)
    have := h 3 (by decide) (by decide)
    omega
  · have c0 : ((2 ^ (5 * 2 : Int).toNat : Nat) : Int) = 1024 := by decide
    rw [c0]
    have := h 2 (by decide) (by decide)
    have := h 3 (by decide) (by decide)
    omega
  · have c0 : ((2 ^ (5 * 3 : Int).toNat : Nat) : Int) = 32768 := by decide
    rw [c0]
    have := h 3 (by decide) (by decide)
    omega
  · have c0 : ((2 ^ (5 * 4 : Int).toNat : Nat) : Int) = 1048576 := by decide
    rw [c0]
    omega
theorem hm_0 {p : Int} : ∀ k : Int, 0 ≤ k → k < 0 → dg p k ≠ 0 := fun k h1 h2 => absurd h1 (by omega)
theorem hm_s {p n : Int} (h : ∀ k : Int, 0 ≤ k → k < n → dg p k ≠ 0) (hn : dg p n ≠ 0) : ∀ k : Int, 0 ≤ k → k < n + 1 → dg p k ≠ 0 := by
  intro k h1 h2
  by_cases e : k = n
  · rw [e]; exact hn
  · exact h k h1 (by omega)
theorem pk_y {p n N : Int} (hr : -2147483648 ≤ p ∧ p ≤ 2147483647) (h0 : 0 ≤ n) (h4 : n ≤ 4) (ha : ∀ k : Int, 0 ≤ k → k < n → kdC N (dg p k)) (hz : yshr p (5 * n) = 0) : pkC N p := by
  obtain ⟨a1, a2, a3⟩ := ab0 hr h0 h4 hz
  exact ⟨a1, a2, n, h0, h4, ha, a3⟩
theorem pk_q {p n N : Int} (h : hMn p n) (h0 : 0 ≤ n) (h4 : n ≤ 4) (hp : pkC N p) : 0 ≤ p ∧ p < 1048576 ∧ (∀ k : Int, 0 ≤ k → k < n → kdC N (dg p k)) ∧ (∀ k : Int, n ≤ k → k < 4 → dg p k = 0) := by
  obtain ⟨a1, a2, q, q0, q4, b1, b2⟩ := hp
  have e : q = n := by
    rcases Int.lt_trichotomy q n with h5 | h5 | h5
    · exact absurd (b2 q (Int.le_refl _) (by omega)) (h.1 q q0 h5)
    · exact h5
    · have h6 := h.2 (by omega)
      have h7 := (b1 n h0 h5).1
      omega
  subst e
  exact ⟨a1, a2, b1, b2⟩
theorem pk_nk {p n N k : Int} (h : hMn p n) (h0 : 0 ≤ n) (h4 : n ≤ 4) (k0 : 0 ≤ k) (kn : k < n) (hk : ¬ kdC N (dg p k)) : ¬ pkC N p := fun hp => hk ((pk_q h h0 h4 hp).2.2.1 k k0 kn)
theorem pk_nz {p n N k : Int} (h : hMn p n) (h0 : 0 ≤ n) (h4 : n ≤ 4) (k0 : n ≤ k) (kn : k < 4) (hk : dg p k ≠ 0) : ¬ pkC N p := fun hp => hk ((pk_q h h0 h4 hp).2.2.2 k k0 kn)
theorem pk_na {p n N : Int} (h : hMn p n) (h0 : 0 ≤ n) (h4 : n ≤ 4) (hz : yshr p (5 * n) ≠ 0) : ¬ pkC N p := fun hp => by
  obtain ⟨a1, a2, -, a4⟩ := pk_q h h0 h4 hp
  exact hz (ab1 a1 a2 h0 h4 a4)
theorem kd_0 {p N : Int} : ∀ k : Int, 0 ≤ k → k < 0 → kdC N (dg p k) := fun k h1 h2 => absurd h1 (by omega)
theorem kd_s {p n N : Int} (h : ∀ k : Int, 0 ≤ k → k < n → kdC N (dg p k)) (hn : kdC N (dg p n)) : ∀ k : Int, 0 ≤ k → k < n + 1 → kdC N (dg p k) := by
  intro k h1 h2
  by_cases e : k = n
  · rw [e]; exact hn
  · exact h k h1 (by omega)
/-- the model's way -/
def pkM (p n N k : Int) : Prop := ∀ q : Int, 0 ≤ q → q < k → (q < n → kdC N (dg p q)) ∧ (n ≤ q → dg p q = 0)
theorem pkM_0 {p n N : Int} : pkM p n N 0 := fun q h1 h2 => absurd h1 (by omega)
theorem pkM_s {p n N k : Int} (h : pkM p n N k) (h1 : k < n → kdC N (dg p k)) (h2 : n ≤ k → dg p k = 0) : pkM p n N (k + 1) := by
  intro q q0 q1
  by_cases e : q = k
  · rw [e]; exact ⟨h1, h2⟩
  · exact h q q0 (by omega)
theorem pkM_y {p n N : Int} (h0 : 0 ≤ p) (h1 : p < 1048576) (hn : 0 ≤ n) (h4 : n ≤ 4) (h : pkM p n N 4) : pkC N p :=
  ⟨h0, h1, n, hn, h4, fun k k0 k1 => (h k k0 (by omega)).1 k1, fun k k0 k1 => (h k (by omega) k1).2 k0⟩
/-! methods, on both sides -/
def RMe (S : yS) : Prop := S.f 9 8 = S.f 43 10 ∧ ∀ j : Nat, S.a 52 j = S.a 10 j ∧ S.a 53 j = S.a 11 j ∧ S.a 54 j = S.a 12 j ∧ S.a 55 j = S.a 13 j ∧ S.a 56 j = S.a 14 j
theorem RMex : yX [(9, 8), (43, 10)] [10, 11, 12, 13, 14, 52, 53, 54, 55, 56] RMe := by
  intro S S' hf ha h
  refine ⟨?_, fun j => ?_⟩
  · rw [hf 9 8 rfl, hf 43 10 rfl]; exact h.1
  · rw [ha 10 rfl, ha 11 rfl, ha 12 rfl, ha 13 rfl, ha 14 rfl, ha 52 rfl, ha 53 rfl, ha 54 rfl, ha 55 rfl, ha 56 rfl]
    exact h.2 j
def flC (S : yS) (t fl : Int) : Prop := 0 ≤ fl ∧ fl ≤ 63 ∧ (yand fl 7 = 0 ∨ yand fl 7 = 1 ∨ yand fl 7 = 2 ∨ yand fl 7 = 4) ∧ (S.a 2 t.toNat ≠ 0 → yand fl (-33) = 1) ∧ (S.a 2 t.toNat = 0 → yand fl 32 = 0 ∨ (yand (S.a 3 t.toNat) 4 ≠ 0 ∧ yand fl 28 = 0))
def nsC (S : yS) (n t w p b : Int) : Prop := ∀ m : Nat, (m : Int) < n → ¬ (S.a 10 m = t ∧ S.a 11 m = w ∧ S.a 13 m = p ∧ S.a 14 m = b)
theorem nsC_0 {S : yS} {t w p b : Int} : nsC S 0 t w p b := fun m h => absurd h (by omega)
theorem nsC_s {S : yS} {n t w p b : Int} (h : nsC S n t w p b) (h0 : 0 ≤ n) (hn : ¬ (S.a 10 n.toNat = t ∧ S.a 11 n.toNat = w ∧ S.a 13 n.toNat = p ∧ S.a 14 n.toNat = b)) : nsC S (n + 1) t w p b := by
  intro m hm
  by_cases e : m = n.toNat
  · rw [e]; exact hn
  · exact h m (by omega)
def mbC (S : yS) (t w fl p b : Int) : Prop := (4 ≤ t ∧ t < S.f 1 7) ∧ (0 ≤ w ∧ w ≤ 10) ∧ flC S t fl ∧ pkC (S.f 1 7) p ∧ (b = 0 ∨ kdC (S.f 1 7) b) ∧ (w = 10 → S.a 2 t.toNat = 0 ∧ yand fl (-8) = 0 ∧ b = 0) ∧ nsC S (S.f 9 8) t w p b
def nsM (S : yS) (n t w p b : Int) : Prop := ∀ m : Nat, (m : Int) < n → ¬ (S.a 52 m = t ∧ S.a 53 m = w ∧ S.a 55 m = p ∧ S.a 56 m = b)
theorem nsM_0 {S : yS} {t w p b : Int} : nsM S 0 t w p b := fun m h => absurd h (by omega)
theorem nsM_s {S : yS} {n t w p b : Int} (h : nsM S n t w p b) (h0 : 0 ≤ n) (hn : ¬ (S.a 52 n.toNat = t ∧ S.a 53 n.toNat = w ∧ S.a 55 n.toNat = p ∧ S.a 56 n.toNat = b)) : nsM S (n + 1) t w p b := by
  intro m hm
  by_cases e : m = n.toNat
  · rw [e]; exact hn
  · exact h m (by omega)
def fmM (S : yS) (t w fl b : Int) : Prop := (yand fl 7 = 0 ∨ yand fl 7 = 1 ∨ yand fl 7 = 2 ∨ yand fl 7 = 4) ∧ (w = 10 → S.a 44 t.toNat = 0 ∧ fl ≤ 7 ∧ b = 0) ∧ (0 < yand fl 32 → yand fl 28 ≤ 0 ∧ (S.a 44 t.toNat ≠ 0 ∨ S.a 47 t.toNat ≠ 0)) ∧ (S.a 44 t.toNat ≠ 0 → fl = 1 ∨ fl = 33)
def mbM (S : yS) (t w fl p b : Int) : Prop := (4 ≤ t ∧ t < S.f 43 1) ∧ (0 ≤ w ∧ w ≤ 10) ∧ (0 ≤ fl ∧ fl ≤ 63) ∧ pkC (S.f 43 1) p ∧ (0 ≤ b ∧ (0 < b → kdC (S.f 43 1) b)) ∧ fmM S t w fl b ∧ nsM S (S.f 43 10) t w p b
def flT (k : Nat) : Bool := decide ((yand (k : Int) (-33) = 1 ↔ (k : Int) = 1 ∨ (k : Int) = 33) ∧ (yand (k : Int) (-8) = 0 ↔ (k : Int) ≤ 7) ∧ ((k : Int) = 1 → yand (k : Int) 32 = 0) ∧ ((k : Int) = 33 → yand (k : Int) 28 = 0) ∧ 0 ≤ yand (k : Int) 28 ∧ 0 ≤ yand (k : Int) 32)
theorem flT_all : (List.range 64).all flT = true := by decide +kernel
theorem flT_of {fl : Int} (h0 : 0 ≤ fl) (h1 : fl ≤ 63) : (yand fl (-33) = 1 ↔ fl = 1 ∨ fl = 33) ∧ (yand fl (-8) = 0 ↔ fl ≤ 7) ∧ (fl = 1 → yand fl 32 = 0) ∧ (fl = 33 → yand fl 28 = 0) ∧ 0 ≤ yand fl 28 ∧ 0 ≤ yand fl 32 := by
  have h := List.all_eq_true.mp flT_all fl.toNat (List.mem_range.mpr (by omega))
  have h := of_decide_eq_true h
  rw [show ((fl.toNat : Nat) : Int) = fl by omega] at h
  exact h
theorem mbC_M {S S1 : yS} {t w fl p b : Int} (h : RT S) (hm : RMe S) (e1 : S1.f 43 1 = S.f 43 1) (e2 : ∀ j, S1.a 44 j = S.a 44 j) (e3 : ∀ j, S1.a 47 j = S.a 47 j) (e4 : S1.f 43 10 = S.f 43 10) (e5 : ∀ j, S1.a 52 j = S.a 52 j) (e6 : ∀ j, S1.a 53 j = S.a 53 j) (e7 : ∀ j, S1.a 55 j = S.a 55 j) (e8 : ∀ j, S1.a 56 j = S.a 56 j) : mbC S t w fl p b ↔ mbM S1 t w fl p b := by
  obtain ⟨h1, -, h4⟩ := h
  obtain ⟨m1, m2⟩ := hm
  obtain ⟨g1, -, -, g4, -⟩ := h4 t.toNat
  have hns : nsC S (S.f 9 8) t w p b ↔ nsM S1 (S1.f 43 10) t w p b := by
    unfold nsC nsM
    constructor
    · intro q m hm
      rw [e5, e6, e7, e8, (m2 m).1, (m2 m).2.1, (m2 m).2.2.2.1, (m2 m).2.2.2.2]
      exact q m (by omega)
    · intro q m hm
      have := q m (by omega)
      rw [e5, e6, e7, e8, (m2 m).1, (m2 m).2.1, (m2 m).2.2.2.1, (m2 m).2.2.2.2] at this
      exact this
  unfold mbC mbM
  rw [e1, ← h1, hns]
  constructor
  · rintro ⟨a1, a2, ⟨f1, f2, f3, f4, f5⟩, a4, a5, a6, a7⟩
    obtain ⟨t1, t2, t3, t4, t5, t6⟩ := flT_of f1 f2
    refine ⟨a1, a2, ⟨f1, f2⟩, a4, ⟨?_, ?_⟩, ⟨f3, ?_, ?_, ?_⟩, a7⟩
    · rcases a5 with q | q
      · omega
      · have := q.1; omega
    · intro hb
      rcases a5 with q | q
      · omega
      · exact q
    · intro hw
      obtain ⟨c1, c2, c3⟩ := a6 hw
      exact ⟨by rw [e2, g1]; exact c1, t2.mp c2, c3⟩
    · intro h32
      rw [e2, e3, g1]
      by_cases hi : S.a 2 t.toNat = 0
      · rcases f5 hi with q | ⟨q1, q2⟩
        · omega
        · exact ⟨by omega, Or.inr (by omega)⟩
      · have c1 := t1.mp (f4 hi)
        rcases c1 with c1 | c1
        · have := t3 c1; omega
        · have := t4 c1; exact ⟨by omega, Or.inl hi⟩
    · intro hi
      rw [e2, g1] at hi
      exact t1.mp (f4 hi)
  · rintro ⟨a1, a2, ⟨f1, f2⟩, a4, ⟨a5, a5b⟩, ⟨f3, f6, f7, f8⟩, a7⟩
    obtain ⟨t1, t2, t3, t4, t5, t6⟩ := flT_of f1 f2
    refine ⟨a1, a2, ⟨f1, f2, f3, ?_, ?_⟩, a4, ?_, ?_, a7⟩
    · intro hi
      exact t1.mpr (f8 (by rw [e2, g1]; exact hi))
    · intro hi
      by_cases h32 : yand fl 32 = 0
      · exact Or.inl h32
      · obtain ⟨q1, q2⟩ := f7 (by omega)
        rw [e2, e3, g1] at q2
        rcases q2 with q2 | q2
        · exact absurd hi q2
        · exact Or.inr ⟨by omega, by omega⟩
    · by_cases hb : b = 0
      · exact Or.inl hb
      · exact Or.inr (a5b (by omega))
    · intro hw
      obtain ⟨c1, c2, c3⟩ := f6 hw
      rw [e2, g1] at c1
      exact ⟨c1, t2.mpr c2, c3⟩
def cMe (S S1 : yS) (t w fl p b : Int) : Prop := S1.f 9 8 = S.f 9 8 + 1 ∧ (∀ j, S1.a 10 j = (ysa S 10 (S.f 9 8).toNat t).a 10 j) ∧ (∀ j, S1.a 11 j = (ysa S 11 (S.f 9 8).toNat w).a 11 j) ∧ (∀ j, S1.a 12 j = (ysa S 12 (S.f 9 8).toNat fl).a 12 j) ∧ (∀ j, S1.a 13 j = (ysa S 13 (S.f 9 8).toNat p).a 13 j) ∧ (∀ j, S1.a 14 j = (ysa S 14 (S.f 9 8).toNat b).a 14 j)
theorem cMe81 {S S1 : yS} {t w fl p b z : Int} {j : Nat} (h : cMe S S1 t w fl p b) : cMe S (ysa S1 81 j z) t w fl p b := h
def mMe (S S1 : yS) (t w fl p b : Int) : Prop := S1.f 43 10 = S.f 43 10 + 1 ∧ (∀ j, S1.a 52 j = (ysa S 52 (S.f 43 10).toNat t).a 52 j) ∧ (∀ j, S1.a 53 j = (ysa S 53 (S.f 43 10).toNat w).a 53 j) ∧ (∀ j, S1.a 54 j = (ysa S 54 (S.f 43 10).toNat fl).a 54 j) ∧ (∀ j, S1.a 55 j = (ysa S 55 (S.f 43 10).toNat p).a 55 j) ∧ (∀ j, S1.a 56 j = (ysa S 56 (S.f 43 10).toNat b).a 56 j)
def sMe (S S1 : yS) : Prop := S1.f 43 10 = S.f 43 10 ∧ ∀ j, S1.a 52 j = S.a 52 j ∧ S1.a 53 j = S.a 53 j ∧ S1.a 54 j = S.a 54 j ∧ S1.a 55 j = S.a 55 j ∧ S1.a 56 j = S.a 56 j
def hMe (S S1 : yS) (t w fl p b z : Int) : Prop := (z = 0 ∧ mbC S t w fl p b ∧ S.f 9 8 ≤ 59 ∧ S1.a 81 (0 : Int).toNat = S.f 9 8 ∧ cMe S S1 t w fl p b) ∨ (z = 1 ∧ ¬ mbC S t w fl p b ∧ S1.f = S.f ∧ S1.a = S.a) ∨ (z = 2 ∧ mbC S t w fl p b ∧ 60 ≤ S.f 9 8 ∧ S1.f = S.f ∧ S1.a = S.a)
def mMeQ (S S1 : yS) (t w fl p b z : Int) : Prop := (S1.f 43 0 = 0 ∧ mbM S t w fl p b ∧ S.f 43 10 ≤ 59 ∧ z = S.f 43 10 ∧ mMe S S1 t w fl p b) ∨ (S1.f 43 0 = 1 ∧ ¬ mbM S t w fl p b ∧ sMe S S1) ∨ (S1.f 43 0 = 2 ∧ mbM S t w fl p b ∧ S.f 43 10 = 60 ∧ sMe S S1)
theorem RMe_method {S S1 S2 : yS} {t w fl p b k z : Int} {MF1 MF2 : List (Nat × Nat)} {MA1 MA2 : List Nat} (h : RT S) (hm : RMe S) (hC : hMe S S1 t w fl p b k) (hF1 : yFr MF1 MA1 S S1) (s1 : ydj2 [(43, 10), (43, 1)] MF1 = true) (s2 : ydj1 [52, 53, 54, 55, 56, 44, 47] MA1 = true) (hM : mMeQ S1 S2 t w fl p b z) (hF2 : yFr MF2 MA2 S1 S2) (s3 : ydj2 [(9, 8)] MF2 = true) (s4 : ydj1 [10, 11, 12, 13, 14] MA2 = true) : RMe S2 ∧ S2.f 43 0 = k ∧ (k = 0 → S1.a 81 (0 : Int).toNat = z) := by
  have f1 : S1.f 43 10 = S.f 43 10 := hF1.f (ydj2_of s1 rfl)
  have f0 : S1.f 43 1 = S.f 43 1 := hF1.f (ydj2_of s1 rfl)
  have a52 : ∀ j, S1.a 52 j = S.a 52 j := fun j => hF1.a (ydj1_of s2 rfl) j
  have a53 : ∀ j, S1.a 53 j = S.a 53 j := fun j => hF1.a (ydj1_of s2 rfl) j
  have a54 : ∀ j, S1.a 54 j = S.a 54 j := fun j => hF1.a (ydj1_of s2 rfl) j
  have a55 : ∀ j, S1.a 55 j = S.a 55 j := fun j => hF1.a (ydj1_of s2 rfl) j
  have a56 : ∀ j, S1.a 56 j = S.a 56 j := fun j => hF1.a (ydj1_of s2 rfl) j
  have a44 : ∀ j, S1.a 44 j = S.a 44 j := fun j => hF1.a (ydj1_of s2 rfl) j
  have a47 : ∀ j, S1.a 47 j = S.a 47 j := fun j => hF1.a (ydj1_of s2 rfl) j
  have f2 : S2.f 9 8 = S1.f 9 8 := hF2.f (ydj2_of s3 rfl)
  have b0 : ∀ j, S2.a 10 j = S1.a 10 j := fun j => hF2.a (ydj1_of s4 rfl) j
  have b1 : ∀ j, S2.a 11 j = S1.a 11 j := fun j => hF2.a (ydj1_of s4 rfl) j
  have b2 : ∀ j, S2.a 12 j = S1.a 12 j := fun j => hF2.a (ydj1_of s4 rfl) j
  have b3 : ∀ j, S2.a 13 j = S1.a 13 j := fun j => hF2.a (ydj1_of s4 rfl) j
  have b4 : ∀ j, S2.a 14 j = S1.a 14 j := fun j => hF2.a (ydj1_of s4 rfl) j
  have hcm := mbC_M (t := t) (w := w) (fl := fl) (p := p) (b := b) h hm f0 a44 a47 f1 a52 a53 a55 a56
  obtain ⟨h1, h4⟩ := hm
  have same : S1.f = S.f → S1.a = S.a → sMe S1 S2 → RMe S2 := by
    intro q1 q2 q3
    obtain ⟨q3, q4⟩ := q3
    refine ⟨by rw [f2, q3, q1]; exact h1, fun j => ?_⟩
    obtain ⟨r1, r2, r3, r4, r5⟩ := q4 j
    rw [b0, b1, b2, b3, b4, r1, r2, r3, r4, r5, q2]
    exact h4 j
  rcases hC with ⟨rfl, c1, c2, c3, c4⟩ | ⟨rfl, c1, c2, c3⟩ | ⟨rfl, c1, c2, c3, c4⟩
  · rcases hM with ⟨m1, m2, m3, m4, m5⟩ | ⟨m1, m2, m3⟩ | ⟨m1, m2, m3, m4⟩
    · refine ⟨?_, m1, fun _ => by omega⟩
      obtain ⟨t1, t2, t3, t4, t5, t6⟩ := c4
      obtain ⟨v1, v2, v3, v4, v5, v6⟩ := m5
      have en : (S1.f 43 10).toNat = (S.f 9 8).toNat := by rw [f1, h1]
      rw [en] at v2 v3 v4 v5 v6
      refine ⟨by omega, fun j => ?_⟩
      rw [b0, b1, b2, b3, b4, v2, v3, v4, v5, v6, t2, t3, t4, t5, t6]
      by_cases hj : j = (S.f 9 8).toNat
      · subst hj
        rw [ysa_eq, ysa_eq, ysa_eq, ysa_eq, ysa_eq, ysa_eq, ysa_eq, ysa_eq, ysa_eq, ysa_eq]
        exact ⟨rfl, rfl, rfl, rfl, rfl⟩
      · rw [ysa_ne (Or.inr hj), ysa_ne (Or.inr hj), ysa_ne (Or.inr hj), ysa_ne (Or.inr hj), ysa_ne (Or.inr hj), ysa_ne (Or.inr hj), ysa_ne (Or.inr hj), ysa_ne (Or.inr hj), ysa_ne (Or.inr hj), ysa_ne (Or.inr hj), a52, a53, a54, a55, a56]
        exact h4 j
    · exact absurd (hcm.mp c1) m2
    · exfalso; omega
  · rcases hM with ⟨m1, m2, m3, m4, m5⟩ | ⟨m1, m2, m3⟩ | ⟨m1, m2, m3, m4⟩
    · exact absurd (hcm.mpr m2) c1
    · exact ⟨same c2 c3 m3, m1, fun h => absurd h (by decide)⟩
    · exact absurd (hcm.mpr m2) c1
  · rcases hM with ⟨m1, m2, m3, m4, m5⟩ | ⟨m1, m2, m3⟩ | ⟨m1, m2, m3, m4⟩
    · exfalso; omega
    · exact absurd (hcm.mp c1) m2
    · exact ⟨same c3 c4 m4, m1, fun h => absurd h (by decide)⟩
/-! how many bits -/
def bc1 (x : Int) : Int := x - yand (yshr x 1) 1431655765
def bc2 (y : Int) : Int := yand y 858993459 + yand (yshr y 2) 858993459
def bc3 (y : Int) : Int := yand (y + yshr y 4) 252645135
def bc4 (y : Int) : Int := y + yshr y 8
def bc5 (y : Int) : Int := y + yshr y 16
def bcI (x : Int) : Int := yand (bc5 (bc4 (bc3 (bc2 (bc1 x))))) 63
def bcT (k : Nat) : Bool := decide (bcI (k : Int) ≤ 1 ↔ ((k : Int) = 0 ∨ (k : Int) = 1 ∨ (k : Int) = 2 ∨ (k : Int) = 4))
theorem bcT_all : (List.range 8).all bcT = true := by decide +kernel
theorem bcI_7 {x : Int} (h0 : 0 ≤ x) (h1 : x ≤ 7) : bcI x ≤ 1 ↔ (x = 0 ∨ x = 1 ∨ x = 2 ∨ x = 4) := by
  have h := List.all_eq_true.mp bcT_all x.toNat (List.mem_range.mpr (by omega))
  have h := of_decide_eq_true h
  rw [show ((x.toNat : Nat) : Int) = x by omega] at h
  exact h

/-! bits -/
def bt (x y : Int) : Prop := yand (yshr x y) 1 ≠ 0
theorem bt_iff {x y : Int} (h0 : 0 ≤ y) (h1 : y < 32) : bt x y ↔ (enc x).testBit y.toNat = true := by
  have e1 : enc y = y.toNat := by
    have := enc_nat h0 (by omega : y < 4294967296)
    omega
  have e2 : enc (yshr x y) = enc x >>> y.toNat := by
    unfold yshr
    rw [enc_dec (yshr_lt x y), e1]
    rfl
  have e3 : enc 1 = 1 := rfl
  have e4 : Nat.land (enc (yshr x y)) (enc 1) = 1 &&& (enc x >>> y.toNat) := by
    rw [e2, e3]
    exact Nat.and_comm _ _
  have hlt : 1 &&& (enc x >>> y.toNat) ≤ 1 := Nat.and_le_left
  unfold bt yand
  rw [e4]
  constructor
  · intro h
    show (1 &&& (enc x >>> y.toNat) != 0) = true
    rw [bne_iff_ne]
    intro h9
    rw [h9] at h
    exact h rfl
  · intro h h9
    have h : (1 &&& (enc x >>> y.toNat) != 0) = true := h
    rw [bne_iff_ne] at h
    exact h (dec_zero (Nat.lt_of_le_of_lt hlt (by decide)) h9)
theorem bt_or {a b y : Int} (h0 : 0 ≤ y) (h1 : y < 32) : bt (yor a b) y ↔ bt a y ∨ bt b y := by
  have e : enc (yor a b) = enc a ||| enc b := by
    unfold yor
    rw [enc_dec (yor_lt a b)]
    rfl
  rw [bt_iff h0 h1, bt_iff h0 h1, bt_iff h0 h1, e, Nat.testBit_or, Bool.or_eq_true]
theorem bt_shl {n y : Int} (n0 : 0 ≤ n) (n1 : n < 32) (h0 : 0 ≤ y) (h1 : y < 32) : bt (yshl 1 n) y ↔ y = n := by
  have e1 : enc n = n.toNat := by
    have := enc_nat n0 (by omega : n < 4294967296)
    omega
  have e2 : Nat.shiftLeft (enc 1) (enc n) = 2 ^ n.toNat := by
    have e3 : enc 1 = 1 := rfl
    rw [e1, e3]
    show 1 <<< n.toNat = 2 ^ n.toNat
    rw [Nat.shiftLeft_eq, Nat.one_mul]
  have hlt : 2 ^ n.toNat < 4294967296 := Nat.lt_of_lt_of_le (Nat.pow_lt_pow_right (by decide) (by omega : n.toNat < 32)) (by decide)
  have e : enc (yshl 1 n) = 2 ^ n.toNat := by
    unfold yshl
    rw [e2, enc_dec hlt]
  rw [bt_iff h0 h1, e]
  by_cases h : n.toNat = y.toNat
  · rw [h, Nat.testBit_two_pow_self]
    exact ⟨fun _ => by omega, fun _ => rfl⟩
  · rw [Nat.testBit_two_pow_of_ne h]
    exact ⟨fun h9 => (by cases h9), fun h9 => absurd h9 (by omega)⟩
/-! who is below whom, by the class's rows and by the other's -/
def egC (S : yS) (x y : Int) : Prop := (0 ≤ x ∧ x < S.f 1 7) ∧ ((1 ≤ x ∧ y = S.a 5 x.toNat) ∨ ∃ i : Int, 0 ≤ i ∧ i < S.a 7 x.toNat ∧ y = S.a 8 (4 * x + i).toNat)
def rcC (S : yS) (x y : Int) : Prop := ∀ P : Int → Prop, P x → (∀ u v, P u → egC S u v → P v) → P y
def egM (S : yS) (x y : Int) : Prop := (0 ≤ x ∧ x < S.f 43 1) ∧ ((0 ≤ S.a 49 x.toNat ∧ y = S.a 49 x.toNat) ∨ ∃ i : Int, 0 ≤ i ∧ i < S.a 51 x.toNat ∧ y = S.a 50 (4 * x + i).toNat)
def rcM (S : yS) (x y : Int) : Prop := ∀ P : Int → Prop, P x → P 0 → (∀ u v, P u → egM S u v → P v) → P y
theorem rcC_refl {S : yS} {x : Int} : rcC S x x := fun P h _ => h
theorem rcC_step {S : yS} {x u v : Int} (h : rcC S x u) (e : egC S u v) : rcC S x v := fun P p q => q u v (h P p q) e
theorem rcC_trans {S : yS} {x y z : Int} (h : rcC S x y) (h2 : rcC S y z) : rcC S x z := fun P p q => h2 P (h P p q) q
theorem rcC_mono {S S1 : yS} {x y : Int} (e : ∀ u v, egC S u v → egC S1 u v) (h : rcC S x y) : rcC S1 x y := fun P p q => h P p (fun u v pu huv => q u v pu (e u v huv))
theorem rcM_refl {S : yS} {x : Int} : rcM S x x := fun P h _ _ => h
theorem rcM_zero {S : yS} {x : Int} : rcM S x 0 := fun P _ h _ => h
theorem rcM_step {S : yS} {x u v : Int} (h : rcM S x u) (e : egM S u v) : rcM S x v := fun P p p0 q => q u v (h P p p0 q) e
/-- the class's rows name types, and parents are older -/
def FC (S : yS) : Prop := (∀ x : Int, 1 ≤ x → x < S.f 1 7 → 0 ≤ S.a 5 x.toNat ∧ S.a 5 x.toNat < x) ∧ (∀ x i : Int, 0 ≤ x → x < S.f 1 7 → 0 ≤ i → i < S.a 7 x.toNat → 0 ≤ S.a 8 (4 * x + i).toNat ∧ S.a 8 (4 * x + i).toNat < S.f 1 7) ∧ (∀ x : Int, S.f 1 7 ≤ x → S.a 7 x.toNat = 0)
/-- the bits say who is below whom -/
def SU (S : yS) : Prop := ∀ x y : Int, 0 ≤ x → x < S.f 1 7 → 0 ≤ y → y ≤ 19 → (bt (S.a 6 x.toNat) y ↔ rcC S x y)
def RF (S : yS) : Prop := (∀ j : Nat, S.a 51 j = S.a 7 j) ∧ (∀ j : Nat, S.a 50 j = S.a 8 j)
def B2 (S : yS) : Prop := (∀ j : Nat, S.a 2 j = 0 ∨ S.a 2 j = 1) ∧ (∀ j : Nat, j < 4 → S.a 2 j = 0)
def RS (S : yS) : Prop := FC S ∧ SU S ∧ RF S ∧ B2 S
theorem RSx : yX [(1, 7)] [2, 5, 6, 7, 8, 50, 51] RS := by
  intro S S' hf ha h
  have e := hf 1 7 rfl
  have e2 : S'.a 2 = S.a 2 := funext (fun j => ha 2 rfl j)
  have e5 : S'.a 5 = S.a 5 := funext (fun j => ha 5 rfl j)
  have e6 : S'.a 6 = S.a 6 := funext (fun j => ha 6 rfl j)
  have e7 : S'.a 7 = S.a 7 := funext (fun j => ha 7 rfl j)
  have e8 : S'.a 8 = S.a 8 := funext (fun j => ha 8 rfl j)
  have e50 : S'.a 50 = S.a 50 := funext (fun j => ha 50 rfl j)
  have e51 : S'.a 51 = S.a 51 := funext (fun j => ha 51 rfl j)
  unfold RS FC SU RF B2 rcC egC at h ⊢
  rw [e, e2, e5, e6, e7, e8, e50, e51]
  exact h
theorem rc_zero {S : yS} (h : FC S) : ∀ (n : Nat) (x : Int), 0 ≤ x → x < S.f 1 7 → x < n → rcC S x 0 := by
  intro n
  induction n with
  | zero => intro x h0 h1 h3; exact absurd h3 (by omega)
  | succ n ih =>
    intro x h0 h1 h3
    by_cases e : x = 0
    · subst e; exact rcC_refl
    · obtain ⟨p0, p1⟩ := h.1 x (by omega) h1
      exact rcC_trans (rcC_step rcC_refl ⟨⟨h0, h1⟩, Or.inl ⟨by omega, rfl⟩⟩) (ih _ p0 (by omega) (by omega))
theorem rcC_M {S S1 : yS} {t o : Int} (h : RT S) (hs : RS S) (h3 : ∀ j : Nat, S.a 49 j < j) (h0 : 0 ≤ t) (h1 : t < S.f 1 7) (e1 : S1.f 43 1 = S.f 43 1) (e49 : ∀ j, S1.a 49 j = S.a 49 j) (e50 : ∀ j, S1.a 50 j = S.a 50 j) (e51 : ∀ j, S1.a 51 j = S.a 51 j) : rcC S t o ↔ rcM S1 t o := by
  obtain ⟨h7, -, hr⟩ := h
  obtain ⟨hf, -, ⟨r7, r8⟩, ⟨b2, -⟩⟩ := hs
  constructor
  · intro hc P pt p0 pe
    refine hc P pt (fun u v pu huv => ?_)
    obtain ⟨⟨u0, u1⟩, huv⟩ := huv
    obtain ⟨-, -, -, -, -, g6, g7⟩ := hr u.toNat
    rcases huv with ⟨v0, v1⟩ | ⟨i, i0, i1, v1⟩
    · obtain ⟨q0, q1⟩ := hf.1 u v0 u1
      rcases b2 u.toNat with b0 | b1
      · have g := g7 b0
        refine pe u v pu ⟨⟨u0, by omega⟩, Or.inl ⟨?_, ?_⟩⟩
        · rw [e49]; omega
        · rw [e49, v1]; omega
      · rw [v1, (g6 b1).2]; exact p0
    · refine pe u v pu ⟨⟨u0, by omega⟩, Or.inr ⟨i, i0, ?_, ?_⟩⟩
      · rw [e51, r7]; exact i1
      · rw [e50, r8]; exact v1
  · intro hm
    refine hm (rcC S t) rcC_refl (rc_zero hf (t.toNat + 1) t h0 h1 (by omega)) (fun u v pu huv => rcC_step pu ?_)
    obtain ⟨⟨u0, u1⟩, huv⟩ := huv
    obtain ⟨-, -, -, -, -, g6, g7⟩ := hr u.toNat
    rcases huv with ⟨v0, v1⟩ | ⟨i, i0, i1, v1⟩
    · rw [e49] at v0 v1
      have q := h3 u.toNat
      rcases b2 u.toNat with b0 | b1
      · have g := g7 b0
        exact ⟨⟨u0, by omega⟩, Or.inl ⟨by omega, by omega⟩⟩
      · have g := (g6 b1).1
        exact absurd v0 (by omega)
    · rw [e51, r7] at i1
      rw [e50, r8] at v1
      exact ⟨⟨u0, by omega⟩, Or.inr ⟨i, i0, i1, v1⟩⟩
/-- the other's rows name types, and parents are older -/
def FM (S : yS) : Prop := (∀ x : Int, 0 ≤ x → x < S.f 43 1 → S.a 49 x.toNat < x) ∧ (∀ x i : Int, 0 ≤ x → x < S.f 43 1 → 0 ≤ i → i < S.a 51 x.toNat → 0 ≤ S.a 50 (4 * x + i).toNat ∧ S.a 50 (4 * x + i).toNat < S.f 43 1)
theorem FM_of {S S1 : yS} (h : RT S) (hs : RS S) (h3 : ∀ j : Nat, S.a 49 j < j) (e1 : S1.f 43 1 = S.f 43 1) (e49 : ∀ j, S1.a 49 j = S.a 49 j) (e50 : ∀ j, S1.a 50 j = S.a 50 j) (e51 : ∀ j, S1.a 51 j = S.a 51 j) : FM S1 := by
  obtain ⟨h7, -, -⟩ := h
  obtain ⟨hf, -, ⟨r7, r8⟩, -⟩ := hs
  refine ⟨fun x x0 x1 => ?_, fun x i x0 x1 i0 i1 => ?_⟩
  · rw [e49]
    have := h3 x.toNat
    omega
  · rw [e51, r7] at i1
    rw [e50, r8, e1]
    have := hf.2.1 x i x0 (by omega) i0 i1
    omega
/-! how the other finds out: its row of marks -/
def cn (S : yS) : Nat → Nat
  | 0 => 0
  | n + 1 => cn S n + (if S.a 68 n = 0 then 0 else 1)
theorem cn_le (S : yS) : ∀ n, cn S n ≤ n := by
  intro n
  induction n with
  | zero => exact Nat.le_refl 0
  | succ n ih =>
    show cn S n + (if S.a 68 n = 0 then 0 else 1) ≤ n + 1
    split <;> omega
theorem cn_set {S : yS} {v : Nat} : ∀ n, cn S n ≤ cn (ysa S 68 v 1) n ∧ (S.a 68 v = 0 → v < n → cn S n + 1 ≤ cn (ysa S 68 v 1) n) := by
  intro n
  induction n with
  | zero => exact ⟨Nat.le_refl 0, fun _ h => absurd h (by omega)⟩
  | succ n ih =>
    have e1 : cn S (n + 1) = cn S n + (if S.a 68 n = 0 then 0 else 1) := rfl
    have e2 : cn (ysa S 68 v 1) (n + 1) = cn (ysa S 68 v 1) n + (if (ysa S 68 v 1).a 68 n = 0 then 0 else 1) := rfl
    rw [e1, e2]
    by_cases e : n = v
    · subst e
      rw [ysa_eq, if_neg (by decide : ¬ (1 : Int) = 0)]
      refine ⟨?_, fun h _ => ?_⟩
      · have := ih.1
        split <;> omega
      · rw [if_pos h]
        have := ih.1
        omega
    · rw [ysa_ne (Or.inr e)]
      refine ⟨?_, fun h h2 => ?_⟩
      · have := ih.1
        omega
      · have := ih.2 h (by omega)
        omega
def UC (S0 : yS) (t : Int) : Prop := FM S0 ∧ 0 ≤ t ∧ t < S0.f 43 1
def uSnd (S S0 : yS) (t : Int) : Prop := ∀ j : Nat, (j : Int) < S0.f 43 1 → S.a 68 j ≠ 0 → rcM S0 t j
def uCl (S S0 : yS) : Prop := ∀ u v : Int, S.a 68 u.toNat ≠ 0 → egM S0 u v → S.a 68 v.toNat ≠ 0
def uP (S S0 : yS) (k : Int) : Prop := ∀ u v : Int, u < k → S.a 68 u.toNat ≠ 0 → egM S0 u v → S.a 68 v.toNat ≠ 0
def uQ (S S0 : yS) (k j : Int) : Prop := (0 ≤ S0.a 49 k.toNat → S.a 68 (S0.a 49 k.toNat).toNat ≠ 0) ∧ ∀ i : Int, 0 ≤ i → i < j → S.a 68 (S0.a 50 (4 * k + i).toNat).toNat ≠ 0
def uB (S : yS) (t : Int) : Prop := S.a 68 t.toNat ≠ 0 ∧ S.a 68 0 ≠ 0
def uIn (S : yS) (k t : Int) : Prop := ∀ j : Nat, (j : Int) < k → (S.a 68 j ≠ 0 ↔ (j : Int) = t)
def I26 (S S0 : yS) (t r : Int) : Prop := UC S0 t → uSnd S S0 t ∧ uB S t ∧ (uCl S S0 ∨ r + 1 ≤ cn S (S0.f 43 1).toNat)
def I32 (S S0 : yS) (t r k : Int) : Prop := UC S0 t → uSnd S S0 t ∧ uB S t ∧ (uCl S S0 ∨ r + 2 ≤ cn S (S0.f 43 1).toNat ∨ (r + 1 ≤ cn S (S0.f 43 1).toNat ∧ uP S S0 k))
def I55 (S S0 : yS) (t r k j : Int) : Prop := UC S0 t → uSnd S S0 t ∧ uB S t ∧ S.a 68 k.toNat ≠ 0 ∧ (uCl S S0 ∨ r + 2 ≤ cn S (S0.f 43 1).toNat ∨ (r + 1 ≤ cn S (S0.f 43 1).toNat ∧ uP S S0 k ∧ uQ S S0 k j))
theorem uIn_0 {S : yS} {t : Int} : uIn S 0 t := fun j h => absurd h (by omega)
theorem uIn_s {S : yS} {k t x : Int} (h : uIn S k t) (k0 : 0 ≤ k) (hx : x ≠ 0 ↔ k = t) : uIn (ysa S 68 k.toNat x) (k + 1) t := by
  intro j hj
  by_cases e : j = k.toNat
  · subst e
    rw [ysa_eq, hx]
    omega
  · rw [ysa_ne (Or.inr e)]
    exact h j (by omega)
theorem m_set {S : yS} {v j : Nat} : (ysa S 68 v 1).a 68 j ≠ 0 ↔ (S.a 68 j ≠ 0 ∨ j = v) := by
  by_cases e : j = v
  · subst e
    rw [ysa_eq]
    exact ⟨fun _ => Or.inr rfl, fun _ => by decide⟩
  · rw [ysa_ne (Or.inr e)]
    exact ⟨fun h => Or.inl h, fun h => h.resolve_right e⟩
theorem cn_pos {S : yS} {v : Nat} (h : S.a 68 v ≠ 0) : ∀ n, v < n → 1 ≤ cn S n := by
  intro n
  induction n with
  | zero => intro h; exact absurd h (by omega)
  | succ n ih =>
    intro hv
    show 1 ≤ cn S n + (if S.a 68 n = 0 then 0 else 1)
    by_cases e : v = n
    · subst e; rw [if_neg h]; omega
    · have := ih (by omega); omega
theorem I26_0 {S S0 : yS} {k t : Int} (h : uIn S k t) (hk : S0.f 43 1 ≤ k) : I26 (ysa S 68 (0 : Int).toNat 1) S0 t 0 := by
  intro hu
  obtain ⟨-, t0, t1⟩ := hu
  have hb : (ysa S 68 (0 : Int).toNat 1).a 68 t.toNat ≠ 0 := m_set.mpr (Or.inl ((h t.toNat (by omega)).mpr (by omega)))
  refine ⟨fun j hj hm => ?_, ⟨hb, m_set.mpr (Or.inr rfl)⟩, Or.inr ?_⟩
  · rcases m_set.mp hm with h9 | h9
    · rw [(h j (by omega)).mp h9]; exact rcM_refl
    · subst h9; exact rcM_zero
  · have := cn_pos hb (S0.f 43 1).toNat (by omega)
    omega
theorem I32_0 {S S0 : yS} {t r : Int} (h : I26 S S0 t r) : I32 S S0 t r 0 := by
  intro hu
  obtain ⟨a, b, c⟩ := h hu
  refine ⟨a, b, ?_⟩
  rcases c with c | c
  · exact Or.inl c
  · exact Or.inr (Or.inr ⟨c, fun u v hu9 _ e => absurd hu9 (by have := e.1.1; omega)⟩)
theorem I26_s {S S0 : yS} {t r k : Int} (h : I32 S S0 t r k) (hk : S0.f 43 1 ≤ k) : I26 S S0 t (r + 1) := by
  intro hu
  obtain ⟨a, b, c⟩ := h hu
  refine ⟨a, b, ?_⟩
  rcases c with c | c | ⟨-, c⟩
  · exact Or.inl c
  · exact Or.inr (by omega)
  · exact Or.inl (fun u v hm e => c u v (by have := e.1.2; omega) hm e)
theorem I32_n {S S0 : yS} {t r k : Int} (h : I32 S S0 t r k) (hm : S.a 68 k.toNat = 0) : I32 S S0 t r (k + 1) := by
  intro hu
  obtain ⟨a, b, c⟩ := h hu
  refine ⟨a, b, ?_⟩
  rcases c with c | c | ⟨d, c⟩
  · exact Or.inl c
  · exact Or.inr (Or.inl c)
  · refine Or.inr (Or.inr ⟨d, fun u v hk hv e => ?_⟩)
    by_cases e9 : u = k
    · subst e9; exact absurd hm hv
    · exact c u v (by omega) hv e
theorem I55_0 {S S0 : yS} {t r k : Int} (h : I32 S S0 t r k) (hm : S.a 68 k.toNat ≠ 0) (hp : S0.a 49 k.toNat < 0) : I55 S S0 t r k 0 := by
  intro hu
  obtain ⟨a, b, c⟩ := h hu
  refine ⟨a, b, hm, ?_⟩
  rcases c with c | c | ⟨d, c⟩
  · exact Or.inl c
  · exact Or.inr (Or.inl c)
  · exact Or.inr (Or.inr ⟨d, c, fun h9 => absurd h9 (by omega), fun i i0 i1 => absurd i1 (by omega)⟩)
/-- a mark is set at the end of an edge from k -/
theorem u_set {S S0 : yS} {t r k v : Int} {Q : yS → Prop} (hu : UC S0 t) (a : uSnd S S0 t) (b : uB S t) (hm : S.a 68 k.toNat ≠ 0) (k0 : 0 ≤ k) (k1 : k < S0.f 43 1) (e : egM S0 k v) (v0 : 0 ≤ v) (v1 : v < S0.f 43 1) (hQ : (∀ j : Nat, S.a 68 j ≠ 0 ↔ (ysa S 68 v.toNat 1).a 68 j ≠ 0) → Q S → Q (ysa S 68 v.toNat 1)) (c : uCl S S0 ∨ r + 2 ≤ cn S (S0.f 43 1).toNat ∨ (r + 1 ≤ cn S (S0.f 43 1).toNat ∧ uP S S0 k ∧ Q S)) :
    uSnd (ysa S 68 v.toNat 1) S0 t ∧ uB (ysa S 68 v.toNat 1) t ∧ (ysa S 68 v.toNat 1).a 68 k.toNat ≠ 0 ∧ (uCl (ysa S 68 v.toNat 1) S0 ∨ r + 2 ≤ cn (ysa S 68 v.toNat 1) (S0.f 43 1).toNat ∨ (r + 1 ≤ cn (ysa S 68 v.toNat 1) (S0.f 43 1).toNat ∧ uP (ysa S 68 v.toNat 1) S0 k ∧ Q (ysa S 68 v.toNat 1))) := by
  have hc := cn_set (S := S) (v := v.toNat) (S0.f 43 1).toNat
  refine ⟨fun j hj h9 => ?_, ⟨m_set.mpr (Or.inl b.1), m_set.mpr (Or.inl b.2)⟩, m_set.mpr (Or.inl hm), ?_⟩
  · rcases m_set.mp h9 with h9 | h9
    · exact a j hj h9
    · have h8 : (j : Int) = v := by omega
      have h7 := a k.toNat (by omega) hm
      rw [show ((k.toNat : Nat) : Int) = k by omega] at h7
      rw [h8]
      exact rcM_step h7 e
  · by_cases hv : S.a 68 v.toNat = 0
    · rcases c with c | c | ⟨d, c, q⟩
      · exact absurd hv (c k v hm e)
      · exact Or.inr (Or.inl (by have := hc.1; omega))
      · exact Or.inr (Or.inl (by have := hc.2 hv (by omega); omega))
    · have hs : ∀ j : Nat, S.a 68 j ≠ 0 ↔ (ysa S 68 v.toNat 1).a 68 j ≠ 0 := by
        intro j
        rw [m_set]
        exact ⟨fun h => Or.inl h, fun h => by
          rcases h with h | h
          · exact h
          · rw [h]; exact hv⟩
      rcases c with c | c | ⟨d, c, q⟩
      · exact Or.inl (fun u w h1 h2 => (hs _).mp (c u w ((hs _).mpr h1) h2))
      · exact Or.inr (Or.inl (by have := hc.1; omega))
      · exact Or.inr (Or.inr ⟨by have := hc.1; omega, fun u w h0 h1 h2 => (hs _).mp (c u w h0 ((hs _).mpr h1) h2), hQ hs q⟩)
theorem I55_p {S S0 : yS} {t r k v : Int} (h : I32 S S0 t r k) (hm : S.a 68 k.toNat ≠ 0) (k0 : 0 ≤ k) (k1 : k < S0.f 43 1) (hv : v = S0.a 49 k.toNat) (v0 : 0 ≤ v) : I55 (ysa S 68 v.toNat 1) S0 t r k 0 := by
  intro hu
  obtain ⟨a, b, c⟩ := h hu
  have e : egM S0 k v := ⟨⟨k0, k1⟩, Or.inl ⟨by omega, hv⟩⟩
  have v1 : v < S0.f 43 1 := by have := hu.1.1 k k0 k1; omega
  have h9 := u_set (r := r) (Q := fun _ => True) hu a b hm k0 k1 e v0 v1 (fun _ _ => trivial) (by
    rcases c with c | c | ⟨d, c⟩
    · exact Or.inl c
    · exact Or.inr (Or.inl c)
    · exact Or.inr (Or.inr ⟨d, c, trivial⟩))
  obtain ⟨a2, b2, m2, c2⟩ := h9
  refine ⟨a2, b2, m2, ?_⟩
  rcases c2 with c2 | c2 | ⟨d2, c2, -⟩
  · exact Or.inl c2
  · exact Or.inr (Or.inl c2)
  · refine Or.inr (Or.inr ⟨d2, c2, fun _ => ?_, fun i i0 i1 => absurd i1 (by omega)⟩)
    rw [← hv]
    exact m_set.mpr (Or.inr rfl)
theorem I55_s {S S0 : yS} {t r k j v : Int} (h : I55 S S0 t r k j) (k0 : 0 ≤ k) (k1 : k < S0.f 43 1) (j0 : 0 ≤ j) (j1 : j < S0.a 51 k.toNat) (hv : v = S0.a 50 (4 * k + j).toNat) : I55 (ysa S 68 v.toNat 1) S0 t r k (j + 1) := by
  intro hu
  obtain ⟨a, b, hm, c⟩ := h hu
  have e : egM S0 k v := ⟨⟨k0, k1⟩, Or.inr ⟨j, j0, j1, hv⟩⟩
  have v1 := hu.1.2 k j k0 k1 j0 j1
  rw [← hv] at v1
  have h9 := u_set (r := r) (Q := fun T => uQ T S0 k j) hu a b hm k0 k1 e v1.1 v1.2 (fun hs q => ⟨fun h8 => (hs _).mp (q.1 h8), fun i i0 i1 => (hs _).mp (q.2 i i0 i1)⟩) c
  obtain ⟨a2, b2, m2, c2⟩ := h9
  refine ⟨a2, b2, m2, ?_⟩
  rcases c2 with c2 | c2 | ⟨d2, c2, q1, q2⟩
  · exact Or.inl c2
  · exact Or.inr (Or.inl c2)
  · refine Or.inr (Or.inr ⟨d2, c2, q1, fun i i0 i1 => ?_⟩)
    by_cases e9 : i = j
    · subst e9
      rw [← hv]
      exact m_set.mpr (Or.inr rfl)
    · exact q2 i i0 (by omega)
theorem I32_s {S S0 : yS} {t r k j : Int} (h : I55 S S0 t r k j) (hj : S0.a 51 k.toNat ≤ j) : I32 S S0 t r (k + 1) := by
  intro hu
  obtain ⟨a, b, hm, c⟩ := h hu
  refine ⟨a, b, ?_⟩
  rcases c with c | c | ⟨d, c, q1, q2⟩
  · exact Or.inl c
  · exact Or.inr (Or.inl c)
  · refine Or.inr (Or.inr ⟨d, fun u v hk hv e => ?_⟩)
    by_cases e9 : u = k
    · subst e9
      obtain ⟨-, e⟩ := e
      rcases e with ⟨e0, e1⟩ | ⟨i, i0, i1, e1⟩
      · rw [e1]; exact q1 e0
      · rw [e1]; exact q2 i i0 (by omega)
    · exact c u v (by omega) hv e
theorem I26_end {S S0 : yS} {t r o : Int} (h : I26 S S0 t r) (hr : S0.f 43 1 ≤ r) (hf : FM S0) (t0 : 0 ≤ t) (t1 : t < S0.f 43 1) (o0 : 0 ≤ o) (o1 : o < S0.f 43 1) : S.a 68 o.toNat ≠ 0 ↔ rcM S0 t o := by
  obtain ⟨a, b, c⟩ := h ⟨hf, t0, t1⟩
  have c : uCl S S0 := by
    rcases c with c | c
    · exact c
    · have := cn_le S (S0.f 43 1).toNat
      omega
  constructor
  · intro hm
    have := a o.toNat (by omega) hm
    rwa [show ((o.toNat : Nat) : Int) = o by omega] at this
  · intro hm
    exact hm (fun y => S.a 68 y.toNat ≠ 0) b.1 b.2 (fun u v hu e => c u v hu e)
/-! a type is added -/
def c6T (S S1 : yS) (up : Int) : Prop := ∀ j, S1.a 6 j = (ysa S 6 (S.f 1 7).toNat (yor (yshl 1 (S.f 1 7)) (S.a 6 up.toNat))).a 6 j
theorem rk {A B : yS} {c k : Nat} {z : Int} (h : ysa A c k z = B) (hc : 6 ≠ c) (j : Nat) : B.a 6 j = A.a 6 j := by
  rw [← h]
  exact ysa_ne (Or.inl hc)
theorem rkf {A B : yS} {c k : Nat} {z : Int} (h : ysf A c k z = B) (j : Nat) : B.a 6 j = A.a 6 j := by
  rw [← h]
  rfl
theorem c6_of2 {S S1 S2 S3 : yS} {n up : Nat} {x y : Int} (e0 : ∀ j, S1.a 6 j = S.a 6 j) (h1 : ysa S1 6 n x = S2) (h2 : ysa S2 6 n y = S3) (hy : y = yor (S2.a 6 n) (S2.a 6 up)) (h : up ≠ n) (j : Nat) : S3.a 6 j = (ysa S 6 n (yor x (S.a 6 up))).a 6 j := by
  have a1 : S2.a 6 n = x := by rw [← h1]; exact ysa_eq
  have a2 : S2.a 6 up = S.a 6 up := by rw [← h1, ysa_ne (Or.inr h), e0]
  rw [← h2]
  by_cases e : j = n
  · subst e; rw [ysa_eq, ysa_eq, hy, a1, a2]
  · rw [ysa_ne (Or.inr e), ysa_ne (Or.inr e), ← h1, ysa_ne (Or.inr e), e0]
theorem RSC_type {S S1 : yS} {b fl p up : Int} (hf : FC S) (hs : SU S) (hb : B2 S) (n4 : 4 ≤ S.f 1 7) (n19 : S.f 1 7 ≤ 19) (b01 : b = 0 ∨ b = 1) (u0 : 0 ≤ up) (u1 : up < S.f 1 7) (hc : cTy S S1 b fl p up) (h6 : c6T S S1 up) (e7 : ∀ j, S1.a 7 j = S.a 7 j) (e8 : ∀ j, S1.a 8 j = S.a 8 j) : FC S1 ∧ SU S1 ∧ B2 S1 := by
  obtain ⟨c1, c2, -, -, c5⟩ := hc
  have r5 : ∀ x : Int, 0 ≤ x → x < S.f 1 7 → S1.a 5 x.toNat = S.a 5 x.toNat := fun x x0 x1 => by rw [c5, ysa_ne (Or.inr (by omega))]
  have r5n : S1.a 5 (S.f 1 7).toNat = up := by rw [c5, ysa_eq]
  have r6 : ∀ x : Int, 0 ≤ x → x < S.f 1 7 → S1.a 6 x.toNat = S.a 6 x.toNat := fun x x0 x1 => by rw [h6, ysa_ne (Or.inr (by omega))]
  have r6n : S1.a 6 (S.f 1 7).toNat = yor (yshl 1 (S.f 1 7)) (S.a 6 up.toNat) := by rw [h6, ysa_eq]
  have r7n : S1.a 7 (S.f 1 7).toNat = 0 := by rw [e7]; exact hf.2.2 _ (Int.le_refl _)
  have eg : ∀ u v, egC S u v → egC S1 u v := by
    rintro u v ⟨⟨w0, w1⟩, h⟩
    refine ⟨⟨w0, by omega⟩, ?_⟩
    rcases h with ⟨a, bb⟩ | ⟨i, i0, i1, bb⟩
    · exact Or.inl ⟨a, by rw [r5 u w0 w1]; exact bb⟩
    · exact Or.inr ⟨i, i0, by rw [e7]; exact i1, by rw [e8]; exact bb⟩
  have ge : ∀ u v, egC S1 u v → u ≠ S.f 1 7 → egC S u v := by
    rintro u v ⟨⟨w0, w1⟩, h⟩ hne
    have w2 : u < S.f 1 7 := by omega
    refine ⟨⟨w0, w2⟩, ?_⟩
    rcases h with ⟨a, bb⟩ | ⟨i, i0, i1, bb⟩
    · rw [r5 u w0 w2] at bb
      exact Or.inl ⟨a, bb⟩
    · rw [e7] at i1
      rw [e8] at bb
      exact Or.inr ⟨i, i0, i1, bb⟩
  have gn : ∀ v, egC S1 (S.f 1 7) v → v = up := by
    rintro v ⟨-, h⟩
    rcases h with ⟨-, bb⟩ | ⟨i, i0, i1, -⟩
    · rw [bb, r5n]
    · rw [r7n] at i1
      omega
  have rgv : ∀ u v, egC S u v → 0 ≤ v ∧ v < S.f 1 7 := by
    rintro u v ⟨⟨w0, w1⟩, h⟩
    rcases h with ⟨a, bb⟩ | ⟨i, i0, i1, bb⟩
    · have := hf.1 u a w1
      omega
    · have := hf.2.1 u i w0 w1 i0 i1
      omega
  have old : ∀ x y, 0 ≤ x → x < S.f 1 7 → (rcC S1 x y ↔ rcC S x y) := by
    intro x y x0 x1
    refine ⟨fun h => ?_, rcC_mono eg⟩
    have h9 := h (fun y => rcC S x y ∧ y < S.f 1 7) ⟨rcC_refl, x1⟩ (fun u v pu e => by
      have e9 := ge u v e (by have := pu.2; omega)
      exact ⟨rcC_step pu.1 e9, (rgv u v e9).2⟩)
    exact h9.1
  have new : ∀ y, rcC S1 (S.f 1 7) y ↔ (y = S.f 1 7 ∨ rcC S up y) := by
    intro y
    constructor
    · intro h
      have h9 := h (fun y => y = S.f 1 7 ∨ (rcC S up y ∧ y < S.f 1 7)) (Or.inl rfl) (fun u v pu e => by
        rcases pu with pu | ⟨pu, pl⟩
        · rw [pu] at e
          rw [gn v e]
          exact Or.inr ⟨rcC_refl, u1⟩
        · have e9 := ge u v e (by omega)
          exact Or.inr ⟨rcC_step pu e9, (rgv u v e9).2⟩)
      rcases h9 with h9 | h9
      · exact Or.inl h9
      · exact Or.inr h9.1
    · rintro (h | h)
      · rw [h]; exact rcC_refl
      · exact rcC_trans (rcC_step rcC_refl ⟨⟨by omega, by omega⟩, Or.inl ⟨by omega, r5n.symm⟩⟩) (rcC_mono eg h)
  refine ⟨⟨?_, ?_, ?_⟩, ?_, ?_, ?_⟩
  · intro x x1 x2
    by_cases e : x = S.f 1 7
    · rw [e, r5n]; omega
    · rw [r5 x (by omega) (by omega)]; exact hf.1 x x1 (by omega)
  · intro x i x0 x1 i0 i1
    by_cases e : x = S.f 1 7
    · rw [e, r7n] at i1; omega
    · rw [e7] at i1
      rw [e8]
      have := hf.2.1 x i x0 (by omega) i0 i1
      omega
  · intro x hx
    rw [e7]; exact hf.2.2 x (by omega)
  · intro x y x0 x1 y0 y1
    by_cases e : x = S.f 1 7
    · rw [e, r6n, new, bt_or y0 (by omega), bt_shl (by omega) (by omega) y0 (by omega), hs up y u0 u1 y0 y1]
    · rw [r6 x x0 (by omega), old x y x0 (by omega)]
      exact hs x y x0 (by omega) y0 y1
  · intro j
    rw [c2]
    by_cases e : j = (S.f 1 7).toNat
    · rw [e, ysa_eq]; exact b01
    · rw [ysa_ne (Or.inr e)]; exact hb.1 j
  · intro j hj
    rw [c2, ysa_ne (Or.inr (by omega))]; exact hb.2 j hj
theorem RS_type {S S1 : yS} {b fl p up k : Int} {MF1 : List (Nat × Nat)} {MA1 : List Nat} (h : RS S) (n4 : 4 ≤ S.f 1 7) (hb : b = 0 ∨ b = 1) (hC : hTy S S1 b fl p up k) (h6 : k = 0 → c6T S S1 up) (hF1 : yFr MF1 MA1 S S1) (s2 : ydj1 [7, 8, 50, 51] MA1 = true) : RS S1 := by
  have a7 : ∀ j, S1.a 7 j = S.a 7 j := fun j => hF1.a (ydj1_of s2 rfl) j
  have a8 : ∀ j, S1.a 8 j = S.a 8 j := fun j => hF1.a (ydj1_of s2 rfl) j
  have a50 : ∀ j, S1.a 50 j = S.a 50 j := fun j => hF1.a (ydj1_of s2 rfl) j
  have a51 : ∀ j, S1.a 51 j = S.a 51 j := fun j => hF1.a (ydj1_of s2 rfl) j
  have same : S1.f = S.f → S1.a = S.a → RS S1 := by
    intro q1 q2
    unfold RS FC SU RF B2 rcC egC at h ⊢
    rw [q1, q2]
    exact h
  rcases hC with ⟨rfl, c1, c2, c3, c4⟩ | ⟨rfl, c1, c2, c3⟩ | ⟨rfl, c1, c2, c3, c4⟩
  · obtain ⟨hf, hs, ⟨r7, r8⟩, hb2⟩ := h
    obtain ⟨-, -, -, -, -, -, u0, u1, -⟩ := c1
    obtain ⟨d1, d2, d3⟩ := RSC_type hf hs hb2 n4 c2 hb u0 u1 c4 (h6 rfl) a7 a8
    exact ⟨d1, d2, ⟨fun j => by rw [a51, a7]; exact r7 j, fun j => by rw [a50, a8]; exact r8 j⟩, d3⟩
  · exact same c2 c3
  · exact same c3 c4
/-! an interface is added -/
def imC (S : yS) (t f : Int) : Prop := (4 ≤ t ∧ t < S.f 1 7) ∧ (4 ≤ f ∧ f < S.f 1 7) ∧ S.a 2 f.toNat ≠ 0 ∧ (∀ i : Int, 0 ≤ i → i < S.a 7 t.toNat → S.a 8 (4 * t + i).toNat ≠ f) ∧ S.a 7 t.toNat ≤ 3 ∧ ¬ bt (S.a 6 f.toNat) t
def c6F (S S1 : yS) (t f n : Int) : Prop := ∀ x : Nat, ((x : Int) < n → bt (S.a 6 x) t → S1.a 6 x = yor (S.a 6 x) (S.a 6 f.toNat)) ∧ (¬ ((x : Int) < n ∧ bt (S.a 6 x) t) → S1.a 6 x = S.a 6 x)
def cIf (S S1 : yS) (t f : Int) : Prop := (∀ j, S1.a 7 j = (ysa S 7 t.toNat (S.a 7 t.toNat + 1)).a 7 j) ∧ (∀ j, S1.a 8 j = (ysa S 8 (t * 4 + S.a 7 t.toNat).toNat f).a 8 j)
def cIm (S S1 : yS) (t f : Int) : Prop := cIf S S1 t f ∧ c6F S S1 t f (S.f 1 7)
theorem c6F_0 {S S1 : yS} {t f : Int} (h : ∀ j, S1.a 6 j = S.a 6 j) : c6F S S1 t f 0 := fun x => ⟨fun h9 => absurd h9 (by omega), fun _ => h x⟩
theorem c6F_n {S S1 : yS} {t f k : Int} (h : c6F S S1 t f k) (k0 : 0 ≤ k) (hb : ¬ bt (S1.a 6 k.toNat) t) : c6F S S1 t f (k + 1) := by
  have hk : ¬ bt (S.a 6 k.toNat) t := by rw [(h k.toNat).2 (fun q => absurd q.1 (by omega))] at hb; exact hb
  intro x
  by_cases e : x = k.toNat
  · subst e
    exact ⟨fun _ h9 => absurd h9 hk, fun _ => (h k.toNat).2 (fun q => absurd q.1 (by omega))⟩
  · exact ⟨fun h8 h9 => (h x).1 (by omega) h9, fun h9 => (h x).2 (fun q => h9 ⟨by omega, q.2⟩)⟩
theorem c6F_s {S S1 : yS} {t f k : Int} (h : c6F S S1 t f k) (k0 : 0 ≤ k) (hf : ¬ bt (S.a 6 f.toNat) t) (hb : bt (S1.a 6 k.toNat) t) : c6F S (ysa S1 6 k.toNat (yor (S1.a 6 k.toNat) (S1.a 6 f.toNat))) t f (k + 1) := by
  have e1 : S1.a 6 k.toNat = S.a 6 k.toNat := (h k.toNat).2 (fun q => absurd q.1 (by omega))
  have e2 : S1.a 6 f.toNat = S.a 6 f.toNat := (h f.toNat).2 (fun q => hf q.2)
  rw [e1, e2]
  rw [e1] at hb
  intro x
  by_cases e : x = k.toNat
  · subst e
    rw [ysa_eq]
    exact ⟨fun _ _ => rfl, fun h9 => absurd ⟨by omega, hb⟩ h9⟩
  · rw [ysa_ne (Or.inr e)]
    exact ⟨fun h8 h9 => (h x).1 (by omega) h9, fun h9 => (h x).2 (fun q => h9 ⟨by omega, q.2⟩)⟩
theorem RSC_impl {S S1 : yS} {t f : Int} (hf : FC S) (hs : SU S) (hb : B2 S) (a7 : ∀ j, 0 ≤ S.a 7 j ∧ S.a 7 j ≤ 4) (n20 : S.f 1 7 ≤ 20) (hi : imC S t f) (hc : cIm S S1 t f) (e1 : S1.f 1 7 = S.f 1 7) (e2 : ∀ j, S1.a 2 j = S.a 2 j) (e5 : ∀ j, S1.a 5 j = S.a 5 j) : FC S1 ∧ SU S1 ∧ B2 S1 := by
  obtain ⟨⟨t4, tn⟩, ⟨f4, fn⟩, -, -, t3, nb⟩ := hi
  obtain ⟨⟨c7, c8⟩, c6⟩ := hc
  have r7 : ∀ x : Int, 0 ≤ x → x ≠ t → S1.a 7 x.toNat = S.a 7 x.toNat := fun x x0 hx => by rw [c7, ysa_ne (Or.inr (by omega))]
  have r7t : S1.a 7 t.toNat = S.a 7 t.toNat + 1 := by rw [c7, ysa_eq]
  have r8 : ∀ x i : Int, 0 ≤ x → 0 ≤ i → i < S.a 7 x.toNat → S1.a 8 (4 * x + i).toNat = S.a 8 (4 * x + i).toNat := by
    intro x i x0 i0 i1
    have q1 := a7 x.toNat
    have q2 := a7 t.toNat
    have hne : (4 * x + i).toNat ≠ (t * 4 + S.a 7 t.toNat).toNat := by
      intro h9
      by_cases e : x = t
      · rw [e] at i1 h9; omega
      · omega
    rw [c8, ysa_ne (Or.inr hne)]
  have et : (4 * t + S.a 7 t.toNat).toNat = (t * 4 + S.a 7 t.toNat).toNat := congrArg Int.toNat (by omega)
  have r8t : S1.a 8 (4 * t + S.a 7 t.toNat).toNat = f := by rw [et, c8, ysa_eq]
  have eg : ∀ u v, egC S u v → egC S1 u v := by
    rintro u v ⟨⟨w0, w1⟩, h⟩
    refine ⟨⟨w0, by omega⟩, ?_⟩
    rcases h with ⟨a, bb⟩ | ⟨i, i0, i1, bb⟩
    · exact Or.inl ⟨a, by rw [e5]; exact bb⟩
    · refine Or.inr ⟨i, i0, ?_, by rw [r8 u i w0 i0 i1]; exact bb⟩
      by_cases e : u = t
      · rw [e, r7t]
        rw [e] at i1
        omega
      · rw [r7 u w0 e]; exact i1
  have etf : egC S1 t f := ⟨⟨by omega, by omega⟩, Or.inr ⟨S.a 7 t.toNat, (a7 _).1, by omega, r8t.symm⟩⟩
  have ge : ∀ u v, egC S1 u v → egC S u v ∨ (u = t ∧ v = f) := by
    rintro u v ⟨⟨w0, w1⟩, h⟩
    rw [e1] at w1
    rcases h with ⟨a, bb⟩ | ⟨i, i0, i1, bb⟩
    · rw [e5] at bb
      exact Or.inl ⟨⟨w0, w1⟩, Or.inl ⟨a, bb⟩⟩
    · by_cases e : u = t
      · rw [e, r7t] at i1
        by_cases e9 : i = S.a 7 t.toNat
        · rw [e, e9, r8t] at bb
          exact Or.inr ⟨e, bb⟩
        · have i2 : i < S.a 7 u.toNat := by rw [e]; omega
          rw [r8 u i w0 i0 i2] at bb
          exact Or.inl ⟨⟨w0, w1⟩, Or.inr ⟨i, i0, i2, bb⟩⟩
      · rw [r7 u w0 e] at i1
        rw [r8 u i w0 i0 i1] at bb
        exact Or.inl ⟨⟨w0, w1⟩, Or.inr ⟨i, i0, i1, bb⟩⟩
  have rc : ∀ x y, rcC S1 x y ↔ (rcC S x y ∨ (rcC S x t ∧ rcC S f y)) := by
    intro x y
    constructor
    · intro h
      refine h (fun y => rcC S x y ∨ (rcC S x t ∧ rcC S f y)) (Or.inl rcC_refl) (fun u v pu e => ?_)
      rcases ge u v e with e | ⟨eu, ev⟩
      · rcases pu with pu | ⟨p1, p2⟩
        · exact Or.inl (rcC_step pu e)
        · exact Or.inr ⟨p1, rcC_step p2 e⟩
      · rw [ev]
        rcases pu with pu | ⟨p1, p2⟩
        · rw [eu] at pu
          exact Or.inr ⟨pu, rcC_refl⟩
        · exact Or.inr ⟨p1, rcC_refl⟩
    · rintro (h | ⟨h1, h2⟩)
      · exact rcC_mono eg h
      · exact rcC_trans (rcC_step (rcC_mono eg h1) etf) (rcC_mono eg h2)
  refine ⟨⟨?_, ?_, ?_⟩, ?_, ?_⟩
  · intro x x1 x2
    rw [e5]
    exact hf.1 x x1 (by omega)
  · intro x i x0 x1 i0 i1
    rw [e1] at x1 ⊢
    by_cases e : x = t
    · rw [e, r7t] at i1
      by_cases e9 : i = S.a 7 t.toNat
      · rw [e, e9, r8t]; omega
      · have i2 : i < S.a 7 x.toNat := by rw [e]; omega
        rw [r8 x i x0 i0 i2]
        exact hf.2.1 x i x0 x1 i0 i2
    · rw [r7 x x0 e] at i1
      rw [r8 x i x0 i0 i1]
      exact hf.2.1 x i x0 x1 i0 i1
  · intro x hx
    rw [r7 x (by omega) (by omega)]
    exact hf.2.2 x (by omega)
  · intro x y x0 x1 y0 y1
    rw [e1] at x1
    have q := c6 x.toNat
    have hx := hs x t x0 x1 (by omega) (by omega)
    have hxy := hs x y x0 x1 y0 y1
    have hfy := hs f y (by omega) fn y0 y1
    by_cases hbt : bt (S.a 6 x.toNat) t
    · rw [q.1 (by omega) hbt, bt_or y0 (by omega), rc, hxy, hfy]
      have := hx.mp hbt
      constructor
      · rintro (h | h)
        · exact Or.inl h
        · exact Or.inr ⟨this, h⟩
      · rintro (h | ⟨-, h⟩)
        · exact Or.inl h
        · exact Or.inr h
    · rw [q.2 (fun h9 => hbt h9.2), rc, hxy]
      constructor
      · exact Or.inl
      · rintro (h | ⟨h, -⟩)
        · exact h
        · exact absurd (hx.mpr h) hbt
  · exact ⟨fun j => by rw [e2]; exact hb.1 j, fun j hj => by rw [e2]; exact hb.2 j hj⟩
/-! the other's way -/
def imM (S : yS) (t f : Int) : Prop := (3 < t ∧ t < S.f 43 1) ∧ (0 ≤ f ∧ f < S.f 43 1) ∧ S.a 44 f.toNat ≠ 0 ∧ S.a 51 t.toNat ≤ 3 ∧ ¬ rcM S f t ∧ (∀ i : Int, 0 ≤ i → i < S.a 51 t.toNat → S.a 50 (4 * t + i).toNat ≠ f)
def mIm (S S1 : yS) (t f : Int) : Prop := (∀ j, S1.a 51 j = (ysa S 51 t.toNat (S.a 51 t.toNat + 1)).a 51 j) ∧ (∀ j, S1.a 50 j = (ysa S 50 (4 * t + S.a 51 t.toNat).toNat f).a 50 j)
def sIm (S S1 : yS) : Prop := ∀ j, S1.a 51 j = S.a 51 j ∧ S1.a 50 j = S.a 50 j
def mImQ (S S1 : yS) (t f : Int) : Prop := FM S → (S1.f 43 0 = 0 ∧ imM S t f ∧ mIm S S1 t f) ∨ (S1.f 43 0 = 1 ∧ ¬ imM S t f ∧ sIm S S1)
def hIm (S S1 : yS) (t f z : Int) : Prop := (z = 0 ∧ imC S t f ∧ cIm S S1 t f) ∨ (z = 1 ∧ ¬ imC S t f ∧ S1.f = S.f ∧ S1.a = S.a)
theorem imC_M {S S1 : yS} {t f : Int} (h : RT S) (hs : RS S) (h3 : ∀ j : Nat, S.a 49 j < j) (n20 : S.f 1 7 ≤ 20) (e1 : S1.f 43 1 = S.f 43 1) (e44 : ∀ j, S1.a 44 j = S.a 44 j) (e49 : ∀ j, S1.a 49 j = S.a 49 j) (e50 : ∀ j, S1.a 50 j = S.a 50 j) (e51 : ∀ j, S1.a 51 j = S.a 51 j) : imC S t f ↔ imM S1 t f := by
  have hrc : ∀ x y, 0 ≤ x → x < S.f 1 7 → 0 ≤ y → y ≤ 19 → (bt (S.a 6 x.toNat) y ↔ rcM S1 x y) := fun x y x0 x1 y0 y1 => (hs.2.1 x y x0 x1 y0 y1).trans (rcC_M h hs h3 x0 x1 e1 e49 e50 e51)
  obtain ⟨h7, -, hr⟩ := h
  obtain ⟨hf, -, ⟨r7, r8⟩, hb2⟩ := hs
  have g1 := (hr f.toNat).1
  unfold imC imM
  rw [e1, e44, e51, r7, g1, ← h7]
  constructor
  · rintro ⟨a1, a2, a3, a4, a5, a6⟩
    refine ⟨⟨by omega, a1.2⟩, ⟨by omega, a2.2⟩, a3, a5, fun q => a6 ((hrc f t (by omega) a2.2 (by omega) (by omega)).mpr q), fun i i0 i1 => ?_⟩
    rw [e50, r8]
    exact a4 i i0 i1
  · rintro ⟨a1, a2, a3, a5, a6, a4⟩
    have f4 : 4 ≤ f := by
      rcases Int.lt_or_le f 4 with h9 | h9
      · exact absurd (hb2.2 f.toNat (by omega)) a3
      · exact h9
    refine ⟨⟨by omega, a1.2⟩, ⟨f4, a2.2⟩, a3, fun i i0 i1 => ?_, a5, fun q => a6 ((hrc f t a2.1 a2.2 (by omega) (by omega)).mp q)⟩
    have := a4 i i0 i1
    rw [e50, r8] at this
    exact this
theorem RS_impl {S S1 S2 : yS} {t f k : Int} {MF1 MF2 : List (Nat × Nat)} {MA1 MA2 : List Nat} (h : RT S) (hs : RS S) (h3 : ∀ j : Nat, S.a 49 j < j) (a7 : ∀ j, 0 ≤ S.a 7 j ∧ S.a 7 j ≤ 4) (n20 : S.f 1 7 ≤ 20) (hC : hIm S S1 t f k) (hF1 : yFr MF1 MA1 S S1) (s1 : ydj2 [(43, 1), (1, 7)] MF1 = true) (s2 : ydj1 [2, 5, 44, 49, 50, 51] MA1 = true) (hM : mImQ S1 S2 t f) (hF2 : yFr MF2 MA2 S1 S2) (s3 : ydj2 [(1, 7)] MF2 = true) (s4 : ydj1 [2, 5, 6, 7, 8] MA2 = true) : RS S2 ∧ S2.f 43 0 = k := by
  have f1 : S1.f 43 1 = S.f 43 1 := hF1.f (ydj2_of s1 rfl)
  have f0 : S1.f 1 7 = S.f 1 7 := hF1.f (ydj2_of s1 rfl)
  have a2 : ∀ j, S1.a 2 j = S.a 2 j := fun j => hF1.a (ydj1_of s2 rfl) j
  have a5 : ∀ j, S1.a 5 j = S.a 5 j := fun j => hF1.a (ydj1_of s2 rfl) j
  have a44 : ∀ j, S1.a 44 j = S.a 44 j := fun j => hF1.a (ydj1_of s2 rfl) j
  have a49 : ∀ j, S1.a 49 j = S.a 49 j := fun j => hF1.a (ydj1_of s2 rfl) j
  have a50 : ∀ j, S1.a 50 j = S.a 50 j := fun j => hF1.a (ydj1_of s2 rfl) j
  have a51 : ∀ j, S1.a 51 j = S.a 51 j := fun j => hF1.a (ydj1_of s2 rfl) j
  have g0 : S2.f 1 7 = S1.f 1 7 := hF2.f (ydj2_of s3 rfl)
  have b2 : ∀ j, S2.a 2 j = S1.a 2 j := fun j => hF2.a (ydj1_of s4 rfl) j
  have b5 : ∀ j, S2.a 5 j = S1.a 5 j := fun j => hF2.a (ydj1_of s4 rfl) j
  have b6 : ∀ j, S2.a 6 j = S1.a 6 j := fun j => hF2.a (ydj1_of s4 rfl) j
  have b7 : ∀ j, S2.a 7 j = S1.a 7 j := fun j => hF2.a (ydj1_of s4 rfl) j
  have b8 : ∀ j, S2.a 8 j = S1.a 8 j := fun j => hF2.a (ydj1_of s4 rfl) j
  have hm := hM (FM_of h hs h3 f1 a49 a50 a51)
  have hcm := imC_M (t := t) (f := f) h hs h3 n20 f1 a44 a49 a50 a51
  rcases hC with ⟨rfl, c1, c2⟩ | ⟨rfl, c1, c2, c3⟩
  · rcases hm with ⟨m1, m2, m3⟩ | ⟨m1, m2, m3⟩
    · refine ⟨?_, m1⟩
      obtain ⟨hf, hu, ⟨r7, r8⟩, hb2⟩ := hs
      obtain ⟨⟨c7, c8⟩, c6⟩ := c2
      obtain ⟨m51, m50⟩ := m3
      have c9 : cIm S S2 t f := ⟨⟨fun j => by rw [b7]; exact c7 j, fun j => by rw [b8]; exact c8 j⟩, fun x => by rw [b6]; exact c6 x⟩
      obtain ⟨d1, d2, d3⟩ := RSC_impl hf hu hb2 a7 n20 c1 c9 (by rw [g0, f0]) (fun j => by rw [b2, a2]) (fun j => by rw [b5, a5])
      have et : (4 * t + S1.a 51 t.toNat).toNat = (t * 4 + S.a 7 t.toNat).toNat := by
        rw [a51, r7]
        exact congrArg Int.toNat (by omega)
      refine ⟨d1, d2, ⟨fun j => ?_, fun j => ?_⟩, d3⟩
      · rw [m51, b7, c7]
        by_cases e : j = t.toNat
        · rw [e, ysa_eq, ysa_eq, a51, r7]
        · rw [ysa_ne (Or.inr e), ysa_ne (Or.inr e), a51, r7]
      · rw [m50, b8, c8, et]
        by_cases e : j = (t * 4 + S.a 7 t.toNat).toNat
        · rw [e, ysa_eq, ysa_eq]
        · rw [ysa_ne (Or.inr e), ysa_ne (Or.inr e), a50, r8]
    · exact absurd (hcm.mp c1) m2
  · rcases hm with ⟨m1, m2, m3⟩ | ⟨m1, m2, m3⟩
    · exact absurd (hcm.mpr m2) c1
    · refine ⟨?_, m1⟩
      have e0 : S2.f 1 7 = S.f 1 7 := by rw [g0, f0]
      have e2 : S2.a 2 = S.a 2 := funext (fun j => by rw [b2, a2])
      have e5 : S2.a 5 = S.a 5 := funext (fun j => by rw [b5, a5])
      have e6 : S2.a 6 = S.a 6 := funext (fun j => by rw [b6, c3])
      have e7 : S2.a 7 = S.a 7 := funext (fun j => by rw [b7, c3])
      have e8 : S2.a 8 = S.a 8 := funext (fun j => by rw [b8, c3])
      have e50 : S2.a 50 = S.a 50 := funext (fun j => by rw [(m3 j).2, a50])
      have e51 : S2.a 51 = S.a 51 := funext (fun j => by rw [(m3 j).1, a51])
      unfold RS FC SU RF B2 rcC egC at hs ⊢
      rw [e0, e2, e5, e6, e7, e8, e50, e51]
      exact hs
/-! the question itself -/
theorem RS_sub {S S1 : yS} {t o z w : Int} (h : RT S) (hs : RS S) (h3 : ∀ j : Nat, S.a 49 j < j) (n20 : S.f 1 7 ≤ 20) (hz : z = 1 ↔ (0 ≤ t ∧ t < S.f 1 7 ∧ 0 ≤ o ∧ o < S.f 1 7 ∧ bt (S.a 6 t.toNat) o)) (hw : FM S1 → (w = 1 ↔ (0 ≤ t ∧ t < S1.f 43 1 ∧ 0 ≤ o ∧ o < S1.f 43 1 ∧ rcM S1 t o))) (e1 : S1.f 43 1 = S.f 43 1) (e49 : ∀ j, S1.a 49 j = S.a 49 j) (e50 : ∀ j, S1.a 50 j = S.a 50 j) (e51 : ∀ j, S1.a 51 j = S.a 51 j) : z = 1 ↔ w = 1 := by
  have hw := hw (FM_of h hs h3 e1 e49 e50 e51)
  have h7 := h.1
  rw [hz, hw, e1, ← h7]
  constructor
  · rintro ⟨a1, a2, a3, a4, a5⟩
    exact ⟨a1, a2, a3, a4, ((hs.2.1 t o a1 a2 a3 (by omega)).trans (rcC_M h hs h3 a1 a2 e1 e49 e50 e51)).mp a5⟩
  · rintro ⟨a1, a2, a3, a4, a5⟩
    exact ⟨a1, a2, a3, a4, ((hs.2.1 t o a1 a2 a3 (by omega)).trans (rcC_M h hs h3 a1 a2 e1 e49 e50 e51)).mpr a5⟩
theorem nf_0 {X : Int → Int} {f : Int} : ∀ i : Int, 0 ≤ i → i < 0 → X i ≠ f := fun i h1 h2 => absurd h1 (by omega)
theorem nf_s {S : yS} {b : Nat} {t f j : Int} (h : ∀ i : Int, 0 ≤ i → i < j → S.a b (4 * t + i).toNat ≠ f) (hj : S.a b (4 * t + j).toNat ≠ f) : ∀ i : Int, 0 ≤ i → i < j + 1 → S.a b (4 * t + i).toNat ≠ f := by
  intro i i0 i1
  by_cases e : i = j
  · rw [e]; exact hj
  · exact h i i0 (by omega)
/-- the other's first questions hold, and the first j interfaces are others -/
def imP (S : yS) (t f j : Int) : Prop := (3 < t ∧ t < S.f 43 1) ∧ (0 ≤ f ∧ f < S.f 43 1) ∧ S.a 44 f.toNat ≠ 0 ∧ S.a 51 t.toNat ≤ 3 ∧ ¬ rcM S f t ∧ (∀ i : Int, 0 ≤ i → i < j → S.a 50 (4 * t + i).toNat ≠ f)
theorem imP_s {S : yS} {t f j : Int} (h : imP S t f j) (hj : S.a 50 (4 * t + j).toNat ≠ f) : imP S t f (j + 1) := ⟨h.1, h.2.1, h.2.2.1, h.2.2.2.1, h.2.2.2.2.1, nf_s h.2.2.2.2.2 hj⟩
theorem imP_end {S : yS} {t f j : Int} (h : imP S t f j) (hj : S.a 51 t.toNat ≤ j) : imM S t f := ⟨h.1, h.2.1, h.2.2.1, h.2.2.2.1, h.2.2.2.2.1, fun i i0 i1 => h.2.2.2.2.2 i i0 (by omega)⟩
theorem mIm_of {S0 S : yS} {t f : Int} (h : sIm S0 S) : mIm S0 (ysa (ysa (ysf S 43 0 0) 50 (4 * t + S.a 51 t.toNat).toNat f) 51 t.toNat (S.a 51 t.toNat + 1)) t f := by
  refine ⟨fun j => ?_, fun j => ?_⟩
  · show (ysa S 51 t.toNat (S.a 51 t.toNat + 1)).a 51 j = _
    rw [(h t.toNat).1]
    by_cases e : j = t.toNat
    · rw [e, ysa_eq, ysa_eq]
    · rw [ysa_ne (Or.inr e), ysa_ne (Or.inr e), (h j).1]
  · show (ysa S 50 (4 * t + S.a 51 t.toNat).toNat f).a 50 j = _
    rw [(h t.toNat).1]
    by_cases e : j = (4 * t + S0.a 51 t.toNat).toNat
    · rw [e, ysa_eq, ysa_eq]
    · rw [ysa_ne (Or.inr e), ysa_ne (Or.inr e), (h j).2]
theorem sIm_set {S0 S : yS} {z : Int} (h : sIm S0 S) : sIm S0 (ysf S 43 0 z) := h

/-! what a method throws, on both sides -/
def RTh (S : yS) : Prop := ∀ j : Nat, S.a 58 j = S.a 15 j ∧ S.a 57 j = S.a 16 j
theorem RThx : yX [] [15, 16, 57, 58] RTh := by
  intro S S' hf ha h j
  rw [ha 15 rfl, ha 16 rfl, ha 57 rfl, ha 58 rfl]
  exact h j
def thC (S : yS) (m t : Int) : Prop := (4 ≤ m ∧ m < S.f 9 8) ∧ (0 ≤ t ∧ t < S.f 1 7) ∧ bt (S.a 6 t.toNat) 1 ∧ S.a 15 m.toNat ≤ 2 ∧ (∀ i : Int, 0 ≤ i → i < S.a 15 m.toNat → S.a 16 (3 * m + i).toNat ≠ t)
def thM (S : yS) (m t : Int) : Prop := (3 < m ∧ m < S.f 43 10) ∧ (0 ≤ t ∧ t < S.f 43 1) ∧ rcM S t 1 ∧ S.a 58 m.toNat ≤ 2 ∧ (∀ i : Int, 0 ≤ i → i < S.a 58 m.toNat → S.a 57 (3 * m + i).toNat ≠ t)
def cTh (S S1 : yS) (m t : Int) : Prop := (∀ j, S1.a 15 j = (ysa S 15 m.toNat (S.a 15 m.toNat + 1)).a 15 j) ∧ (∀ j, S1.a 16 j = (ysa S 16 (m * 3 + S.a 15 m.toNat).toNat t).a 16 j)
def mTh (S S1 : yS) (m t : Int) : Prop := (∀ j, S1.a 58 j = (ysa S 58 m.toNat (S.a 58 m.toNat + 1)).a 58 j) ∧ (∀ j, S1.a 57 j = (ysa S 57 (3 * m + S.a 58 m.toNat).toNat t).a 57 j)
def sTh (S S1 : yS) : Prop := ∀ j, S1.a 58 j = S.a 58 j ∧ S1.a 57 j = S.a 57 j
def mThQ (S S1 : yS) (m t : Int) : Prop := FM S → (S1.f 43 0 = 0 ∧ thM S m t ∧ mTh S S1 m t) ∨ (S1.f 43 0 = 1 ∧ ¬ thM S m t ∧ sTh S S1)
def hTh (S S1 : yS) (m t z : Int) : Prop := (z = 0 ∧ thC S m t ∧ cTh S S1 m t) ∨ (z = 1 ∧ ¬ thC S m t ∧ S1.f = S.f ∧ S1.a = S.a)
theorem n3_0 {X : Int → Int} {f : Int} : ∀ i : Int, 0 ≤ i → i < 0 → X i ≠ f := fun i h1 h2 => absurd h1 (by omega)
theorem n3_s {S : yS} {b : Nat} {t f j : Int} (h : ∀ i : Int, 0 ≤ i → i < j → S.a b (3 * t + i).toNat ≠ f) (hj : S.a b (3 * t + j).toNat ≠ f) : ∀ i : Int, 0 ≤ i → i < j + 1 → S.a b (3 * t + i).toNat ≠ f := by
  intro i i0 i1
  by_cases e : i = j
  · rw [e]; exact hj
  · exact h i i0 (by omega)
def thP (S : yS) (m t j : Int) : Prop := (3 < m ∧ m < S.f 43 10) ∧ (0 ≤ t ∧ t < S.f 43 1) ∧ rcM S t 1 ∧ S.a 58 m.toNat ≤ 2 ∧ (∀ i : Int, 0 ≤ i → i < j → S.a 57 (3 * m + i).toNat ≠ t)
theorem thP_s {S : yS} {m t j : Int} (h : thP S m t j) (hj : S.a 57 (3 * m + j).toNat ≠ t) : thP S m t (j + 1) := ⟨h.1, h.2.1, h.2.2.1, h.2.2.2.1, n3_s h.2.2.2.2 hj⟩
theorem thP_end {S : yS} {m t j : Int} (h : thP S m t j) (hj : S.a 58 m.toNat ≤ j) : thM S m t := ⟨h.1, h.2.1, h.2.2.1, h.2.2.2.1, fun i i0 i1 => h.2.2.2.2 i i0 (by omega)⟩
theorem mTh_of {S0 S : yS} {m t : Int} (h : sTh S0 S) : mTh S0 (ysa (ysa (ysf S 43 0 0) 57 (3 * m + S.a 58 m.toNat).toNat t) 58 m.toNat (S.a 58 m.toNat + 1)) m t := by
  refine ⟨fun j => ?_, fun j => ?_⟩
  · show (ysa S 58 m.toNat (S.a 58 m.toNat + 1)).a 58 j = _
    rw [(h m.toNat).1]
    by_cases e : j = m.toNat
    · rw [e, ysa_eq, ysa_eq]
    · rw [ysa_ne (Or.inr e), ysa_ne (Or.inr e), (h j).1]
  · show (ysa S 57 (3 * m + S.a 58 m.toNat).toNat t).a 57 j = _
    rw [(h m.toNat).1]
    by_cases e : j = (3 * m + S0.a 58 m.toNat).toNat
    · rw [e, ysa_eq, ysa_eq]
    · rw [ysa_ne (Or.inr e), ysa_ne (Or.inr e), (h j).2]
theorem RTh_thr {S S1 S2 : yS} {m t k : Int} {MF1 MF2 : List (Nat × Nat)} {MA1 MA2 : List Nat} (h : RT S) (hs : RS S) (hme : RMe S) (ht : RTh S) (h3 : ∀ j : Nat, S.a 49 j < j) (hC : hTh S S1 m t k) (hF1 : yFr MF1 MA1 S S1) (s1 : ydj2 [(43, 1), (43, 10)] MF1 = true) (s2 : ydj1 [49, 50, 51, 57, 58] MA1 = true) (hM : mThQ S1 S2 m t) (hF2 : yFr MF2 MA2 S1 S2) (s4 : ydj1 [15, 16] MA2 = true) : RTh S2 ∧ S2.f 43 0 = k := by
  have f1 : S1.f 43 1 = S.f 43 1 := hF1.f (ydj2_of s1 rfl)
  have f10 : S1.f 43 10 = S.f 43 10 := hF1.f (ydj2_of s1 rfl)
  have a49 : ∀ j, S1.a 49 j = S.a 49 j := fun j => hF1.a (ydj1_of s2 rfl) j
  have a50 : ∀ j, S1.a 50 j = S.a 50 j := fun j => hF1.a (ydj1_of s2 rfl) j
  have a51 : ∀ j, S1.a 51 j = S.a 51 j := fun j => hF1.a (ydj1_of s2 rfl) j
  have a57 : ∀ j, S1.a 57 j = S.a 57 j := fun j => hF1.a (ydj1_of s2 rfl) j
  have a58 : ∀ j, S1.a 58 j = S.a 58 j := fun j => hF1.a (ydj1_of s2 rfl) j
  have b15 : ∀ j, S2.a 15 j = S1.a 15 j := fun j => hF2.a (ydj1_of s4 rfl) j
  have b16 : ∀ j, S2.a 16 j = S1.a 16 j := fun j => hF2.a (ydj1_of s4 rfl) j
  have hm := hM (FM_of h hs h3 f1 a49 a50 a51)
  have hcm : thC S m t ↔ thM S1 m t := by
    have hrc : 0 ≤ t → t < S.f 1 7 → (bt (S.a 6 t.toNat) 1 ↔ rcM S1 t 1) := fun a b => (hs.2.1 t 1 a b (by decide) (by decide)).trans (rcC_M h hs h3 a b f1 a49 a50 a51)
    unfold thC thM
    rw [f1, f10, ← h.1, ← hme.1, a58, (ht m.toNat).1]
    constructor
    · rintro ⟨c1, c2, c3, c4, c5⟩
      exact ⟨⟨by omega, c1.2⟩, c2, (hrc c2.1 c2.2).mp c3, c4, fun i i0 i1 => by rw [a57, (ht _).2]; exact c5 i i0 i1⟩
    · rintro ⟨c1, c2, c3, c4, c5⟩
      refine ⟨⟨by omega, c1.2⟩, c2, (hrc c2.1 c2.2).mpr c3, c4, fun i i0 i1 => ?_⟩
      have := c5 i i0 i1
      rw [a57, (ht _).2] at this
      exact this
  rcases hC with ⟨rfl, c1, c2⟩ | ⟨rfl, c1, c2, c3⟩
  · rcases hm with ⟨m1, m2, m3⟩ | ⟨m1, m2, m3⟩
    · refine ⟨fun j => ?_, m1⟩
      obtain ⟨c7, c8⟩ := c2
      obtain ⟨m58, m57⟩ := m3
      have et : (3 * m + S1.a 58 m.toNat).toNat = (m * 3 + S.a 15 m.toNat).toNat := by
        rw [a58, (ht m.toNat).1]
        exact congrArg Int.toNat (by omega)
      refine ⟨?_, ?_⟩
      · rw [m58, b15, c7]
        by_cases e : j = m.toNat
        · rw [e, ysa_eq, ysa_eq, a58, (ht m.toNat).1]
        · rw [ysa_ne (Or.inr e), ysa_ne (Or.inr e), a58, (ht j).1]
      · rw [m57, b16, c8, et]
        by_cases e : j = (m * 3 + S.a 15 m.toNat).toNat
        · rw [e, ysa_eq, ysa_eq]
        · rw [ysa_ne (Or.inr e), ysa_ne (Or.inr e), a57, (ht j).2]
    · exact absurd (hcm.mp c1) m2
  · rcases hm with ⟨m1, m2, m3⟩ | ⟨m1, m2, m3⟩
    · exact absurd (hcm.mpr m2) c1
    · refine ⟨fun j => ?_, m1⟩
      rw [(m3 j).1, (m3 j).2, b15, b16, c3]
      exact ht j

/-! in which order the types are met: a list as a stack, a list of those met -/
def dfs (ch : Int → List Int) : Nat → List Int → List Int → Option (List Int)
  | 0, s, acc => match s with
    | [] => some acc
    | _ :: _ => none
  | n + 1, s, acc => match s with
    | [] => some acc
    | f :: r => if f ∈ acc then dfs ch n r acc else dfs ch n (ch f ++ r) (acc ++ [f])
theorem dfs_nil {ch : Int → List Int} {acc : List Int} : ∀ n, dfs ch n [] acc = some acc := by
  intro n
  cases n with
  | zero => rfl
  | succ n => rfl
theorem dfs_in {ch : Int → List Int} {n : Nat} {f : Int} {r acc : List Int} (h : f ∈ acc) : dfs ch (n + 1) (f :: r) acc = dfs ch n r acc := by
  show (if f ∈ acc then dfs ch n r acc else dfs ch n (ch f ++ r) (acc ++ [f])) = _
  rw [if_pos h]
theorem dfs_new {ch : Int → List Int} {n : Nat} {f : Int} {r acc : List Int} (h : ¬ f ∈ acc) : dfs ch (n + 1) (f :: r) acc = dfs ch n (ch f ++ r) (acc ++ [f]) := by
  show (if f ∈ acc then dfs ch n r acc else dfs ch n (ch f ++ r) (acc ++ [f])) = _
  rw [if_neg h]
theorem dfs_up {ch : Int → List Int} : ∀ (n : Nat) (s acc o : List Int), dfs ch n s acc = some o → dfs ch (n + 1) s acc = some o := by
  intro n
  induction n with
  | zero =>
    intro s acc o h
    cases s with
    | nil => exact h
    | cons f r => cases h
  | succ n ih =>
    intro s acc o h
    cases s with
    | nil => exact h
    | cons f r =>
      by_cases e : f ∈ acc
      · rw [dfs_in e] at h ⊢
        exact ih r acc o h
      · rw [dfs_new e] at h ⊢
        exact ih _ _ o h
theorem dfs_le {ch : Int → List Int} {n : Nat} {s acc o : List Int} (h : dfs ch n s acc = some o) : ∀ k, dfs ch (n + k) s acc = some o := by
  intro k
  induction k with
  | zero => exact h
  | succ k ih => exact dfs_up _ s acc o ih
theorem dfs_det {ch : Int → List Int} {n m : Nat} {s acc o o2 : List Int} (h : dfs ch n s acc = some o) (h2 : dfs ch m s acc = some o2) : o = o2 := by
  have h3 := dfs_le h m
  have h4 := dfs_le h2 n
  rw [Nat.add_comm m n] at h4
  exact Option.some.inj (h3.symm.trans h4)
def DF (ch : Int → List Int) (s acc o : List Int) : Prop := ∃ n, dfs ch n s acc = some o
theorem DF_nil {ch : Int → List Int} {acc : List Int} : DF ch [] acc acc := ⟨0, rfl⟩
theorem DF_in {ch : Int → List Int} {f : Int} {r acc o : List Int} (h : f ∈ acc) (d : DF ch r acc o) : DF ch (f :: r) acc o := by
  obtain ⟨n, e⟩ := d
  exact ⟨n + 1, (dfs_in h).trans e⟩
theorem DF_new {ch : Int → List Int} {f : Int} {r acc o : List Int} (h : ¬ f ∈ acc) (d : DF ch (ch f ++ r) (acc ++ [f]) o) : DF ch (f :: r) acc o := by
  obtain ⟨n, e⟩ := d
  exact ⟨n + 1, (dfs_new h).trans e⟩
theorem DF_det {ch : Int → List Int} {s acc o o2 : List Int} (h : DF ch s acc o) (h2 : DF ch s acc o2) : o = o2 := by
  obtain ⟨n, e⟩ := h
  obtain ⟨m, e2⟩ := h2
  exact dfs_det e e2
theorem dfs_app {ch : Int → List Int} : ∀ (n : Nat) (s acc a : List Int), dfs ch n s acc = some a → ∀ (r o : List Int) (m : Nat), dfs ch m r a = some o → ∃ k, dfs ch k (s ++ r) acc = some o := by
  intro n
  induction n with
  | zero =>
    intro s acc a h r o m h2
    cases s with
    | nil => have e : acc = a := Option.some.inj h
             subst e
             exact ⟨m, h2⟩
    | cons f q => cases h
  | succ n ih =>
    intro s acc a h r o m h2
    cases s with
    | nil => have e : acc = a := Option.some.inj h
             subst e
             exact ⟨m, h2⟩
    | cons f q =>
      by_cases e : f ∈ acc
      · rw [dfs_in e] at h
        obtain ⟨k, hk⟩ := ih q acc a h r o m h2
        exact ⟨k + 1, (dfs_in e).trans hk⟩
      · rw [dfs_new e] at h
        obtain ⟨k, hk⟩ := ih _ _ a h r o m h2
        refine ⟨k + 1, (dfs_new e).trans ?_⟩
        show dfs ch k (ch f ++ (q ++ r)) (acc ++ [f]) = some o
        rw [← List.append_assoc]
        exact hk
theorem DF_app {ch : Int → List Int} {s r a0 a1 o : List Int} (h : DF ch s a0 a1) (h2 : DF ch r a1 o) : DF ch (s ++ r) a0 o := by
  obtain ⟨n, e⟩ := h
  obtain ⟨m, e2⟩ := h2
  exact dfs_app n s a0 a1 e r o m e2
theorem dfs_all {ch : Int → List Int} {R : Int → Prop} (hc : ∀ f, R f → ∀ x ∈ ch f, R x) : ∀ (n : Nat) (s acc o : List Int), dfs ch n s acc = some o → (∀ x ∈ s, R x) → (∀ x ∈ acc, R x) → ∀ x ∈ o, R x := by
  intro n
  induction n with
  | zero =>
    intro s acc o h hs ha
    cases s with
    | nil => have e : acc = o := Option.some.inj h
             subst e
             exact ha
    | cons f q => cases h
  | succ n ih =>
    intro s acc o h hs ha
    cases s with
    | nil => have e : acc = o := Option.some.inj h
             subst e
             exact ha
    | cons f q =>
      have hq : ∀ x ∈ q, R x := fun x hx => hs x (List.mem_cons_of_mem _ hx)
      have hf : R f := hs f List.mem_cons_self
      by_cases e : f ∈ acc
      · rw [dfs_in e] at h
        exact ih q acc o h hq ha
      · rw [dfs_new e] at h
        refine ih _ _ o h (fun x hx => ?_) (fun x hx => ?_)
        · rcases List.mem_append.mp hx with h1 | h1
          · exact hc f hf x h1
          · exact hq x h1
        · rcases List.mem_append.mp hx with h1 | h1
          · exact ha x h1
          · rw [List.mem_singleton.mp h1]; exact hf
theorem DF_all {ch : Int → List Int} {R : Int → Prop} {s acc o : List Int} (hc : ∀ f, R f → ∀ x ∈ ch f, R x) (h : DF ch s acc o) (hs : ∀ x ∈ s, R x) (ha : ∀ x ∈ acc, R x) : ∀ x ∈ o, R x := by
  obtain ⟨n, e⟩ := h
  exact dfs_all hc n s acc o e hs ha
/-! rows as lists -/
def rL (S : yS) (b : Nat) : Nat → List Int
  | 0 => []
  | n + 1 => rL S b n ++ [S.a b n]
theorem rL_len {S : yS} {b : Nat} : ∀ n, (rL S b n).length = n := by
  intro n
  induction n with
  | zero => rfl
  | succ n ih => show (rL S b n ++ [S.a b n]).length = n + 1; rw [List.length_append, ih]; rfl
theorem rL_eq {S S1 : yS} {b c : Nat} : ∀ n : Nat, (∀ j, j < n → S1.a c j = S.a b j) → rL S1 c n = rL S b n := by
  intro n
  induction n with
  | zero => intro _; rfl
  | succ n ih =>
    intro h
    show rL S1 c n ++ [S1.a c n] = rL S b n ++ [S.a b n]
    rw [ih (fun j hj => h j (by omega)), h n (by omega)]
theorem rL_mem {S : yS} {b : Nat} {x : Int} : ∀ n : Nat, x ∈ rL S b n ↔ ∃ j, j < n ∧ x = S.a b j := by
  intro n
  induction n with
  | zero => exact ⟨fun h => absurd h List.not_mem_nil, fun ⟨j, hj, _⟩ => absurd hj (by omega)⟩
  | succ n ih =>
    show x ∈ rL S b n ++ [S.a b n] ↔ _
    rw [List.mem_append, ih, List.mem_singleton]
    constructor
    · rintro (⟨j, hj, e⟩ | e)
      · exact ⟨j, by omega, e⟩
      · exact ⟨n, by omega, e⟩
    · rintro ⟨j, hj, e⟩
      by_cases hn : j = n
      · subst hn; exact Or.inr e
      · exact Or.inl ⟨j, by omega, e⟩
theorem rL_s {S : yS} {b : Nat} {k : Int} (h : 0 ≤ k) : rL S b (k + 1).toNat = rL S b k.toNat ++ [S.a b k.toNat] := by
  have e : (k + 1).toNat = k.toNat + 1 := by omega
  rw [e]
  rfl
theorem rL_push {S S1 : yS} {b : Nat} {c z : Int} (h0 : 0 ≤ c) (e : ∀ j, S1.a b j = (ysa S b c.toNat z).a b j) : rL S1 b (c + 1).toNat = rL S b c.toNat ++ [z] := by
  rw [rL_s h0, e c.toNat, ysa_eq, rL_eq c.toNat (fun j hj => (e j).trans (ysa_ne (Or.inr (by omega))))]
theorem rL_up {S : yS} {b m : Nat} : ∀ k : Nat, ∃ R, rL S b (m + k) = rL S b m ++ R := by
  intro k
  induction k with
  | zero => exact ⟨[], (List.append_nil _).symm⟩
  | succ k ih =>
    obtain ⟨R, hR⟩ := ih
    refine ⟨R ++ [S.a b (m + k)], ?_⟩
    show rL S b (m + k) ++ [S.a b (m + k)] = _
    rw [hR, List.append_assoc]
theorem rL_pre {S : yS} {b n : Nat} {A B : List Int} (h : rL S b n = A ++ B) : rL S b A.length = A := by
  have hl : A.length + B.length = n := by rw [← List.length_append, ← h, rL_len]
  obtain ⟨R, hR⟩ := rL_up (S := S) (b := b) (m := A.length) B.length
  rw [hl, h] at hR
  exact (List.append_inj hR (rL_len _).symm).1.symm
def chI (S : yS) (b : Nat) (t : Int) : Nat → List Int
  | 0 => []
  | n + 1 => chI S b t n ++ [S.a b (4 * t + n).toNat]
theorem chI_eq {S S1 : yS} {b c : Nat} {t : Int} (h : ∀ j, S1.a c j = S.a b j) : ∀ n : Nat, chI S1 c t n = chI S b t n := by
  intro n
  induction n with
  | zero => rfl
  | succ n ih => show chI S1 c t n ++ [S1.a c (4 * t + n).toNat] = chI S b t n ++ [S.a b (4 * t + n).toNat]; rw [ih, h]
theorem chI_s {S : yS} {b : Nat} {t k : Int} (h : 0 ≤ k) : chI S b t (k + 1).toNat = chI S b t k.toNat ++ [S.a b (4 * t + k).toNat] := by
  have e : (k + 1).toNat = k.toNat + 1 := by omega
  have e2 : ((k.toNat : Nat) : Int) = k := by omega
  rw [e]
  show chI S b t k.toNat ++ [S.a b (4 * t + (k.toNat : Int)).toNat] = _
  rw [e2]
theorem chI_mem {S : yS} {b : Nat} {t x : Int} : ∀ n : Nat, x ∈ chI S b t n → ∃ j : Nat, j < n ∧ x = S.a b (4 * t + j).toNat := by
  intro n
  induction n with
  | zero => intro h; exact absurd h List.not_mem_nil
  | succ n ih =>
    intro h
    rcases List.mem_append.mp h with h1 | h1
    · obtain ⟨j, hj, e⟩ := ih h1
      exact ⟨j, by omega, e⟩
    · exact ⟨n, by omega, List.mem_singleton.mp h1⟩
def chC (S : yS) (t : Int) : List Int := chI S 8 t (S.a 7 t.toNat).toNat
def chM (S : yS) (t : Int) : List Int := chI S 50 t (S.a 51 t.toNat).toNat
theorem chC_eq {S S1 : yS} (h7 : ∀ j, S1.a 7 j = S.a 7 j) (h8 : ∀ j, S1.a 8 j = S.a 8 j) : chC S1 = chC S := by
  funext t
  unfold chC
  rw [chI_eq h8, h7]
theorem chM_eq {S S1 : yS} (h7 : ∀ j, S1.a 51 j = S.a 51 j) (h8 : ∀ j, S1.a 50 j = S.a 50 j) : chM S1 = chM S := by
  funext t
  unfold chM
  rw [chI_eq h8, h7]
def chn (par : Int → Int) : Nat → Int → List Int
  | 0, _ => []
  | n + 1, t => if t < 0 then [] else t :: chn par n (par t)
theorem chn_neg {par : Int → Int} {n : Nat} {t : Int} (h : t < 0) : chn par n t = [] := by
  cases n with
  | zero => rfl
  | succ n => show (if t < 0 then [] else t :: chn par n (par t)) = []; rw [if_pos h]
theorem chn_pos {par : Int → Int} {n : Nat} {t : Int} (h : 0 ≤ t) : chn par (n + 1) t = t :: chn par n (par t) := by
  show (if t < 0 then [] else t :: chn par n (par t)) = _
  rw [if_neg (by omega)]
theorem chn_all {par : Int → Int} {R : Int → Prop} (hc : ∀ t, R t → 0 ≤ par t → R (par t)) : ∀ (n : Nat) (t : Int), (0 ≤ t → R t) → ∀ x ∈ chn par n t, R x := by
  intro n
  induction n with
  | zero => intro t _ x hx; exact absurd hx List.not_mem_nil
  | succ n ih =>
    intro t ht x hx
    by_cases h : t < 0
    · rw [chn_neg h] at hx; exact absurd hx List.not_mem_nil
    · rw [chn_pos (by omega)] at hx
      rcases List.mem_cons.mp hx with h1 | h1
      · rw [h1]; exact ht (by omega)
      · exact ih (par t) (hc t (ht (by omega))) x h1
theorem chn_congr {par par2 : Int → Int} {R : Int → Prop} (hc : ∀ t, R t → 0 ≤ par t → R (par t)) (he : ∀ t, R t → par2 t = par t) : ∀ (n : Nat) (t : Int), (0 ≤ t → R t) → chn par2 n t = chn par n t := by
  intro n
  induction n with
  | zero => intro t _; rfl
  | succ n ih =>
    intro t ht
    by_cases h : t < 0
    · rw [chn_neg h, chn_neg h]
    · rw [chn_pos (by omega), chn_pos (by omega), he t (ht (by omega)), ih (par t) (hc t (ht (by omega)))]
def flt (ch : Int → List Int) : List Int → List Int
  | [] => []
  | t :: r => ch t ++ flt ch r
theorem flt_app {ch : Int → List Int} : ∀ a b : List Int, flt ch (a ++ b) = flt ch a ++ flt ch b := by
  intro a
  induction a with
  | nil => intro b; rfl
  | cons t r ih => intro b; show ch t ++ flt ch (r ++ b) = (ch t ++ flt ch r) ++ flt ch b; rw [ih, List.append_assoc]
theorem flt_snoc {ch : Int → List Int} {a : List Int} {t : Int} : flt ch (a ++ [t]) = flt ch a ++ ch t := by
  rw [flt_app]
  show flt ch a ++ (ch t ++ []) = _
  rw [List.append_nil]
theorem flt_mem {ch : Int → List Int} {x : Int} : ∀ a : List Int, x ∈ flt ch a → ∃ t ∈ a, x ∈ ch t := by
  intro a
  induction a with
  | nil => intro h; exact absurd h List.not_mem_nil
  | cons t r ih =>
    intro h
    rcases List.mem_append.mp h with h1 | h1
    · exact ⟨t, List.mem_cons_self, h1⟩
    · obtain ⟨q, hq, e⟩ := ih h1
      exact ⟨q, List.mem_cons_of_mem _ hq, e⟩
/-! what is counted: a type's methods in their order, each that is wanted and like none before -/
def cM (ok : Nat → Bool) (sm : Int → Nat → Bool) (acc : List Int) : Nat → List Int
  | 0 => acc
  | n + 1 => cond (ok n && !((cM ok sm acc n).any fun x => sm x n)) (cM ok sm acc n ++ [(n : Int)]) (cM ok sm acc n)
theorem cM_y {ok : Nat → Bool} {sm : Int → Nat → Bool} {acc : List Int} {m : Int} (h0 : 0 ≤ m) (h1 : ok m.toNat = true) (h2 : ∀ x ∈ cM ok sm acc m.toNat, sm x m.toNat = false) : cM ok sm acc (m + 1).toNat = cM ok sm acc m.toNat ++ [m] := by
  have e : (m + 1).toNat = m.toNat + 1 := by omega
  have e2 : ((m.toNat : Nat) : Int) = m := by omega
  have h3 : ((cM ok sm acc m.toNat).any fun x => sm x m.toNat) = false := by
    rw [List.any_eq_false]
    intro x hx
    rw [h2 x hx]
    exact Bool.false_ne_true
  rw [e]
  show cond (ok m.toNat && !((cM ok sm acc m.toNat).any fun x => sm x m.toNat)) (cM ok sm acc m.toNat ++ [((m.toNat : Nat) : Int)]) (cM ok sm acc m.toNat) = _
  rw [h1, h3, e2]
  rfl
theorem cM_n1 {ok : Nat → Bool} {sm : Int → Nat → Bool} {acc : List Int} {m : Int} (h0 : 0 ≤ m) (h1 : ok m.toNat = false) : cM ok sm acc (m + 1).toNat = cM ok sm acc m.toNat := by
  have e : (m + 1).toNat = m.toNat + 1 := by omega
  rw [e]
  show cond (ok m.toNat && !((cM ok sm acc m.toNat).any fun x => sm x m.toNat)) (cM ok sm acc m.toNat ++ [((m.toNat : Nat) : Int)]) (cM ok sm acc m.toNat) = _
  rw [h1]
  rfl
theorem cM_n2 {ok : Nat → Bool} {sm : Int → Nat → Bool} {acc : List Int} {m x : Int} (h0 : 0 ≤ m) (hx : x ∈ cM ok sm acc m.toNat) (h1 : sm x m.toNat = true) : cM ok sm acc (m + 1).toNat = cM ok sm acc m.toNat := by
  have e : (m + 1).toNat = m.toNat + 1 := by omega
  have h3 : ((cM ok sm acc m.toNat).any fun x => sm x m.toNat) = true := List.any_eq_true.mpr ⟨x, hx, h1⟩
  rw [e]
  show cond (ok m.toNat && !((cM ok sm acc m.toNat).any fun x => sm x m.toNat)) (cM ok sm acc m.toNat ++ [((m.toNat : Nat) : Int)]) (cM ok sm acc m.toNat) = _
  rw [h3, Bool.not_true, Bool.and_false]
  rfl
def cAll (ok : Int → Nat → Bool) (sm : Int → Nat → Bool) (M : Nat) : List Int → List Int → List Int
  | [], acc => acc
  | t :: r, acc => cAll ok sm M r (cM (ok t) sm acc M)
theorem cAll_app {ok : Int → Nat → Bool} {sm : Int → Nat → Bool} {M : Nat} : ∀ (a b acc : List Int), cAll ok sm M (a ++ b) acc = cAll ok sm M b (cAll ok sm M a acc) := by
  intro a
  induction a with
  | nil => intro b acc; rfl
  | cons t r ih => intro b acc; exact ih b _
theorem cAll_snoc {ok : Int → Nat → Bool} {sm : Int → Nat → Bool} {M : Nat} {a acc : List Int} {t : Int} : cAll ok sm M (a ++ [t]) acc = cM (ok t) sm (cAll ok sm M a acc) M := cAll_app a [t] acc
/-- everything counted is a method -/
theorem cM_lt {ok : Nat → Bool} {sm : Int → Nat → Bool} {acc : List Int} {M : Nat} (ha : ∀ x ∈ acc, 0 ≤ x ∧ x < (M : Int)) : ∀ n, n ≤ M → ∀ x ∈ cM ok sm acc n, 0 ≤ x ∧ x < (M : Int) := by
  intro n
  induction n with
  | zero => intro _; exact ha
  | succ n ih =>
    intro hn x hx
    have h2 := ih (by omega)
    unfold cM at hx
    cases hb : (ok n && !((cM ok sm acc n).any fun x => sm x n)) with
    | false => rw [hb] at hx; exact h2 x hx
    | true =>
      rw [hb] at hx
      rcases List.mem_append.mp hx with h1 | h1
      · exact h2 x h1
      · have := List.mem_singleton.mp h1
        omega
theorem cM_congr {ok ok2 : Nat → Bool} {sm sm2 : Int → Nat → Bool} {acc : List Int} {M : Nat} (h1 : ∀ m, m < M → ok2 m = ok m) (h2 : ∀ (x : Int) (m : Nat), 0 ≤ x → x < (M : Int) → m < M → sm2 x m = sm x m) (ha : ∀ x ∈ acc, 0 ≤ x ∧ x < (M : Int)) : ∀ n, n ≤ M → cM ok2 sm2 acc n = cM ok sm acc n := by
  intro n
  induction n with
  | zero => intro _; rfl
  | succ n ih =>
    intro hn
    have h3 := ih (by omega)
    have h4 : ((cM ok sm acc n).any fun x => sm2 x n) = ((cM ok sm acc n).any fun x => sm x n) := by
      have hl := cM_lt (ok := ok) (sm := sm) ha n (by omega)
      cases hb : ((cM ok sm acc n).any fun x => sm x n) with
      | true =>
        obtain ⟨x, hx, e⟩ := List.any_eq_true.mp hb
        exact List.any_eq_true.mpr ⟨x, hx, by rw [h2 x n (hl x hx).1 (hl x hx).2 (by omega)]; exact e⟩
      | false =>
        rw [List.any_eq_false] at hb ⊢
        intro x hx
        rw [h2 x n (hl x hx).1 (hl x hx).2 (by omega)]
        exact hb x hx
    show cond (ok2 n && !((cM ok2 sm2 acc n).any fun x => sm2 x n)) (cM ok2 sm2 acc n ++ [(n : Int)]) (cM ok2 sm2 acc n) = cond (ok n && !((cM ok sm acc n).any fun x => sm x n)) (cM ok sm acc n ++ [(n : Int)]) (cM ok sm acc n)
    rw [h3, h1 n (by omega), h4]
theorem cAll_lt {ok : Int → Nat → Bool} {sm : Int → Nat → Bool} {M : Nat} : ∀ (l acc : List Int), (∀ x ∈ acc, 0 ≤ x ∧ x < (M : Int)) → ∀ x ∈ cAll ok sm M l acc, 0 ≤ x ∧ x < (M : Int) := by
  intro l
  induction l with
  | nil => intro acc ha; exact ha
  | cons t r ih => intro acc ha; exact ih _ (cM_lt ha M (Nat.le_refl _))
theorem cAll_congr {ok ok2 : Int → Nat → Bool} {sm sm2 : Int → Nat → Bool} {M : Nat} (h2 : ∀ (x : Int) (m : Nat), 0 ≤ x → x < (M : Int) → m < M → sm2 x m = sm x m) : ∀ (l acc : List Int), (∀ t ∈ l, ∀ m, m < M → ok2 t m = ok t m) → (∀ x ∈ acc, 0 ≤ x ∧ x < (M : Int)) → cAll ok2 sm2 M l acc = cAll ok sm M l acc := by
  intro l
  induction l with
  | nil => intro acc _ _; rfl
  | cons t r ih =>
    intro acc h1 ha
    show cAll ok2 sm2 M r (cM (ok2 t) sm2 acc M) = cAll ok sm M r (cM (ok t) sm acc M)
    rw [cM_congr (h1 t List.mem_cons_self) h2 ha M (Nat.le_refl _)]
    exact ih _ (fun q hq => h1 q (List.mem_cons_of_mem _ hq)) (cM_lt ha M (Nat.le_refl _))
/-- two of a list stand in R: a later one, and an earlier one -/
def pr (R : Int → Int → Prop) : List Int → Prop
  | [] => False
  | x :: r => (∃ y ∈ r, R y x) ∨ pr R r
theorem pr_snoc {R : Int → Int → Prop} {z : Int} : ∀ l : List Int, pr R (l ++ [z]) ↔ pr R l ∨ ∃ x ∈ l, R z x := by
  intro l
  induction l with
  | nil =>
    constructor
    · rintro (⟨y, hy, -⟩ | h)
      · exact absurd hy List.not_mem_nil
      · exact absurd h id
    · rintro (h | ⟨y, hy, -⟩)
      · exact absurd h id
      · exact absurd hy List.not_mem_nil
  | cons x r ih =>
    constructor
    · rintro (⟨y, hy, h⟩ | h)
      · rcases List.mem_append.mp hy with h1 | h1
        · exact Or.inl (Or.inl ⟨y, h1, h⟩)
        · rw [List.mem_singleton.mp h1] at h
          exact Or.inr ⟨x, List.mem_cons_self, h⟩
      · rcases ih.mp h with h1 | ⟨y, hy, h1⟩
        · exact Or.inl (Or.inr h1)
        · exact Or.inr ⟨y, List.mem_cons_of_mem _ hy, h1⟩
    · rintro ((⟨y, hy, h⟩ | h) | ⟨y, hy, h⟩)
      · exact Or.inl ⟨y, List.mem_append_left _ hy, h⟩
      · exact Or.inr (ih.mpr (Or.inl h))
      · rcases List.mem_cons.mp hy with h1 | h1
        · rw [h1] at h
          exact Or.inl ⟨z, List.mem_append_right _ (List.mem_singleton.mpr rfl), h⟩
        · exact Or.inr (ih.mpr (Or.inr ⟨y, h1, h⟩))
theorem pr_imp {R Q : Int → Int → Prop} : ∀ l : List Int, (∀ x ∈ l, ∀ y ∈ l, R y x → Q y x) → pr R l → pr Q l := by
  intro l
  induction l with
  | nil => intro _ h; exact h
  | cons x r ih =>
    intro hi h
    rcases h with ⟨y, hy, h⟩ | h
    · exact Or.inl ⟨y, hy, hi x List.mem_cons_self y (List.mem_cons_of_mem _ hy) h⟩
    · exact Or.inr (ih (fun a ha b hb => hi a (List.mem_cons_of_mem _ ha) b (List.mem_cons_of_mem _ hb)) h)
theorem pr_filter {R : Int → Int → Prop} {p : Int → Bool} : ∀ l : List Int, pr R (l.filter p) ↔ pr (fun y x => p y = true ∧ p x = true ∧ R y x) l := by
  intro l
  induction l with
  | nil => exact Iff.rfl
  | cons x r ih =>
    by_cases hp : p x = true
    · rw [List.filter_cons_of_pos hp]
      constructor
      · rintro (⟨y, hy, h⟩ | h)
        · obtain ⟨h1, h2⟩ := List.mem_filter.mp hy
          exact Or.inl ⟨y, h1, h2, hp, h⟩
        · exact Or.inr (ih.mp h)
      · rintro (⟨y, hy, h1, h2, h⟩ | h)
        · exact Or.inl ⟨y, List.mem_filter.mpr ⟨hy, h1⟩, h⟩
        · exact Or.inr (ih.mpr h)
    · rw [List.filter_cons_of_neg hp]
      constructor
      · intro h; exact Or.inr (ih.mp h)
      · rintro (⟨y, hy, h1, h2, h⟩ | h)
        · exact absurd h2 hp
        · exact ih.mpr h
theorem pr_row {S : yS} {b : Nat} {R : Int → Int → Prop} : ∀ n : Nat, pr R (rL S b n) ↔ ∃ i j : Nat, j < i ∧ i < n ∧ R (S.a b i) (S.a b j) := by
  intro n
  induction n with
  | zero => exact ⟨fun h => absurd h id, fun ⟨i, j, _, h, _⟩ => absurd h (by omega)⟩
  | succ n ih =>
    show pr R (rL S b n ++ [S.a b n]) ↔ _
    rw [pr_snoc, ih]
    constructor
    · rintro (⟨i, j, hj, hi, h⟩ | ⟨x, hx, h⟩)
      · exact ⟨i, j, hj, by omega, h⟩
      · obtain ⟨j, hj, rfl⟩ := (rL_mem _).mp hx
        exact ⟨n, j, hj, by omega, h⟩
    · rintro ⟨i, j, hj, hi, h⟩
      by_cases e : i = n
      · subst e
        exact Or.inr ⟨S.a b j, (rL_mem _).mpr ⟨j, hj, rfl⟩, h⟩
      · exact Or.inl ⟨i, j, hj, by omega, h⟩
/-- none of those counted is like one before it -/
theorem cM_npr {ok : Nat → Bool} {sm : Int → Nat → Bool} {acc : List Int} (h : ¬ pr (fun y x => sm x y.toNat = true) acc) : ∀ n, ¬ pr (fun y x => sm x y.toNat = true) (cM ok sm acc n) := by
  intro n
  induction n with
  | zero => exact h
  | succ n ih =>
    unfold cM
    cases hb : (ok n && !((cM ok sm acc n).any fun x => sm x n)) with
    | false => exact ih
    | true =>
      show ¬ pr _ (cM ok sm acc n ++ [(n : Int)])
      rw [pr_snoc]
      rintro (q | ⟨x, hx, q⟩)
      · exact ih q
      · have hb2 : ((cM ok sm acc n).any fun x => sm x n) = true := List.any_eq_true.mpr ⟨x, hx, q⟩
        rw [hb2, Bool.not_true, Bool.and_false] at hb
        cases hb
theorem cAll_npr {ok : Int → Nat → Bool} {sm : Int → Nat → Bool} {M : Nat} : ∀ (l acc : List Int), ¬ pr (fun y x => sm x y.toNat = true) acc → ¬ pr (fun y x => sm x y.toNat = true) (cAll ok sm M l acc) := by
  intro l
  induction l with
  | nil => intro acc h; exact h
  | cons t r ih => intro acc h; exact ih _ (cM_npr h M)

/-! faces are interfaces, a class's parent is a class -/
def RI (S : yS) : Prop := (∀ x i : Int, 0 ≤ x → x < S.f 1 7 → 0 ≤ i → i < S.a 7 x.toNat → S.a 2 (S.a 8 (4 * x + i).toNat).toNat = 1) ∧ (∀ x : Int, 1 ≤ x → x < S.f 1 7 → S.a 2 x.toNat = 0 → S.a 2 (S.a 5 x.toNat).toNat = 0)
theorem RIx : yX [(1, 7)] [2, 5, 7, 8] RI := by
  intro S S' hf ha h
  have e := hf 1 7 rfl
  have e2 : S'.a 2 = S.a 2 := funext (fun j => ha 2 rfl j)
  have e5 : S'.a 5 = S.a 5 := funext (fun j => ha 5 rfl j)
  have e7 : S'.a 7 = S.a 7 := funext (fun j => ha 7 rfl j)
  have e8 : S'.a 8 = S.a 8 := funext (fun j => ha 8 rfl j)
  unfold RI at h ⊢
  rw [e, e2, e5, e7, e8]
  exact h
def sT (S0 S : yS) : Prop := S.f 1 7 = S0.f 1 7 ∧ ∀ j, S.a 2 j = S0.a 2 j ∧ S.a 5 j = S0.a 5 j ∧ S.a 7 j = S0.a 7 j ∧ S.a 8 j = S0.a 8 j
theorem sT_fr {S0 S : yS} {MF : List (Nat × Nat)} {MA : List Nat} (hF : yFr MF MA S0 S) (s1 : ydj2 [(1, 7)] MF = true) (s2 : ydj1 [2, 5, 7, 8] MA = true) : sT S0 S :=
  ⟨hF.f (ydj2_of s1 rfl), fun j => ⟨hF.a (ydj1_of s2 rfl) j, hF.a (ydj1_of s2 rfl) j, hF.a (ydj1_of s2 rfl) j, hF.a (ydj1_of s2 rfl) j⟩⟩
theorem sT_RI {S0 S : yS} (e : sT S0 S) (h : RI S0) : RI S := by
  refine ⟨fun x i x0 x1 i0 i1 => ?_, fun x x0 x1 x2 => ?_⟩
  · rw [(e.2 _).1, (e.2 _).2.2.2]
    rw [(e.2 _).2.2.1] at i1
    rw [e.1] at x1
    exact h.1 x i x0 x1 i0 i1
  · rw [(e.2 _).1, (e.2 _).2.1]
    rw [(e.2 _).1] at x2
    rw [e.1] at x1
    exact h.2 x x0 x1 x2
theorem sT_FC {S0 S : yS} (e : sT S0 S) (h : FC S0) : FC S := by
  refine ⟨fun x x0 x1 => ?_, fun x i x0 x1 i0 i1 => ?_, fun x x0 => ?_⟩
  · rw [(e.2 _).2.1]
    rw [e.1] at x1
    exact h.1 x x0 x1
  · rw [(e.2 _).2.2.2, e.1]
    rw [(e.2 _).2.2.1] at i1
    rw [e.1] at x1
    exact h.2.1 x i x0 x1 i0 i1
  · rw [(e.2 _).2.2.1]
    rw [e.1] at x0
    exact h.2.2 x x0
/-! the class: order, met -/
def CMt (S : yS) (P acc : List Int) : Prop := rL S 19 (S.f 17 10).toNat = P ++ acc ∧ (∀ x : Int, 0 ≤ x → x ≤ 19 → (bt (S.f 17 8) x ↔ x ∈ acc)) ∧ (∀ x ∈ P, S.a 2 x.toNat = 0) ∧ (∀ x ∈ acc, S.a 2 x.toNat = 1) ∧ (∀ x ∈ P ++ acc, 0 ≤ x ∧ x < S.f 1 7) ∧ (∀ i j : Nat, i < j → (j : Int) < S.f 17 10 → S.a 19 i ≠ S.a 19 j)
theorem CMt_out {S : yS} {P acc : List Int} {f : Int} (h : CMt S P acc) (hb : ¬ bt (S.f 17 8) f) (f0 : 0 ≤ f) (f1 : f ≤ 19) (hi : S.a 2 f.toNat = 1) : ¬ f ∈ P ++ acc := by
  intro hm
  rcases List.mem_append.mp hm with h1 | h1
  · have := h.2.2.1 f h1
    omega
  · exact hb ((h.2.1 f f0 f1).mpr h1)
theorem CMt_row {S : yS} {P acc : List Int} (h : CMt S P acc) : ∀ j : Nat, (j : Int) < S.f 17 10 → S.a 19 j ∈ P ++ acc := by
  intro j hj
  rw [← h.1]
  exact (rL_mem _).mpr ⟨j, by omega, rfl⟩
theorem CMt_room {S : yS} {P acc : List Int} {f : Int} (h : CMt S P acc) (hb : ¬ bt (S.f 17 8) f) (f0 : 0 ≤ f) (f1 : f < S.f 1 7) (n20 : S.f 1 7 ≤ 20) (hi : S.a 2 f.toNat = 1) (o0 : 0 ≤ S.f 17 10) : S.f 17 10 + 1 ≤ S.f 1 7 := by
  have hn := CMt_out h hb f0 (by omega) hi
  have hr := CMt_row h
  have := pigeon (S.f 1 7).toNat ((S.f 17 10).toNat + 1) (fun i => if i < (S.f 17 10).toNat then S.a 19 i else f) (fun i j hij hj => by
      have hi : i < (S.f 17 10).toNat := by omega
      simp only [hi, if_true]
      by_cases hj2 : j < (S.f 17 10).toNat
      · simp only [hj2, if_true]; exact h.2.2.2.2.2 i j hij (by omega)
      · simp only [hj2, if_false]; intro e; exact hn (e ▸ hr i (by omega))) (fun i hi => by
      by_cases hi2 : i < (S.f 17 10).toNat
      · simp only [hi2, if_true]
        have := h.2.2.2.2.1 _ (hr i (by omega))
        omega
      · simp only [hi2, if_false]; omega)
  omega
theorem D19_push {S S1 : yS} {f : Int} (hd : ∀ i j : Nat, i < j → (j : Int) < S.f 17 10 → S.a 19 i ≠ S.a 19 j) (hn : ∀ j : Nat, (j : Int) < S.f 17 10 → S.a 19 j ≠ f) (o0 : 0 ≤ S.f 17 10) (e10 : S1.f 17 10 = S.f 17 10 + 1) (e19 : ∀ j, S1.a 19 j = (ysa S 19 (S.f 17 10).toNat f).a 19 j) : ∀ i j : Nat, i < j → (j : Int) < S1.f 17 10 → S1.a 19 i ≠ S1.a 19 j := by
  intro i j hij hj
  have hq : ∀ i : Nat, i ≠ (S.f 17 10).toNat → S1.a 19 i = S.a 19 i := fun i hi => (e19 i).trans (ysa_ne (Or.inr hi))
  have hl : S1.a 19 (S.f 17 10).toNat = f := (e19 _).trans ysa_eq
  rw [hq i (by omega)]
  by_cases hj2 : j = (S.f 17 10).toNat
  · rw [hj2, hl]; exact hn i (by omega)
  · rw [hq j hj2]; exact hd i j hij (by omega)
theorem CMt_push {S S1 : yS} {P acc : List Int} {f : Int} (h : CMt S P acc) (hb : ¬ bt (S.f 17 8) f) (f0 : 0 ≤ f) (f1 : f < S.f 1 7) (n20 : S.f 1 7 ≤ 20) (hi : S.a 2 f.toNat = 1) (o0 : 0 ≤ S.f 17 10) (e8 : S1.f 17 8 = yor (S.f 17 8) (yshl 1 f)) (e10 : S1.f 17 10 = S.f 17 10 + 1) (e19 : ∀ j, S1.a 19 j = (ysa S 19 (S.f 17 10).toNat f).a 19 j) (e2 : ∀ j, S1.a 2 j = S.a 2 j) (e7 : S1.f 1 7 = S.f 1 7) : CMt S1 P (acc ++ [f]) := by
  have hn := CMt_out h hb f0 (by omega) hi
  have hr := CMt_row h
  refine ⟨?_, ?_, ?_, ?_, ?_, ?_⟩
  · rw [e10, rL_push o0 e19, h.1, List.append_assoc]
  · intro x x0 x1
    have a := bt_or (a := S.f 17 8) (b := yshl 1 f) x0 (by omega : x < 32)
    have b := bt_shl (n := f) f0 (by omega) x0 (by omega : x < 32)
    have c := h.2.1 x x0 x1
    rw [e8]
    constructor
    · intro q
      rcases a.mp q with q1 | q1
      · exact List.mem_append_left _ (c.mp q1)
      · exact List.mem_append_right _ (List.mem_singleton.mpr (b.mp q1))
    · intro q
      rcases List.mem_append.mp q with q1 | q1
      · exact a.mpr (Or.inl (c.mpr q1))
      · exact a.mpr (Or.inr (b.mpr (List.mem_singleton.mp q1)))
  · intro x hx; rw [e2]; exact h.2.2.1 x hx
  · intro x hx
    rw [e2]
    rcases List.mem_append.mp hx with h1 | h1
    · exact h.2.2.2.1 x h1
    · rw [List.mem_singleton.mp h1]; exact hi
  · intro x hx
    rw [← List.append_assoc] at hx
    rw [e7]
    rcases List.mem_append.mp hx with h1 | h1
    · exact h.2.2.2.2.1 x h1
    · rw [List.mem_singleton.mp h1]; exact ⟨f0, f1⟩
  · exact D19_push (f := f) h.2.2.2.2.2 (fun j hj e => hn (e ▸ hr j hj)) o0 e10 e19
def mtH (S : yS) (f dp : Int) : Prop := RI S ∧ FC S ∧ (0 ≤ f ∧ f < S.f 1 7) ∧ S.a 2 f.toNat = 1 ∧ dp ≤ S.f 17 10 ∧ 0 ≤ S.f 17 10 ∧ S.f 1 7 ≤ 20
/-- what meet does -/
def mtQ (S S1 : yS) (f dp : Int) : Prop := mtH S f dp → ∀ P acc : List Int, CMt S P acc → ∃ acc2, CMt S1 P acc2 ∧ DF (chC S) [f] acc acc2
def mtL (S0 S : yS) (f dp j : Int) : Prop := mtH S0 f dp → ∀ P acc : List Int, CMt S0 P acc → ∃ acc2, CMt S P acc2 ∧ DF (chC S0) (chI S0 8 f j.toNat) (acc ++ [f]) acc2 ∧ ¬ f ∈ acc
theorem mt_in {S : yS} {f dp : Int} (hb : yand (yshr (S.f 17 8) f) 1 ≠ 0) : mtQ S S f dp := by
  intro hh P acc hc
  have n20 := hh.2.2.2.2.2.2
  have f1 := hh.2.2.1.2
  exact ⟨acc, hc, DF_in ((hc.2.1 f hh.2.2.1.1 (by omega)).mp hb) DF_nil⟩
theorem mt_full {S : yS} {f dp : Int} (hb : yand (yshr (S.f 17 8) f) 1 = 0) (h : 20 ≤ dp ∨ 20 ≤ S.f 17 10) : mtQ S S f dp := by
  intro hh P acc hc
  obtain ⟨-, -, ⟨f0, f1⟩, hi, d1, o0, n20⟩ := hh
  have := CMt_room hc (fun q => q hb) f0 f1 n20 hi o0
  exfalso
  omega
theorem mtL_0 {S S1 : yS} {f dp : Int} (hb : yand (yshr (S.f 17 8) f) 1 = 0) (e8 : S1.f 17 8 = yor (S.f 17 8) (yshl 1 f)) (e10 : S1.f 17 10 = S.f 17 10 + 1) (e19 : ∀ j, S1.a 19 j = (ysa S 19 (S.f 17 10).toNat f).a 19 j) (e2 : ∀ j, S1.a 2 j = S.a 2 j) (e7 : S1.f 1 7 = S.f 1 7) : mtL S S1 f dp 0 := by
  intro hh P acc hc
  obtain ⟨-, -, ⟨f0, f1⟩, hi, d1, o0, n20⟩ := hh
  have hb2 : ¬ bt (S.f 17 8) f := fun q => q hb
  exact ⟨acc ++ [f], CMt_push hc hb2 f0 f1 n20 hi o0 e8 e10 e19 e2 e7, DF_nil, fun q => CMt_out hc hb2 f0 (by omega) hi (List.mem_append_right _ q)⟩
theorem mtL_s {S0 S S1 : yS} {f dp j z : Int} (h : mtL S0 S f dp j) (hT : sT S0 S) (j0 : 0 ≤ j) (j1 : j < S.a 7 f.toNat) (o1 : S0.f 17 10 + 1 ≤ S.f 17 10) (hz : z = S.a 8 (4 * f + j).toNat) (hq : mtQ S S1 z (dp + 1)) : mtL S0 S1 f dp (j + 1) := by
  intro hh P acc hc
  obtain ⟨hr, hf, ⟨f0, f1⟩, hi, d1, o0, n20⟩ := id hh
  obtain ⟨acc2, hc2, hd, hn⟩ := h hh P acc hc
  have e2 : ∀ k, S.a 2 k = S0.a 2 k := fun k => (hT.2 k).1
  have e7 : ∀ k, S.a 7 k = S0.a 7 k := fun k => (hT.2 k).2.2.1
  have e8 : ∀ k, S.a 8 k = S0.a 8 k := fun k => (hT.2 k).2.2.2
  have e1 : S.f 1 7 = S0.f 1 7 := hT.1
  have hr2 : RI S := sT_RI hT hr
  have hf2 : FC S := sT_FC hT hf
  have hz1 : S.a 2 z.toNat = 1 := by rw [hz]; exact hr2.1 f j f0 (by omega) j0 j1
  have hz2 : 0 ≤ z ∧ z < S.f 1 7 := by rw [hz]; exact hf2.2.1 f j f0 (by omega) j0 j1
  obtain ⟨acc3, hc3, hd3⟩ := hq ⟨hr2, hf2, hz2, hz1, by omega, by omega, by omega⟩ P acc2 hc2
  refine ⟨acc3, hc3, ?_, hn⟩
  rw [chC_eq e7 e8] at hd3
  rw [chI_s j0, ← e8, ← hz]
  exact DF_app hd hd3
theorem mt_end {S0 S : yS} {f dp j : Int} (h : mtL S0 S f dp j) (hj : S0.a 7 f.toNat = j) : mtQ S0 S f dp := by
  intro hh P acc hc
  obtain ⟨acc2, hc2, hd, hn⟩ := h hh P acc hc
  refine ⟨acc2, hc2, DF_new hn ?_⟩
  rw [List.append_nil]
  unfold chC
  rw [hj]
  exact hd
/-! meetAll -/
def parC (S : yS) (t : Int) : Int := S.a 5 t.toNat
def parM (S : yS) (t : Int) : Int := S.a 49 t.toNat
def maH (S : yS) : Prop := RI S ∧ FC S ∧ (0 ≤ S.f 17 6 ∧ S.f 17 6 < S.f 1 7) ∧ S.a 2 (S.f 17 6).toNat = 0 ∧ S.a 5 0 < 0 ∧ S.f 1 7 ≤ 20 ∧ (∀ j : Nat, (j : Int) < S.f 17 7 → 0 ≤ S.a 18 j ∧ S.a 18 j < S.f 1 7 ∧ S.a 2 (S.a 18 j).toNat = 1)
def chP (S : yS) : List Int := chn (parC S) 20 (S.f 17 6)
def maQ (S S1 : yS) : Prop := maH S → ∃ acc, rL S1 19 (S1.f 17 10).toNat = chP S ++ acc ∧ DF (chC S) (flt (chC S) (chP S) ++ rL S 18 (S.f 17 7).toNat) [] acc
def mC0 (S0 S : yS) (t : Int) : Prop := maH S0 → CMt S (rL S 19 (S.f 17 10).toNat) [] ∧ rL S 19 (S.f 17 10).toNat ++ chn (parC S0) (20 - S.f 17 10).toNat t = chP S0 ∧ (0 ≤ t → t < S0.f 1 7 ∧ S0.a 2 t.toNat = 0 ∧ ∀ x ∈ rL S 19 (S.f 17 10).toNat, t < x)
theorem bt_z {x : Int} (h0 : 0 ≤ x) (h1 : x < 32) : ¬ bt 0 x := by
  rw [bt_iff h0 h1]
  have e : enc 0 = 0 := rfl
  rw [e, Nat.zero_testBit]
  exact Bool.false_ne_true
theorem mC0_0 {S0 S : yS} {t : Int} (ht : t = S0.f 17 6) (e8 : S.f 17 8 = 0) (e10 : S.f 17 10 = 0) : mC0 S0 S t := by
  intro hh
  have e : rL S 19 (S.f 17 10).toNat = [] := by rw [e10]; rfl
  refine ⟨⟨by rw [List.append_nil], fun x x0 x1 => ?_, ?_, ?_, ?_, ?_⟩, ?_, ?_⟩
  · rw [e8]; exact ⟨fun q => absurd q (bt_z x0 (by omega)), fun q => absurd q List.not_mem_nil⟩
  · rw [e]; intro x hx; exact absurd hx List.not_mem_nil
  · intro x hx; exact absurd hx List.not_mem_nil
  · rw [e]; intro x hx; exact absurd hx List.not_mem_nil
  · intro i j _ hj; exact absurd hj (by omega)
  · rw [e, e10, ht]; rfl
  · intro _
    rw [ht, e]
    exact ⟨hh.2.2.1.2, hh.2.2.2.1, fun x hx => absurd hx List.not_mem_nil⟩
theorem mC0_s {S0 S S1 : yS} {t t2 : Int} (h : mC0 S0 S t) (e2' : ∀ j, S.a 2 j = S0.a 2 j) (e7' : S.f 1 7 = S0.f 1 7) (t0 : 0 ≤ t) (o0 : 0 ≤ S.f 17 10) (o1 : S.f 17 10 < 20) (ht : t2 = S0.a 5 t.toNat) (e8 : S1.f 17 8 = S.f 17 8) (e10 : S1.f 17 10 = S.f 17 10 + 1) (e19 : ∀ j, S1.a 19 j = (ysa S 19 (S.f 17 10).toNat t).a 19 j) (e2 : ∀ j, S1.a 2 j = S.a 2 j) (e7 : S1.f 1 7 = S.f 1 7) : mC0 S0 S1 t2 := by
  intro hh
  obtain ⟨hc, he, hx⟩ := h hh
  obtain ⟨x1, x2, x3⟩ := hx t0
  have eL : rL S1 19 (S1.f 17 10).toNat = rL S 19 (S.f 17 10).toNat ++ [t] := by rw [e10]; exact rL_push o0 e19
  have hr := CMt_row hc
  rw [List.append_nil] at hr
  refine ⟨⟨by rw [List.append_nil], fun x x0 x1 => ?_, ?_, ?_, ?_, ?_⟩, ?_, ?_⟩
  · rw [e8]; exact hc.2.1 x x0 x1
  · rw [eL]
    intro x hm
    rw [e2]
    rcases List.mem_append.mp hm with h1 | h1
    · exact hc.2.2.1 x h1
    · rw [List.mem_singleton.mp h1, e2']; exact x2
  · intro x hm; exact absurd hm List.not_mem_nil
  · rw [eL, List.append_nil]
    intro x hm
    rw [e7]
    rcases List.mem_append.mp hm with h1 | h1
    · exact hc.2.2.2.2.1 x (List.mem_append_left _ h1)
    · rw [List.mem_singleton.mp h1, e7']; exact ⟨t0, x1⟩
  · exact D19_push hc.2.2.2.2.2 (fun j hj e => by have := x3 _ (hr j hj); omega) o0 e10 e19
  · rw [eL, e10, List.append_assoc]
    have e : (20 - S.f 17 10).toNat = (20 - (S.f 17 10 + 1)).toNat + 1 := by omega
    rw [e, chn_pos t0] at he
    have e3 : parC S0 t = t2 := ht.symm
    rw [e3] at he
    exact he
  · intro q0
    rcases Int.lt_or_le 0 t with p0 | p0
    · have f5 := hh.2.1.1 t (by omega) x1
      rw [ht]
      refine ⟨by omega, hh.1.2 t (by omega) x1 x2, ?_⟩
      rw [eL]
      intro x hm
      rcases List.mem_append.mp hm with h1 | h1
      · have := x3 x h1; omega
      · rw [List.mem_singleton.mp h1]; exact f5.2
    · have : t = 0 := by omega
      have h5 := hh.2.2.2.2.1
      rw [ht, this] at q0
      have q1 : S0.a 5 (0 : Int).toNat = S0.a 5 0 := rfl
      omega
def mC1 (S0 S : yS) (cl k : Int) : Prop := maH S0 → ∃ acc, CMt S (chP S0) acc ∧ cl = ((chP S0).length : Int) ∧ DF (chC S0) (flt (chC S0) (rL S 19 k.toNat)) [] acc
def mC2 (S0 S : yS) (cl k j : Int) : Prop := maH S0 → ∃ acc, CMt S (chP S0) acc ∧ cl = ((chP S0).length : Int) ∧ DF (chC S0) (flt (chC S0) (rL S 19 k.toNat) ++ chI S0 8 (S.a 19 k.toNat) j.toNat) [] acc
def mC3 (S0 S : yS) (j : Int) : Prop := maH S0 → ∃ acc, CMt S (chP S0) acc ∧ DF (chC S0) (flt (chC S0) (chP S0) ++ rL S0 18 j.toNat) [] acc
theorem mC1_0 {S0 S : yS} {t : Int} (h : mC0 S0 S t) (ht : t < 0 ∨ 20 ≤ S.f 17 10) (o0 : 0 ≤ S.f 17 10) : mC1 S0 S (S.f 17 10) 0 := by
  intro hh
  obtain ⟨hc, he, -⟩ := h hh
  have e : chn (parC S0) (20 - S.f 17 10).toNat t = [] := by
    rcases ht with q | q
    · exact chn_neg q
    · have : (20 - S.f 17 10).toNat = 0 := by omega
      rw [this]; rfl
  rw [e, List.append_nil] at he
  rw [he] at hc
  refine ⟨[], hc, ?_, DF_nil⟩
  rw [← he, rL_len]
  omega
theorem mC2_0 {S0 S : yS} {cl k : Int} (h : mC1 S0 S cl k) : mC2 S0 S cl k 0 := by
  intro hh
  obtain ⟨acc, hc, hl, hd⟩ := h hh
  refine ⟨acc, hc, hl, ?_⟩
  show DF (chC S0) (flt (chC S0) (rL S 19 k.toNat) ++ []) [] acc
  rw [List.append_nil]
  exact hd
theorem CMt_cl {S : yS} {P acc : List Int} (h : CMt S P acc) (o0 : 0 ≤ S.f 17 10) : (P.length : Int) ≤ S.f 17 10 := by
  have := congrArg List.length h.1
  rw [rL_len, List.length_append] at this
  omega
/-- a type met from the state S, in the frame of S0 -/
theorem mC_meet {S0 S S1 : yS} {P acc : List Int} {z : Int} (hh : maH S0) (hT : sT S0 S) (hc : CMt S P acc) (o0 : 0 ≤ S.f 17 10) (hz : 0 ≤ z ∧ z < S0.f 1 7) (hi : S0.a 2 z.toNat = 1) (hq : mtQ S S1 z 0) : ∃ acc2, CMt S1 P acc2 ∧ DF (chC S0) [z] acc acc2 := by
  obtain ⟨hr, hf, -, -, -, n20, -⟩ := id hh
  have e2 : ∀ k, S.a 2 k = S0.a 2 k := fun k => (hT.2 k).1
  have e7 : ∀ k, S.a 7 k = S0.a 7 k := fun k => (hT.2 k).2.2.1
  have e8 : ∀ k, S.a 8 k = S0.a 8 k := fun k => (hT.2 k).2.2.2
  have e1 : S.f 1 7 = S0.f 1 7 := hT.1
  have hr2 : RI S := sT_RI hT hr
  have hf2 : FC S := sT_FC hT hf
  have h9 := hq ⟨hr2, hf2, ⟨hz.1, by omega⟩, by rw [e2]; exact hi, by omega, o0, by omega⟩ P acc hc
  rw [chC_eq e7 e8] at h9
  exact h9
theorem mC2_s {S0 S S1 : yS} {cl k j z : Int} (h : mC2 S0 S cl k j) (hT : sT S0 S) (o0 : 0 ≤ S.f 17 10) (k0 : 0 ≤ k) (k1 : k < cl) (j0 : 0 ≤ j) (j1 : j < S.a 7 (S.a 19 k.toNat).toNat) (hz : z = S.a 8 (4 * S.a 19 k.toNat + j).toNat) (hk : ∀ i : Nat, (i : Int) < S.f 17 10 → S1.a 19 i = S.a 19 i) (hq : mtQ S S1 z 0) : mC2 S0 S1 cl k (j + 1) := by
  intro hh
  obtain ⟨acc, hc, hl, hd⟩ := h hh
  have e7 : ∀ k, S.a 7 k = S0.a 7 k := fun k => (hT.2 k).2.2.1
  have e8 : ∀ k, S.a 8 k = S0.a 8 k := fun k => (hT.2 k).2.2.2
  have e1 : S.f 1 7 = S0.f 1 7 := hT.1
  have hcl := CMt_cl hc o0
  have hx := hc.2.2.2.2.1 _ (CMt_row hc k.toNat (by omega))
  have hz8 : z = S0.a 8 (4 * S.a 19 k.toNat + j).toNat := by rw [hz, e8]
  have g1 := hh.1.1 (S.a 19 k.toNat) j hx.1 (by omega) j0 (by rw [← e7]; exact j1)
  have g2 := hh.2.1.2.1 (S.a 19 k.toNat) j hx.1 (by omega) j0 (by rw [← e7]; exact j1)
  rw [← hz8] at g1 g2
  obtain ⟨acc2, hc2, hd2⟩ := mC_meet hh hT hc o0 g2 g1 hq
  refine ⟨acc2, hc2, hl, ?_⟩
  rw [rL_eq (S := S) (b := 19) k.toNat (fun i hi => hk i (by omega)), hk k.toNat (by omega), chI_s j0, ← hz8, ← List.append_assoc]
  exact DF_app hd hd2
theorem mC1_s {S0 S : yS} {cl k j : Int} (h : mC2 S0 S cl k j) (k0 : 0 ≤ k) (e7 : ∀ k, S.a 7 k = S0.a 7 k) (hj : S.a 7 (S.a 19 k.toNat).toNat = j) : mC1 S0 S cl (k + 1) := by
  intro hh
  obtain ⟨acc, hc, hl, hd⟩ := h hh
  refine ⟨acc, hc, hl, ?_⟩
  rw [rL_s k0, flt_snoc]
  unfold chC at hd ⊢
  rw [← e7, hj]
  exact hd
theorem mC3_0 {S0 S : yS} {cl k : Int} (h : mC1 S0 S cl k) (k0 : 0 ≤ k) (hk : k = cl) : mC3 S0 S 0 := by
  intro hh
  obtain ⟨acc, hc, hl, hd⟩ := h hh
  refine ⟨acc, hc, ?_⟩
  show DF (chC S0) (flt (chC S0) (chP S0) ++ []) [] acc
  have e : k.toNat = (chP S0).length := by omega
  rw [e, rL_pre hc.1] at hd
  rw [List.append_nil]
  exact hd
theorem mC3_s {S0 S S1 : yS} {j z : Int} (h : mC3 S0 S j) (hT : sT S0 S) (e18 : ∀ k, S.a 18 k = S0.a 18 k) (e77 : S.f 17 7 = S0.f 17 7) (o0 : 0 ≤ S.f 17 10) (j0 : 0 ≤ j) (j1 : j < S.f 17 7) (hz : z = S.a 18 j.toNat) (hq : mtQ S S1 z 0) : mC3 S0 S1 (j + 1) := by
  intro hh
  obtain ⟨acc, hc, hd⟩ := h hh
  obtain ⟨g1, g2, g3⟩ := hh.2.2.2.2.2.2 j.toNat (by omega)
  have hz8 : z = S0.a 18 j.toNat := by rw [hz, e18]
  rw [← hz8] at g1 g2 g3
  obtain ⟨acc2, hc2, hd2⟩ := mC_meet hh hT hc o0 ⟨g1, g2⟩ g3 hq
  refine ⟨acc2, hc2, ?_⟩
  rw [rL_s j0, ← hz8, ← List.append_assoc]
  exact DF_app hd hd2
theorem ma_end {S0 S S1 : yS} {j : Int} (h : mC3 S0 S j) (hj : j = S0.f 17 7) (e10 : S1.f 17 10 = S.f 17 10) (e19 : ∀ j, S1.a 19 j = S.a 19 j) : maQ S0 S1 := by
  intro hh
  obtain ⟨acc, hc, hd⟩ := h hh
  refine ⟨acc, ?_, ?_⟩
  · rw [e10, rL_eq (S := S) (b := 19) _ (fun j _ => e19 j)]; exact hc.1
  · rw [← hj]; exact hd
/-! collectAll -/
def inhC (S : yS) (m : Int) : Prop := S.a 11 m.toNat ≠ 10 ∧ yand (S.a 12 m.toNat) 12 = 0 ∧ (yand (S.a 12 m.toNat) 7 ≠ 0 ∨ S.a 4 (S.a 10 m.toNat).toNat = S.a 4 (S.f 17 6).toNat)
def samC (S : yS) (x m : Int) : Prop := S.a 11 x.toNat = S.a 11 m.toNat ∧ S.a 13 x.toNat = S.a 13 m.toNat ∧ S.a 14 x.toNat = S.a 14 m.toNat
def nsS (S : yS) (k m : Int) : Prop := ∀ j : Nat, (j : Int) < k → ¬ samC S (S.a 20 j) m
theorem nsS_0 {S : yS} {m : Int} : nsS S 0 m := fun j hj => absurd hj (by omega)
theorem nsS_s {S : yS} {k m : Int} (h : nsS S k m) (h0 : 0 ≤ k) (hn : S.a 11 (S.a 20 k.toNat).toNat ≠ S.a 11 m.toNat ∨ S.a 13 (S.a 20 k.toNat).toNat ≠ S.a 13 m.toNat ∨ S.a 14 (S.a 20 k.toNat).toNat ≠ S.a 14 m.toNat) : nsS S (k + 1) m := by
  intro j hj
  by_cases e : j = k.toNat
  · rw [e]; intro q; unfold samC at q; omega
  · exact h j (by omega)
def isS (S : yS) (k m : Int) : Prop := ∃ j : Nat, (j : Int) < k ∧ samC S (S.a 20 j) m
theorem isS_of {S : yS} {k n m : Int} (h0 : 0 ≤ k) (h1 : k < n) (e1 : S.a 11 (S.a 20 k.toNat).toNat = S.a 11 m.toNat) (e2 : S.a 13 (S.a 20 k.toNat).toNat = S.a 13 m.toNat) (e3 : S.a 14 (S.a 20 k.toNat).toNat = S.a 14 m.toNat) : isS S n m := ⟨k.toNat, by omega, e1, e2, e3⟩
def okC (S : yS) (c t : Int) (m : Nat) : Bool := decide (S.a 10 m = t ∧ S.a 11 m ≠ 10 ∧ yand (S.a 12 m) 12 = 0 ∧ (yand (S.a 12 m) 7 ≠ 0 ∨ S.a 4 t.toNat = S.a 4 c.toNat))
def smC (S : yS) (x : Int) (m : Nat) : Bool := decide (S.a 11 x.toNat = S.a 11 m ∧ S.a 13 x.toNat = S.a 13 m ∧ S.a 14 x.toNat = S.a 14 m)
def nfC (S : yS) (x : Int) : Bool := decide (yand (S.a 12 x.toNat) 16 = 0)
def cnt (S : yS) : List Int := rL S 20 (S.f 17 11).toNat
def fnd (S : yS) : List Int := rL S 21 (S.f 17 12).toNat
def ctQ (S S1 : yS) (m : Int) : Prop := cnt S1 = cnt S ++ [m] ∧ (yand (S.a 12 m.toNat) 16 = 0 → fnd S1 = fnd S ++ [m]) ∧ (yand (S.a 12 m.toNat) 16 ≠ 0 → fnd S1 = fnd S)
theorem ct_y {S S1 : yS} {m : Int} (o0 : 0 ≤ S.f 17 11) (f0 : 0 ≤ S.f 17 12) (hy : yand (S.a 12 m.toNat) 16 = 0) (e11 : S1.f 17 11 = S.f 17 11 + 1) (e20 : ∀ j, S1.a 20 j = (ysa S 20 (S.f 17 11).toNat m).a 20 j) (e12 : S1.f 17 12 = S.f 17 12 + 1) (e21 : ∀ j, S1.a 21 j = (ysa S 21 (S.f 17 12).toNat m).a 21 j) : ctQ S S1 m := by
  refine ⟨?_, fun _ => ?_, fun q => absurd hy q⟩
  · unfold cnt; rw [e11]; exact rL_push o0 e20
  · unfold fnd; rw [e12]; exact rL_push f0 e21
theorem ct_n {S S1 : yS} {m : Int} (o0 : 0 ≤ S.f 17 11) (hy : yand (S.a 12 m.toNat) 16 ≠ 0) (e11 : S1.f 17 11 = S.f 17 11 + 1) (e20 : ∀ j, S1.a 20 j = (ysa S 20 (S.f 17 11).toNat m).a 20 j) (e12 : S1.f 17 12 = S.f 17 12) (e21 : ∀ j, S1.a 21 j = S.a 21 j) : ctQ S S1 m := by
  refine ⟨?_, fun q => absurd q hy, fun _ => ?_⟩
  · unfold cnt; rw [e11]; exact rL_push o0 e20
  · unfold fnd; rw [e12]; exact rL_eq _ (fun j _ => e21 j)
def caL (S0 : yS) (l : List Int) : List Int := cAll (okC S0 (S0.f 17 6)) (smC S0) (S0.f 9 8).toNat l []
def cA1 (S0 S : yS) (k : Int) : Prop := cnt S = caL S0 (rL S0 19 k.toNat) ∧ fnd S = (cnt S).filter (nfC S0)
def cA2 (S0 S : yS) (k m : Int) : Prop := cnt S = cM (okC S0 (S0.f 17 6) (S0.a 19 k.toNat)) (smC S0) (caL S0 (rL S0 19 k.toNat)) m.toNat ∧ fnd S = (cnt S).filter (nfC S0)
def caQ (S S1 : yS) : Prop := cnt S1 = caL S (rL S 19 (S.f 17 10).toNat) ∧ fnd S1 = (cnt S1).filter (nfC S)
theorem cA1_0 {S0 S : yS} (e11 : S.f 17 11 = 0) (e12 : S.f 17 12 = 0) : cA1 S0 S 0 := by
  have a : cnt S = [] := by unfold cnt; rw [e11]; rfl
  have b : fnd S = [] := by unfold fnd; rw [e12]; rfl
  exact ⟨a, by rw [a, b]; rfl⟩
theorem cA2_0 {S0 S : yS} {k : Int} (h : cA1 S0 S k) : cA2 S0 S k 0 := h
theorem cA1_s {S0 S : yS} {k m : Int} (h : cA2 S0 S k m) (k0 : 0 ≤ k) (hm : m = S0.f 9 8) : cA1 S0 S (k + 1) := by
  refine ⟨?_, h.2⟩
  rw [h.1, hm, rL_s k0]
  unfold caL
  rw [cAll_snoc]
theorem ca_end {S0 S : yS} {k : Int} (h : cA1 S0 S k) (hk : k = S0.f 17 10) : caQ S0 S := by
  unfold caQ
  rw [← hk]
  exact h
def sMm (S0 S : yS) : Prop := S.f 9 8 = S0.f 9 8 ∧ S.f 17 6 = S0.f 17 6 ∧ ∀ j, S.a 4 j = S0.a 4 j ∧ S.a 10 j = S0.a 10 j ∧ S.a 11 j = S0.a 11 j ∧ S.a 12 j = S0.a 12 j ∧ S.a 13 j = S0.a 13 j ∧ S.a 14 j = S0.a 14 j ∧ S.a 19 j = S0.a 19 j
theorem sMm_fr {S0 S : yS} {MF : List (Nat × Nat)} {MA : List Nat} (hF : yFr MF MA S0 S) (s1 : ydj2 [(9, 8), (17, 6)] MF = true) (s2 : ydj1 [4, 10, 11, 12, 13, 14, 19] MA = true) : sMm S0 S :=
  ⟨hF.f (ydj2_of s1 rfl), hF.f (ydj2_of s1 rfl), fun j => ⟨hF.a (ydj1_of s2 rfl) j, hF.a (ydj1_of s2 rfl) j, hF.a (ydj1_of s2 rfl) j, hF.a (ydj1_of s2 rfl) j, hF.a (ydj1_of s2 rfl) j, hF.a (ydj1_of s2 rfl) j, hF.a (ydj1_of s2 rfl) j⟩⟩
theorem cA2_n1 {S0 S : yS} {k m : Int} (h : cA2 S0 S k m) (e : sMm S0 S) (m0 : 0 ≤ m) (hn : S.a 10 m.toNat ≠ S.a 19 k.toNat ∨ ¬ inhC S m) : cA2 S0 S k (m + 1) := by
  refine ⟨?_, h.2⟩
  rw [h.1, cM_n1 m0]
  unfold okC
  rw [decide_eq_false_iff_not]
  intro q
  obtain ⟨q1, q2, q3, q4⟩ := q
  unfold inhC at hn
  rw [(e.2.2 _).2.1, (e.2.2 _).2.2.2.2.2.2, (e.2.2 _).2.2.1, (e.2.2 _).2.2.2.1, (e.2.2 _).1, (e.2.2 _).1, e.2.1] at hn
  rcases hn with hn | hn
  · exact hn q1
  · refine hn ⟨q2, q3, ?_⟩
    rcases q4 with q4 | q4
    · exact Or.inl q4
    · exact Or.inr (by rw [q1]; exact q4)
theorem cA2_n2 {S0 S : yS} {k m : Int} (h : cA2 S0 S k m) (e : sMm S0 S) (m0 : 0 ≤ m) (hs : isS S (S.f 17 11) m) : cA2 S0 S k (m + 1) := by
  refine ⟨?_, h.2⟩
  obtain ⟨j, hj, s1, s2, s3⟩ := hs
  rw [h.1]
  refine (cM_n2 (x := S.a 20 j) m0 ?_ ?_).symm
  · rw [← h.1]; exact (rL_mem _).mpr ⟨j, by omega, rfl⟩
  · unfold smC
    rw [(e.2.2 _).2.2.1, (e.2.2 _).2.2.1] at s1
    rw [(e.2.2 _).2.2.2.2.1, (e.2.2 _).2.2.2.2.1] at s2
    rw [(e.2.2 _).2.2.2.2.2.1, (e.2.2 _).2.2.2.2.2.1] at s3
    exact decide_eq_true ⟨s1, s2, s3⟩
theorem cA2_y {S0 S S1 : yS} {k m : Int} (h : cA2 S0 S k m) (e : sMm S0 S) (m0 : 0 ≤ m) (h1 : S.a 10 m.toNat = S.a 19 k.toNat) (h2 : inhC S m) (h3 : nsS S (S.f 17 11) m) (hc : ctQ S S1 m) : cA2 S0 S1 k (m + 1) := by
  obtain ⟨c1, c2, c3⟩ := hc
  have e12 := (e.2.2 m.toNat).2.2.2.1
  refine ⟨?_, ?_⟩
  · rw [c1, h.1]
    refine (cM_y m0 ?_ ?_).symm
    · unfold okC
      obtain ⟨q2, q3, q4⟩ := h2
      rw [(e.2.2 _).2.1, (e.2.2 _).2.2.2.2.2.2] at h1
      rw [(e.2.2 _).2.2.1] at q2
      rw [e12] at q3 q4
      rw [(e.2.2 _).1, (e.2.2 _).1, e.2.1, (e.2.2 _).2.1, h1] at q4
      exact decide_eq_true ⟨h1, q2, q3, q4⟩
    · intro x hx
      rw [← h.1] at hx
      obtain ⟨j, hj, rfl⟩ := (rL_mem _).mp hx
      unfold smC
      rw [decide_eq_false_iff_not]
      intro q
      refine h3 j (by omega) ?_
      unfold samC
      rw [(e.2.2 _).2.2.1, (e.2.2 _).2.2.1, (e.2.2 _).2.2.2.2.1, (e.2.2 _).2.2.2.2.1, (e.2.2 _).2.2.2.2.2.1, (e.2.2 _).2.2.2.2.2.1]
      exact q
  · rw [c1, List.filter_append]
    by_cases hf : yand (S.a 12 m.toNat) 16 = 0
    · have : nfC S0 m = true := decide_eq_true (by rw [← e12]; exact hf)
      rw [c2 hf, h.2, List.filter_cons_of_pos this]
      rfl
    · have : ¬ nfC S0 m = true := by unfold nfC; rw [decide_eq_true_iff, ← e12]; exact hf
      rw [c3 hf, h.2, List.filter_cons_of_neg this]
      exact (List.append_nil _).symm
/-! clash -/
def clC (S : yS) (m o : Int) : Prop := S.a 11 m.toNat = S.a 11 o.toNat ∧ S.a 13 m.toNat = S.a 13 o.toNat ∧ (((S.a 14 m.toNat < 4 ∨ S.a 14 o.toNat < 4) ∧ S.a 14 m.toNat ≠ S.a 14 o.toNat) ∨ ((4 ≤ S.a 14 m.toNat ∧ 4 ≤ S.a 14 o.toNat) ∧ ¬ bt (S.a 6 (S.a 14 m.toNat - 4).toNat) (S.a 14 o.toNat - 4) ∧ ¬ bt (S.a 6 (S.a 14 o.toNat - 4).toNat) (S.a 14 m.toNat - 4)))
theorem cl_n1 {S : yS} {m o : Int} (h : S.a 11 m.toNat ≠ S.a 11 o.toNat ∨ S.a 13 m.toNat ≠ S.a 13 o.toNat) : ¬ clC S m o := by
  intro q
  have q1 := q.1
  have q2 := q.2.1
  omega
theorem cl_y1 {S : yS} {m o : Int} (h1 : S.a 11 m.toNat = S.a 11 o.toNat) (h2 : S.a 13 m.toNat = S.a 13 o.toNat) (h3 : S.a 14 m.toNat < 4 ∨ S.a 14 o.toNat < 4) (h4 : S.a 14 m.toNat ≠ S.a 14 o.toNat) : clC S m o := ⟨h1, h2, Or.inl ⟨h3, h4⟩⟩
theorem cl_n2 {S : yS} {m o : Int} (h3 : S.a 14 m.toNat < 4 ∨ S.a 14 o.toNat < 4) (h4 : S.a 14 m.toNat = S.a 14 o.toNat) : ¬ clC S m o := by
  intro q
  rcases q.2.2 with q | q
  · exact q.2 h4
  · have := q.1; omega
theorem cl_n3 {S : yS} {m o : Int} (h3 : 4 ≤ S.a 14 m.toNat) (h4 : 4 ≤ S.a 14 o.toNat) (h : bt (S.a 6 (S.a 14 m.toNat - 4).toNat) (S.a 14 o.toNat - 4) ∨ bt (S.a 6 (S.a 14 o.toNat - 4).toNat) (S.a 14 m.toNat - 4)) : ¬ clC S m o := by
  intro q
  rcases q.2.2 with q | q
  · have := q.1; omega
  · exact h.elim q.2.1 q.2.2
theorem cl_y2 {S : yS} {m o : Int} (h1 : S.a 11 m.toNat = S.a 11 o.toNat) (h2 : S.a 13 m.toNat = S.a 13 o.toNat) (h3 : 4 ≤ S.a 14 m.toNat) (h4 : 4 ≤ S.a 14 o.toNat) (a : ¬ bt (S.a 6 (S.a 14 m.toNat - 4).toNat) (S.a 14 o.toNat - 4)) (b : ¬ bt (S.a 6 (S.a 14 o.toNat - 4).toNat) (S.a 14 m.toNat - 4)) : clC S m o := ⟨h1, h2, Or.inr ⟨⟨h3, h4⟩, a, b⟩⟩
def hcN (S : yS) (k : Int) : Prop := ∀ i j : Nat, j < i → (i : Int) < k → ¬ clC S (S.a 21 i) (S.a 21 j)
def hcJ (S : yS) (k j : Int) : Prop := ∀ i : Nat, (i : Int) < j → ¬ clC S (S.a 21 k.toNat) (S.a 21 i)
def hcY (S : yS) : Prop := ∃ i j : Nat, j < i ∧ (i : Int) < S.f 17 12 ∧ clC S (S.a 21 i) (S.a 21 j)
theorem hcN_0 {S : yS} : hcN S 0 := fun i j _ h => absurd h (by omega)
theorem hcJ_0 {S : yS} {k : Int} : hcJ S k 0 := fun i h => absurd h (by omega)
theorem hcJ_s {S : yS} {k j : Int} (h : hcJ S k j) (j0 : 0 ≤ j) (hn : ¬ clC S (S.a 21 k.toNat) (S.a 21 j.toNat)) : hcJ S k (j + 1) := by
  intro i hi
  by_cases e : i = j.toNat
  · rw [e]; exact hn
  · exact h i (by omega)
theorem hcN_s {S : yS} {k j : Int} (h : hcN S k) (k0 : 0 ≤ k) (hj : hcJ S k j) (e : k ≤ j) : hcN S (k + 1) := by
  intro i l hl hi
  by_cases q : i = k.toNat
  · rw [q]; exact hj l (by omega)
  · exact h i l hl (by omega)
theorem hcY_of {S : yS} {k j : Int} (j0 : 0 ≤ j) (k0 : j < k) (k1 : k < S.f 17 12) (h : clC S (S.a 21 k.toNat) (S.a 21 j.toNat)) : hcY S := ⟨k.toNat, j.toNat, by omega, by omega, h⟩
/-! refusal -/
def opC (S : yS) (m t : Int) : Prop := S.a 10 m.toNat = t ∧ S.a 11 m.toNat = 10 ∧ yand (S.a 12 m.toNat) 4 = 0
def ocY (S : yS) (t : Int) : Prop := ∃ m : Int, 0 ≤ m ∧ m < S.f 9 8 ∧ opC S m t
def ocN (S : yS) (k t : Int) : Prop := ∀ m : Int, 0 ≤ m → m < k → ¬ opC S m t
theorem ocN_0 {S : yS} {t : Int} : ocN S 0 t := fun m h0 h1 => absurd h0 (by omega)
theorem ocN_s {S : yS} {k t : Int} (h : ocN S k t) (hn : ¬ opC S k t) : ocN S (k + 1) t := by
  intro m m0 m1
  by_cases e : m = k
  · rw [e]; exact hn
  · exact h m m0 (by omega)
def diC (S : yS) (k : Int) : Prop := ∀ i : Nat, (i : Int) < k → S.a 2 (S.a 18 i).toNat ≠ 0 ∧ ∀ j : Nat, j < i → S.a 18 i ≠ S.a 18 j
def diJ (S : yS) (k j : Int) : Prop := S.a 2 (S.a 18 k.toNat).toNat ≠ 0 ∧ ∀ i : Nat, (i : Int) < j → S.a 18 k.toNat ≠ S.a 18 i
theorem diC_0 {S : yS} : diC S 0 := fun i h => absurd h (by omega)
theorem diC_s {S : yS} {k j : Int} (h : diC S k) (k0 : 0 ≤ k) (hj : diJ S k j) (e : k ≤ j) : diC S (k + 1) := by
  intro i hi
  by_cases q : i = k.toNat
  · rw [q]; exact ⟨hj.1, fun l hl => hj.2 l (by omega)⟩
  · exact h i (by omega)
theorem diJ_0 {S : yS} {k : Int} (h : S.a 2 (S.a 18 k.toNat).toNat ≠ 0) : diJ S k 0 := ⟨h, fun i q => absurd q (by omega)⟩
theorem diJ_s {S : yS} {k j : Int} (h : diJ S k j) (j0 : 0 ≤ j) (hn : S.a 18 k.toNat ≠ S.a 18 j.toNat) : diJ S k (j + 1) := by
  refine ⟨h.1, fun i hi => ?_⟩
  by_cases q : i = j.toNat
  · rw [q]; exact hn
  · exact h.2 i (by omega)
theorem diN_1 {S : yS} {k n : Int} (k0 : 0 ≤ k) (k1 : k < n) (h : S.a 2 (S.a 18 k.toNat).toNat = 0) : ¬ diC S n := fun q => (q k.toNat (by omega)).1 h
theorem diN_2 {S : yS} {k j n : Int} (k1 : k < n) (j0 : 0 ≤ j) (j1 : j < k) (h : S.a 18 k.toNat = S.a 18 j.toNat) : ¬ diC S n := fun q => (q k.toNat (by omega)).2 j.toNat (by omega) h
def viC (S : yS) (k : Int) : Prop := ∀ i : Nat, (i : Int) < k → yand (S.a 3 (S.a 18 i).toNat) 1 ≠ 0 ∨ S.a 4 (S.a 18 i).toNat = S.a 4 (S.f 17 6).toNat
theorem viC_0 {S : yS} : viC S 0 := fun i h => absurd h (by omega)
theorem viC_s {S : yS} {k : Int} (h : viC S k) (k0 : 0 ≤ k) (hj : yand (S.a 3 (S.a 18 k.toNat).toNat) 1 ≠ 0 ∨ S.a 4 (S.a 18 k.toNat).toNat = S.a 4 (S.f 17 6).toNat) : viC S (k + 1) := by
  intro i hi
  by_cases q : i = k.toNat
  · rw [q]; exact hj
  · exact h i (by omega)
theorem viN {S : yS} {k n : Int} (k0 : 0 ≤ k) (k1 : k < n) (h1 : yand (S.a 3 (S.a 18 k.toNat).toNat) 1 = 0) (h2 : S.a 4 (S.a 18 k.toNat).toNat ≠ S.a 4 (S.f 17 6).toNat) : ¬ viC S n := fun q => (q k.toNat (by omega)).elim (fun e => e h1) h2
def r1C (S : yS) : Prop := S.a 2 (S.f 17 6).toNat ≠ 0 ∨ yand (S.a 3 (S.f 17 6).toNat) 2 ≠ 0
def paC (S : yS) : Prop := ¬ r1C S ∧ ocY S (S.f 17 6) ∧ diC S (S.f 17 7) ∧ viC S (S.f 17 7)
def sMn (S0 S : yS) : Prop := S.f 1 7 = S0.f 1 7 ∧ S.f 9 8 = S0.f 9 8 ∧ S.f 17 6 = S0.f 17 6 ∧ S.f 17 7 = S0.f 17 7 ∧ (∀ j, S.a 4 j = S0.a 4 j) ∧ (∀ j, S.a 6 j = S0.a 6 j) ∧ (∀ j, S.a 10 j = S0.a 10 j) ∧ (∀ j, S.a 11 j = S0.a 11 j) ∧ (∀ j, S.a 12 j = S0.a 12 j) ∧ (∀ j, S.a 13 j = S0.a 13 j) ∧ (∀ j, S.a 14 j = S0.a 14 j)
theorem sMn_fr {S0 S : yS} {MF : List (Nat × Nat)} {MA : List Nat} (hF : yFr MF MA S0 S) (s1 : ydj2 [(1, 7), (9, 8), (17, 6), (17, 7)] MF = true) (s2 : ydj1 [4, 6, 10, 11, 12, 13, 14] MA = true) : sMn S0 S :=
  ⟨hF.f (ydj2_of s1 rfl), hF.f (ydj2_of s1 rfl), hF.f (ydj2_of s1 rfl), hF.f (ydj2_of s1 rfl), hF.a (ydj1_of s2 rfl), hF.a (ydj1_of s2 rfl), hF.a (ydj1_of s2 rfl), hF.a (ydj1_of s2 rfl), hF.a (ydj1_of s2 rfl), hF.a (ydj1_of s2 rfl), hF.a (ydj1_of s2 rfl)⟩
def rfQ (S S1 : yS) (z : Int) : Prop := (z = 1 ∧ r1C S) ∨ (z = 2 ∧ ¬ r1C S ∧ ocN S (S.f 9 8) (S.f 17 6)) ∨ (z = 3 ∧ ¬ r1C S ∧ ocY S (S.f 17 6) ∧ ¬ diC S (S.f 17 7)) ∨ (z = 4 ∧ ¬ r1C S ∧ ocY S (S.f 17 6) ∧ diC S (S.f 17 7) ∧ ¬ viC S (S.f 17 7)) ∨ (paC S ∧ ∃ S2, maQ S S2 ∧ sMn S S2 ∧ caQ S2 S1 ∧ sMn S S1 ∧ ((z = 5 ∧ hcY S1) ∨ (z = 6 ∧ hcN S1 (S1.f 17 12) ∧ 24 < S1.f 17 12) ∨ (z = 0 ∧ hcN S1 (S1.f 17 12) ∧ S1.f 17 12 ≤ 24)))
def FL (S : yS) (L : List Int) : Prop := ∃ acc, DF (chC S) (flt (chC S) (chP S) ++ rL S 18 (S.f 17 7).toNat) [] acc ∧ L = (caL S (chP S ++ acc)).filter (nfC S)
theorem caL_eq {S S2 : yS} (e : sMn S S2) : caL S2 = caL S := by
  obtain ⟨-, e98, e6, -, e4, -, e10, e11, e12, e13, e14⟩ := e
  funext l
  unfold caL
  have h1 : okC S2 (S2.f 17 6) = okC S (S.f 17 6) := by
    funext t m
    unfold okC
    simp only [e10, e11, e12, e4, e6]
  have h2 : smC S2 = smC S := by
    funext x m
    unfold smC
    simp only [e11, e13, e14]
  rw [h1, h2, e98]
theorem clC_eq {S S2 : yS} (e : sMn S S2) {m o : Int} : clC S2 m o ↔ clC S m o := by
  obtain ⟨-, -, -, -, -, e6, -, e11, -, e13, e14⟩ := e
  unfold clC
  simp only [e6, e11, e13, e14]
theorem FL_of {S S1 S2 : yS} (hh : maH S) (h1 : maQ S S2) (e : sMn S S2) (h2 : caQ S2 S1) : FL S (fnd S1) := by
  obtain ⟨acc, a1, a2⟩ := h1 hh
  obtain ⟨b1, b2⟩ := h2
  refine ⟨acc, a2, ?_⟩
  rw [a1, caL_eq e] at b1
  rw [b2, b1]
  have : nfC S2 = nfC S := by
    funext x
    unfold nfC
    rw [e.2.2.2.2.2.2.2.2.1]
  rw [this]
theorem fnd_cl {S S1 : yS} (e : sMn S S1) (f0 : 0 ≤ S1.f 17 12) : (hcY S1 → pr (clC S) (fnd S1)) ∧ (hcN S1 (S1.f 17 12) → ¬ pr (clC S) (fnd S1)) := by
  refine ⟨?_, ?_⟩
  · rintro ⟨i, j, hj, hi, h⟩
    exact (pr_row _).mpr ⟨i, j, hj, by omega, (clC_eq e).mp h⟩
  · intro hn q
    obtain ⟨i, j, hj, hi, h⟩ := (pr_row _).mp q
    exact hn i j hj (by omega) ((clC_eq e).mpr h)
/-! ask -/
def asQ (Sa : yS) (t a b c : Int) : Prop := Sa.f 17 6 = t ∧ Sa.a 18 0 = a ∧ Sa.a 18 1 = b ∧ Sa.a 18 2 = c ∧ ((a = -1 ∧ Sa.f 17 7 = 0) ∨ (a ≠ -1 ∧ b = -1 ∧ Sa.f 17 7 = 1) ∨ (a ≠ -1 ∧ b ≠ -1 ∧ c = -1 ∧ Sa.f 17 7 = 2) ∨ (a ≠ -1 ∧ b ≠ -1 ∧ c ≠ -1 ∧ Sa.f 17 7 = 3))
def asN (S : yS) : Prop := ∀ i : Nat, (i : Int) < S.f 17 7 → S.a 18 i ≠ -1
theorem asN_0 {S : yS} (h : S.f 17 7 = 0) : asN S := fun i hi => absurd hi (by omega)
theorem asN_s {S S1 : yS} (h : asN S) (o0 : 0 ≤ S.f 17 7) (hn : S.a 18 (S.f 17 7).toNat ≠ -1) (e7 : S1.f 17 7 = S.f 17 7 + 1) (e18 : ∀ j, S1.a 18 j = S.a 18 j) : asN S1 := by
  intro i hi
  rw [e18]
  by_cases q : i = (S.f 17 7).toNat
  · rw [q]; exact hn
  · exact h i (by omega)
theorem as_end {S : yS} {t a b c : Int} (h6 : S.f 17 6 = t) (h0 : S.a 18 0 = a) (h1 : S.a 18 1 = b) (h2 : S.a 18 2 = c) (hn : asN S) (o0 : 0 ≤ S.f 17 7) (o3 : S.f 17 7 ≤ 3) (hx : 3 ≤ S.f 17 7 ∨ S.a 18 (S.f 17 7).toNat = -1) : asQ S t a b c := by
  have n0 := hn 0
  have n1 := hn 1
  have n2 := hn 2
  rw [h0] at n0
  rw [h1] at n1
  rw [h2] at n2
  refine ⟨h6, h0, h1, h2, ?_⟩
  rcases (show S.f 17 7 = 0 ∨ S.f 17 7 = 1 ∨ S.f 17 7 = 2 ∨ S.f 17 7 = 3 by omega) with e | e | e | e
  · rw [e] at hx n0 n1 n2
    have x0 : S.a 18 (0 : Int).toNat = S.a 18 0 := rfl
    omega
  · rw [e] at hx n0 n1 n2
    have x0 : S.a 18 (1 : Int).toNat = S.a 18 1 := rfl
    omega
  · rw [e] at hx n0 n1 n2
    have x0 : S.a 18 (2 : Int).toNat = S.a 18 2 := rfl
    omega
  · rw [e] at n0 n1 n2
    omega
def sAs (S Sa : yS) : Prop := Sa.f 1 7 = S.f 1 7 ∧ Sa.f 9 8 = S.f 9 8 ∧ (∀ j, Sa.a 2 j = S.a 2 j) ∧ (∀ j, Sa.a 3 j = S.a 3 j) ∧ (∀ j, Sa.a 4 j = S.a 4 j) ∧ (∀ j, Sa.a 5 j = S.a 5 j) ∧ (∀ j, Sa.a 6 j = S.a 6 j) ∧ (∀ j, Sa.a 7 j = S.a 7 j) ∧ (∀ j, Sa.a 8 j = S.a 8 j) ∧ (∀ j, Sa.a 10 j = S.a 10 j) ∧ (∀ j, Sa.a 11 j = S.a 11 j) ∧ (∀ j, Sa.a 12 j = S.a 12 j) ∧ (∀ j, Sa.a 13 j = S.a 13 j) ∧ (∀ j, Sa.a 14 j = S.a 14 j)
theorem sAs_fr {S Sa : yS} {MF : List (Nat × Nat)} {MA : List Nat} (hF : yFr MF MA S Sa) (s1 : ydj2 [(1, 7), (9, 8)] MF = true) (s2 : ydj1 [2, 3, 4, 5, 6, 7, 8, 10, 11, 12, 13, 14] MA = true) : sAs S Sa :=
  ⟨hF.f (ydj2_of s1 rfl), hF.f (ydj2_of s1 rfl), hF.a (ydj1_of s2 rfl), hF.a (ydj1_of s2 rfl), hF.a (ydj1_of s2 rfl), hF.a (ydj1_of s2 rfl), hF.a (ydj1_of s2 rfl), hF.a (ydj1_of s2 rfl), hF.a (ydj1_of s2 rfl), hF.a (ydj1_of s2 rfl), hF.a (ydj1_of s2 rfl), hF.a (ydj1_of s2 rfl), hF.a (ydj1_of s2 rfl), hF.a (ydj1_of s2 rfl)⟩
def goC (S : yS) (t a b c : Int) : Prop := (0 ≤ t ∧ t < S.f 1 7) ∧ ((a = -1 ∧ b = -1 ∧ c = -1) ∨ ((0 ≤ a ∧ a < S.f 1 7) ∧ b = -1 ∧ c = -1) ∨ ((0 ≤ a ∧ a < S.f 1 7) ∧ (0 ≤ b ∧ b < S.f 1 7) ∧ (c = -1 ∨ (0 ≤ c ∧ c < S.f 1 7))))
def foQ (S : yS) (z t a b c : Int) : Prop := goC S t a b c ∧ ∃ Sa Sb, asQ Sa t a b c ∧ sAs S Sa ∧ rfQ Sa Sb z ∧ 0 ≤ Sb.f 17 12
def hFo (S S1 : yS) (t a b c z : Int) : Prop := (z = 0 ∧ foQ S (S1.a 81 (0 : Int).toNat) t a b c) ∨ (z = 1 ∧ ¬ goC S t a b c)

/-! the other one: collect -/
def okM (S : yS) (c t : Int) (m : Nat) : Bool := decide (S.a 52 m = t ∧ S.a 53 m ≠ 10 ∧ yand (S.a 54 m) 12 ≤ 0 ∧ (yand (S.a 54 m) 7 ≠ 0 ∨ S.a 48 t.toNat = S.a 48 c.toNat))
def smM (S : yS) (x : Int) (m : Nat) : Bool := decide (S.a 53 x.toNat = S.a 53 m ∧ S.a 55 x.toNat = S.a 55 m ∧ S.a 56 x.toNat = S.a 56 m)
def nfM (S : yS) (x : Int) : Bool := decide (yand (S.a 54 x.toNat) 16 ≤ 0)
def mL (S : yS) : List Int := rL S 66 (S.f 43 31).toNat
def sMo (S0 S : yS) : Prop := S.f 43 10 = S0.f 43 10 ∧ ∀ j, S.a 48 j = S0.a 48 j ∧ S.a 52 j = S0.a 52 j ∧ S.a 53 j = S0.a 53 j ∧ S.a 54 j = S0.a 54 j ∧ S.a 55 j = S0.a 55 j ∧ S.a 56 j = S0.a 56 j
theorem sMo_fr {S0 S : yS} {MF : List (Nat × Nat)} {MA : List Nat} (hF : yFr MF MA S0 S) (s1 : ydj2 [(43, 10)] MF = true) (s2 : ydj1 [48, 52, 53, 54, 55, 56] MA = true) : sMo S0 S :=
  ⟨hF.f (ydj2_of s1 rfl), fun j => ⟨hF.a (ydj1_of s2 rfl) j, hF.a (ydj1_of s2 rfl) j, hF.a (ydj1_of s2 rfl) j, hF.a (ydj1_of s2 rfl) j, hF.a (ydj1_of s2 rfl) j, hF.a (ydj1_of s2 rfl) j⟩⟩
theorem sMo_78 {S0 S : yS} {k : Nat} {z : Int} (h : sMo S0 S) : sMo S0 (ysa S 78 k z) := h
theorem okM_eq {S0 S : yS} (e : sMo S0 S) : okM S = okM S0 := by
  funext c t m
  unfold okM
  rw [(e.2 _).2.1, (e.2 _).2.2.1, (e.2 _).2.2.2.1, (e.2 _).1, (e.2 _).1]
theorem smM_eq {S0 S : yS} (e : sMo S0 S) : smM S = smM S0 := by
  funext x m
  unfold smM
  rw [(e.2 x.toNat).2.2.1, (e.2 m).2.2.1, (e.2 x.toNat).2.2.2.2.1, (e.2 m).2.2.2.2.1, (e.2 x.toNat).2.2.2.2.2, (e.2 m).2.2.2.2.2]
/-- what is asked of the method m of t, but for those before it -/
def inM (S : yS) (t c m : Int) : Prop := S.a 52 m.toNat = t ∧ S.a 53 m.toNat ≠ 10 ∧ yand (S.a 54 m.toNat) 12 ≤ 0 ∧ (yand (S.a 54 m.toNat) 7 ≠ 0 ∨ S.a 48 t.toNat = S.a 48 c.toNat)
def smP (S : yS) (x m : Int) : Prop := S.a 53 x.toNat = S.a 53 m.toNat ∧ S.a 55 x.toNat = S.a 55 m.toNat ∧ S.a 56 x.toNat = S.a 56 m.toNat
def nsP (S : yS) (k m : Int) : Prop := ∀ j : Nat, (j : Int) < k → ¬ smP S (S.a 66 j) m
def isP (S : yS) (m : Int) : Prop := ∃ j : Nat, (j : Int) < S.f 43 31 ∧ smP S (S.a 66 j) m
def mo1 (S0 S : yS) (t c m : Int) : Prop := mL S = cM (okM S0 c t) (smM S0) (mL S0) m.toNat
def mo2 (S : yS) (t c m ps k : Int) : Prop := (ps = 0 → inM S t c m ∧ nsP S k m) ∧ (ps ≠ 0 → ¬ inM S t c m ∨ isP S m)
def moQ (S S1 : yS) (t c : Int) : Prop := mL S1 = cM (okM S c t) (smM S) (mL S) (S.f 43 10).toNat
theorem mo1_0 {S : yS} {t c : Int} : mo1 S S t c 0 := rfl
theorem mo_end {S0 S : yS} {t c m : Int} (h : mo1 S0 S t c m) (hm : m = S0.f 43 10) : moQ S0 S t c := by
  unfold moQ
  rw [← hm]
  exact h
theorem mo2_0 {S : yS} {t c m g : Int} (h0 : g = 0 → inM S t c m) (h1 : g ≠ 0 → ¬ inM S t c m) : mo2 S t c m g 0 := ⟨fun q => ⟨h0 q, fun j hj => absurd hj (by omega)⟩, fun q => Or.inl (h1 q)⟩
theorem mo2_n {S : yS} {t c m k : Int} (h : mo2 S t c m 0 k) (k0 : 0 ≤ k) (hn : S.a 53 (S.a 66 k.toNat).toNat ≠ S.a 53 m.toNat ∨ S.a 55 (S.a 66 k.toNat).toNat ≠ S.a 55 m.toNat ∨ S.a 56 (S.a 66 k.toNat).toNat ≠ S.a 56 m.toNat) : mo2 S t c m 0 (k + 1) := by
  obtain ⟨a, b⟩ := h.1 rfl
  refine ⟨fun _ => ⟨a, fun j hj => ?_⟩, fun q => absurd rfl q⟩
  by_cases e : j = k.toNat
  · rw [e]; intro q; unfold smP at q; omega
  · exact b j (by omega)
theorem mo2_y {S : yS} {t c m k ps : Int} (k0 : 0 ≤ k) (k1 : k < S.f 43 31) (hp : ps ≠ 0) (e1 : S.a 53 (S.a 66 k.toNat).toNat = S.a 53 m.toNat) (e2 : S.a 55 (S.a 66 k.toNat).toNat = S.a 55 m.toNat) (e3 : S.a 56 (S.a 66 k.toNat).toNat = S.a 56 m.toNat) : mo2 S t c m ps (k + 1) := ⟨fun q => absurd q hp, fun _ => Or.inr ⟨k.toNat, by omega, e1, e2, e3⟩⟩
theorem mo1_n {S0 S : yS} {t c m ps k : Int} (h : mo1 S0 S t c m) (e : sMo S0 S) (h2 : mo2 S t c m ps k) (hp : ps ≠ 0) (m0 : 0 ≤ m) : mo1 S0 S t c (m + 1) := by
  unfold mo1 at h ⊢
  rw [h]
  rcases h2.2 hp with q | ⟨j, hj, s1, s2, s3⟩
  · refine (cM_n1 m0 ?_).symm
    rw [← okM_eq e]
    unfold okM
    rw [decide_eq_false_iff_not]
    exact q
  · refine (cM_n2 (x := S.a 66 j) m0 ?_ ?_).symm
    · rw [← h]; exact (rL_mem _).mpr ⟨j, by omega, rfl⟩
    · rw [← smM_eq e]
      unfold smM
      exact decide_eq_true ⟨s1, s2, s3⟩
theorem mo1_y {S0 S S1 : yS} {t c m k : Int} (h : mo1 S0 S t c m) (e : sMo S0 S) (h2 : mo2 S t c m 0 k) (hk : S.f 43 31 ≤ k) (m0 : 0 ≤ m) (o0 : 0 ≤ S.f 43 31) (e31 : S1.f 43 31 = S.f 43 31 + 1) (e66 : ∀ j, S1.a 66 j = (ysa S 66 (S.f 43 31).toNat m).a 66 j) : mo1 S0 S1 t c (m + 1) := by
  unfold mo1 at h ⊢
  have a : mL S1 = mL S ++ [m] := by unfold mL; rw [e31]; exact rL_push o0 e66
  obtain ⟨b1, b2⟩ := h2.1 rfl
  rw [a, h]
  refine (cM_y m0 ?_ ?_).symm
  · rw [← okM_eq e]
    unfold okM
    exact decide_eq_true b1
  · intro x hx
    rw [← h] at hx
    obtain ⟨j, hj, rfl⟩ := (rL_mem _).mp hx
    rw [← smM_eq e]
    unfold smM
    rw [decide_eq_false_iff_not]
    exact b2 j (by omega)
/-! collectFace -/
def maL (S : yS) (c : Int) (l B : List Int) : List Int := cAll (okM S c) (smM S) (S.f 43 10).toNat l B
theorem maL_eq {S0 S : yS} (e : sMo S0 S) : maL S = maL S0 := by
  funext c l B
  unfold maL
  rw [okM_eq e, smM_eq e, e.1]
def sMf (S0 S : yS) : Prop := sMo S0 S ∧ (∀ j, S.a 50 j = S0.a 50 j) ∧ (∀ j, S.a 51 j = S0.a 51 j)
theorem sMf_fr {S0 S : yS} {MF : List (Nat × Nat)} {MA : List Nat} (hF : yFr MF MA S0 S) (s1 : ydj2 [(43, 10)] MF = true) (s2 : ydj1 [48, 52, 53, 54, 55, 56, 50, 51] MA = true) : sMf S0 S :=
  ⟨⟨hF.f (ydj2_of s1 rfl), fun j => ⟨hF.a (ydj1_of s2 rfl) j, hF.a (ydj1_of s2 rfl) j, hF.a (ydj1_of s2 rfl) j, hF.a (ydj1_of s2 rfl) j, hF.a (ydj1_of s2 rfl) j, hF.a (ydj1_of s2 rfl) j⟩⟩, hF.a (ydj1_of s2 rfl), hF.a (ydj1_of s2 rfl)⟩
theorem sMf_tr {S0 S S1 : yS} (h : sMf S0 S) (h1 : sMf S S1) : sMf S0 S1 := by
  obtain ⟨⟨a1, a2⟩, a3, a4⟩ := h
  obtain ⟨⟨b1, b2⟩, b3, b4⟩ := h1
  refine ⟨⟨b1.trans a1, fun j => ?_⟩, fun j => (b3 j).trans (a3 j), fun j => (b4 j).trans (a4 j)⟩
  obtain ⟨p1, p2, p3, p4, p5, p6⟩ := a2 j
  obtain ⟨q1, q2, q3, q4, q5, q6⟩ := b2 j
  exact ⟨q1.trans p1, q2.trans p2, q3.trans p3, q4.trans p4, q5.trans p5, q6.trans p6⟩
def GK (S0 S : yS) (c : Int) (B acc : List Int) : Prop := (∀ x : Int, 0 ≤ x → x ≤ 19 → (S.a 78 x.toNat ≠ 0 ↔ x ∈ acc)) ∧ mL S = maL S0 c acc B
def cfQ (S S1 : yS) (f c : Int) : Prop := ∀ B acc : List Int, GK S S c B acc → ∃ acc2, GK S S1 c B acc2 ∧ DF (chM S) [f] acc acc2
def stk (S : yS) (n : Int) : List Int := (rL S 79 n.toNat).reverse
theorem stk_s {S : yS} {n : Int} (h : 0 ≤ n) : stk S (n + 1) = S.a 79 n.toNat :: stk S n := by
  unfold stk
  rw [rL_s h, List.reverse_append]
  rfl
theorem stk_push {S S1 : yS} {n z : Int} (h : 0 ≤ n) (e : ∀ j, S1.a 79 j = (ysa S 79 n.toNat z).a 79 j) : stk S1 (n + 1) = z :: stk S n := by
  unfold stk
  rw [rL_push h e, List.reverse_append]
  rfl
theorem stk_eq {S S1 : yS} {n : Int} (e : ∀ j, S1.a 79 j = S.a 79 j) : stk S1 n = stk S n := by
  unfold stk
  rw [rL_eq (S := S) (b := 79) _ (fun j _ => e j)]
def cf1 (S0 S : yS) (f c n : Int) : Prop := ∀ B acc0 : List Int, GK S0 S0 c B acc0 → ∃ acc, GK S0 S c B acc ∧ ∀ o, DF (chM S0) (stk S n) acc o → DF (chM S0) [f] acc0 o
def cf2 (S0 S : yS) (f c n f0 j : Int) : Prop := ∀ B acc0 : List Int, GK S0 S0 c B acc0 → ∃ acc, GK S0 S c B acc ∧ ∀ o, DF (chM S0) (chI S0 50 f0 (j + 1).toNat ++ stk S n) acc o → DF (chM S0) [f] acc0 o
theorem cf1_0 {S0 S : yS} {f c : Int} (e31 : S.f 43 31 = S0.f 43 31) (e66 : ∀ j, S.a 66 j = S0.a 66 j) (e78 : ∀ j, S.a 78 j = S0.a 78 j) (e79 : S.a 79 (0 : Int).toNat = f) : cf1 S0 S f c 1 := by
  intro B acc0 hg
  refine ⟨acc0, ⟨fun x x0 x1 => by rw [e78]; exact hg.1 x x0 x1, ?_⟩, fun o ho => ?_⟩
  · have : mL S = mL S0 := by unfold mL; rw [e31]; exact rL_eq _ (fun j _ => e66 j)
    rw [this]; exact hg.2
  · have : stk S 1 = [f] := by
      have q := stk_s (S := S) (n := 0) (Int.le_refl 0)
      rw [e79] at q
      exact q
    rw [this] at ho
    exact ho
theorem cf_end {S0 S : yS} {f c n : Int} (h : cf1 S0 S f c n) (hn : n = 0) : cfQ S0 S f c := by
  intro B acc0 hg
  obtain ⟨acc, h1, h2⟩ := h B acc0 hg
  refine ⟨acc, h1, h2 acc ?_⟩
  rw [hn]
  exact DF_nil
theorem cf1_in {S0 S : yS} {f c n n1 f0 : Int} (h : cf1 S0 S f c n) (n1e : n = n1 + 1) (n0 : 0 ≤ n1) (ef : f0 = S.a 79 n1.toNat) (f00 : 0 ≤ f0) (f01 : f0 ≤ 19) (hg : S.a 78 f0.toNat ≠ 0) : cf1 S0 S f c n1 := by
  intro B acc0 hk
  obtain ⟨acc, h1, h2⟩ := h B acc0 hk
  refine ⟨acc, h1, fun o ho => h2 o ?_⟩
  rw [n1e, stk_s n0, ← ef]
  exact DF_in ((h1.1 f0 f00 f01).mp hg) ho
/-- f0 is new: it is marked, and its methods are collected -/
theorem cf2_0 {S0 S Sm S1 : yS} {f c n n1 f0 j : Int} (h : cf1 S0 S f c n) (n1e : n = n1 + 1) (n0 : 0 ≤ n1) (ef : f0 = S.a 79 n1.toNat) (f00 : 0 ≤ f0) (f01 : f0 ≤ 19) (hg : S.a 78 f0.toNat = 0) (em : ysa S 78 f0.toNat 1 = Sm) (e0 : sMo S0 S) (hq : moQ Sm S1 f0 c) (e78 : ∀ j, S1.a 78 j = Sm.a 78 j) (e79 : ∀ j, S1.a 79 j = Sm.a 79 j) (hj : S0.a 51 f0.toNat = j + 1) : cf2 S0 S1 f c n1 f0 j := by
  intro B acc0 hk
  obtain ⟨acc, h1, h2⟩ := h B acc0 hk
  have hnot : ¬ f0 ∈ acc := fun q => (h1.1 f0 f00 f01).mpr q hg
  have e : sMo S0 Sm := by rw [← em]; exact sMo_78 e0
  refine ⟨acc ++ [f0], ⟨fun x x0 x1 => ?_, ?_⟩, fun o ho => h2 o ?_⟩
  · rw [e78, ← em]
    by_cases q : x = f0
    · subst q
      rw [ysa_eq]
      exact ⟨fun _ => List.mem_append_right _ (List.mem_singleton.mpr rfl), fun _ => by decide⟩
    · rw [ysa_ne (Or.inr (by omega)), h1.1 x x0 x1]
      exact ⟨fun w => List.mem_append_left _ w, fun w => (List.mem_append.mp w).elim id (fun w => absurd (List.mem_singleton.mp w) q)⟩
  · have a : mL Sm = mL S := by
      rw [← em]
      show rL (ysa S 78 f0.toNat 1) 66 (S.f 43 31).toNat = rL S 66 (S.f 43 31).toNat
      exact rL_eq _ (fun i _ => ysa_ne (Or.inl (by decide)))
    rw [hq, a, h1.2, okM_eq e, smM_eq e, e.1]
    exact cAll_snoc.symm
  · rw [n1e, stk_s n0, ← ef]
    refine DF_new hnot ?_
    have b : stk S1 n1 = stk S n1 := (stk_eq e79).trans (by rw [← em]; exact stk_eq (fun i => ysa_ne (Or.inl (by decide))))
    rw [b, ← hj] at ho
    exact ho
theorem cf2_s {S0 S S1 : yS} {f c n f0 j z n2 j2 : Int} (h : cf2 S0 S f c n f0 j) (n0 : 0 ≤ n) (j0 : 0 ≤ j) (hn2 : n2 = n + 1) (hj2 : j2 = j - 1) (hz : z = S0.a 50 (4 * f0 + j).toNat) (e79 : ∀ i, S1.a 79 i = (ysa S 79 n.toNat z).a 79 i) (e31 : S1.f 43 31 = S.f 43 31) (e66 : ∀ j, S1.a 66 j = S.a 66 j) (e78 : ∀ j, S1.a 78 j = S.a 78 j) : cf2 S0 S1 f c n2 f0 j2 := by
  subst hn2 hj2
  intro B acc0 hk
  obtain ⟨acc, h1, h2⟩ := h B acc0 hk
  refine ⟨acc, ⟨fun x x0 x1 => by rw [e78]; exact h1.1 x x0 x1, ?_⟩, fun o ho => h2 o ?_⟩
  · have : mL S1 = mL S := by unfold mL; rw [e31]; exact rL_eq _ (fun j _ => e66 j)
    rw [this]; exact h1.2
  · rw [chI_s j0, List.append_assoc, ← hz]
    have e : j - 1 + 1 = j := by omega
    rw [e, stk_push n0 e79] at ho
    exact ho
theorem cf1_s {S0 S : yS} {f c n f0 j : Int} (h : cf2 S0 S f c n f0 j) (hj : j < 0) : cf1 S0 S f c n := by
  intro B acc0 hk
  obtain ⟨acc, h1, h2⟩ := h B acc0 hk
  refine ⟨acc, h1, fun o ho => h2 o ?_⟩
  have e : (j + 1).toNat = 0 := by omega
  rw [e]
  exact ho
/-! collectAll -/
def gl (a b e : Int) : List Int := (if 0 ≤ a then [a] else []) ++ ((if 0 ≤ b then [b] else []) ++ (if 0 ≤ e then [e] else []))
def chQ (S : yS) (c : Int) : List Int := chn (parM S) 20 c
def mcQ (S S1 : yS) (c a b e : Int) : Prop := ∃ acc, DF (chM S) (flt (chM S) (chQ S c) ++ gl a b e) [] acc ∧ mL S1 = maL S c (chQ S c ++ acc) []
def gnZ (S : yS) (k : Int) : Prop := ∀ j : Nat, (j : Int) < k → S.a 78 j = 0
theorem gnZ_0 {S : yS} : gnZ S 0 := fun j h => absurd h (by omega)
theorem gnZ_s {S S1 : yS} {k : Int} (h : gnZ S k) (k0 : 0 ≤ k) (e : ysa S 78 k.toNat 0 = S1) : gnZ S1 (k + 1) := by
  intro j hj
  rw [← e]
  by_cases q : j = k.toNat
  · rw [q, ysa_eq]
  · rw [ysa_ne (Or.inr q)]; exact h j (by omega)
def mA1 (S0 S : yS) (c t : Int) : Prop := gnZ S 20 ∧ ∃ (l : List Int) (n : Nat), mL S = maL S0 c l [] ∧ l ++ chn (parM S0) n t = chQ S0 c ∧ t < n
def mA2 (S0 S : yS) (c t : Int) : Prop := ∃ (l acc : List Int) (n : Nat), GK S0 S c (maL S0 c (chQ S0 c) []) acc ∧ l ++ chn (parM S0) n t = chQ S0 c ∧ t < n ∧ DF (chM S0) (flt (chM S0) l) [] acc
def mA3 (S0 S : yS) (c t j : Int) : Prop := ∃ (l acc : List Int) (n : Nat), GK S0 S c (maL S0 c (chQ S0 c) []) acc ∧ l ++ chn (parM S0) n t = chQ S0 c ∧ t < n ∧ DF (chM S0) (flt (chM S0) l ++ chI S0 50 t j.toNat) [] acc
def mA4 (S0 S : yS) (c : Int) (g : List Int) : Prop := ∃ acc, GK S0 S c (maL S0 c (chQ S0 c) []) acc ∧ DF (chM S0) (flt (chM S0) (chQ S0 c) ++ g) [] acc
theorem mA1_0 {S0 S : yS} {c : Int} (h : gnZ S 20) (e31 : S.f 43 31 = 0) (c1 : c ≤ 19) : mA1 S0 S c c := by
  refine ⟨h, [], 20, ?_, rfl, by omega⟩
  unfold mL
  rw [e31]
  rfl
theorem mA1_s {S0 S S1 : yS} {c t t2 : Int} (h : mA1 S0 S c t) (t0 : 0 ≤ t) (e : sMo S0 S) (hq : moQ S S1 t c) (e78 : ∀ j, S1.a 78 j = S.a 78 j) (ht : t2 = S0.a 49 t.toNat) (lt : t2 < t) : mA1 S0 S1 c t2 := by
  obtain ⟨hz, l, n, h1, h2, h3⟩ := h
  refine ⟨fun j hj => by rw [e78]; exact hz j hj, l ++ [t], n - 1, ?_, ?_, by omega⟩
  · rw [hq, h1, okM_eq e, smM_eq e, e.1]
    exact cAll_snoc.symm
  · have e9 : n = (n - 1) + 1 := by omega
    rw [e9, chn_pos t0] at h2
    have e8 : parM S0 t = t2 := ht.symm
    rw [e8] at h2
    rw [List.append_assoc]
    exact h2
theorem mA2_0 {S0 S : yS} {c t : Int} (h : mA1 S0 S c t) (ht : t < 0) (c1 : c ≤ 19) : mA2 S0 S c c := by
  obtain ⟨hz, l, n, h1, h2, h3⟩ := h
  rw [chn_neg ht, List.append_nil] at h2
  refine ⟨[], [], 20, ⟨fun x x0 x1 => ?_, ?_⟩, rfl, by omega, DF_nil⟩
  · rw [hz x.toNat (by omega)]
    exact ⟨fun q => absurd rfl q, fun q => absurd q List.not_mem_nil⟩
  · rw [h1, h2]; rfl
theorem mA3_0 {S0 S : yS} {c t : Int} (h : mA2 S0 S c t) : mA3 S0 S c t 0 := by
  obtain ⟨l, acc, n, h1, h2, h3, h4⟩ := h
  refine ⟨l, acc, n, h1, h2, h3, ?_⟩
  show DF (chM S0) (flt (chM S0) l ++ []) [] acc
  rw [List.append_nil]
  exact h4
theorem GK_face {S0 S S1 : yS} {c z : Int} {B acc : List Int} (h : GK S0 S c B acc) (ef : sMf S0 S) (hq : cfQ S S1 z c) : ∃ acc2, GK S0 S1 c B acc2 ∧ DF (chM S0) [z] acc acc2 := by
  obtain ⟨e, e50, e51⟩ := ef
  have em := maL_eq e
  obtain ⟨acc2, g, d⟩ := hq B acc ⟨h.1, by rw [em]; exact h.2⟩
  rw [chM_eq e51 e50] at d
  refine ⟨acc2, ⟨g.1, ?_⟩, d⟩
  rw [← em]
  exact g.2
theorem mA3_s {S0 S S1 : yS} {c t j z : Int} (h : mA3 S0 S c t j) (j0 : 0 ≤ j) (e : sMf S0 S) (hz : z = S0.a 50 (4 * t + j).toNat) (hq : cfQ S S1 z c) : mA3 S0 S1 c t (j + 1) := by
  obtain ⟨l, acc, n, h1, h2, h3, h4⟩ := h
  obtain ⟨acc2, g, d⟩ := GK_face h1 e hq
  refine ⟨l, acc2, n, g, h2, h3, ?_⟩
  rw [chI_s j0, ← hz, ← List.append_assoc]
  exact DF_app h4 d
theorem mA2_s {S0 S : yS} {c t t2 j : Int} (h : mA3 S0 S c t j) (t0 : 0 ≤ t) (hj : S0.a 51 t.toNat = j) (ht : t2 = S0.a 49 t.toNat) (lt : t2 < t) : mA2 S0 S c t2 := by
  obtain ⟨l, acc, n, h1, h2, h3, h4⟩ := h
  refine ⟨l ++ [t], acc, n - 1, h1, ?_, by omega, ?_⟩
  · have e9 : n = (n - 1) + 1 := by omega
    rw [e9, chn_pos t0] at h2
    have e8 : parM S0 t = t2 := ht.symm
    rw [e8] at h2
    rw [List.append_assoc]
    exact h2
  · rw [flt_snoc]
    unfold chM at h4 ⊢
    rw [hj]
    exact h4
theorem mA4_0 {S0 S : yS} {c t : Int} (h : mA2 S0 S c t) (ht : t < 0) : mA4 S0 S c [] := by
  obtain ⟨l, acc, n, h1, h2, h3, h4⟩ := h
  rw [chn_neg ht, List.append_nil] at h2
  refine ⟨acc, h1, ?_⟩
  rw [List.append_nil, ← h2]
  exact h4
theorem mA4_s {S0 S S1 : yS} {c z : Int} {g : List Int} (h : mA4 S0 S c g) (e : sMf S0 S) (hq : cfQ S S1 z c) : mA4 S0 S1 c (g ++ [z]) := by
  obtain ⟨acc, h1, h4⟩ := h
  obtain ⟨acc2, k, d⟩ := GK_face h1 e hq
  refine ⟨acc2, k, ?_⟩
  rw [← List.append_assoc]
  exact DF_app h4 d
theorem mc_end {S0 S : yS} {c a b e : Int} {g : List Int} (h : mA4 S0 S c g) (hg : g = gl a b e) : mcQ S0 S c a b e := by
  obtain ⟨acc, h1, h4⟩ := h
  rw [hg] at h4
  refine ⟨acc, h4, ?_⟩
  rw [h1.2]
  exact (cAll_app _ _ _).symm
/-! refusal -/
def opM (S : yS) (m t : Int) : Prop := S.a 52 m.toNat = t ∧ S.a 53 m.toNat = 10 ∧ yand (S.a 54 m.toNat) 4 = 0
def oyM (S : yS) (t : Int) : Prop := ∃ m : Int, 0 ≤ m ∧ m < S.f 43 10 ∧ opM S m t
def onM (S : yS) (k t : Int) : Prop := ∀ m : Int, 0 ≤ m → m < k → ¬ opM S m t
def ocW (S : yS) (sm m t : Int) : Prop := (sm ≠ 0 → oyM S t) ∧ (sm = 0 → onM S m t)
theorem ocW_0 {S : yS} {t : Int} : ocW S 0 0 t := ⟨fun q => absurd rfl q, fun _ m h0 h1 => absurd h0 (by omega)⟩
theorem ocW_k {S : yS} {sm m t : Int} (h : ocW S sm m t) (hs : sm ≠ 0) {s2 : Int} (h2 : s2 ≠ 0) : ocW S s2 (m + 1) t := ⟨fun _ => h.1 hs, fun q => absurd q h2⟩
theorem ocW_y {S : yS} {m t s2 : Int} (m0 : 0 ≤ m) (m1 : m < S.f 43 10) (hm : opM S m t) (h2 : s2 ≠ 0) : ocW S s2 (m + 1) t := ⟨fun _ => ⟨m, m0, m1, hm⟩, fun q => absurd q h2⟩
theorem ocW_n {S : yS} {sm m t : Int} (h : ocW S sm m t) (hs : sm = 0) (hm : ¬ opM S m t) : ocW S 0 (m + 1) t := by
  refine ⟨fun q => absurd rfl q, fun _ k k0 k1 => ?_⟩
  by_cases e : k = m
  · rw [e]; exact hm
  · exact h.2 hs k k0 (by omega)
def r1M (S : yS) (c : Int) : Prop := S.a 44 c.toNat ≠ 0 ∨ S.a 46 c.toNat ≠ 0
def r3M (S : yS) (a b e : Int) : Prop := (0 ≤ a ∧ S.a 44 a.toNat = 0) ∨ (0 ≤ b ∧ (S.a 44 b.toNat = 0 ∨ b = a)) ∨ (0 ≤ e ∧ (S.a 44 e.toNat = 0 ∨ e = a ∨ e = b))
def hdM (S : yS) (f c : Int) : Prop := 0 ≤ f ∧ S.a 45 f.toNat = 0 ∧ S.a 48 f.toNat ≠ S.a 48 c.toNat
def r4M (S : yS) (c a b e : Int) : Prop := hdM S a c ∨ hdM S b c ∨ hdM S e c
def clM (S : yS) (m o : Int) : Prop := S.a 53 o.toNat = S.a 53 m.toNat ∧ S.a 55 o.toNat = S.a 55 m.toNat ∧ (¬ (3 < S.a 56 m.toNat ∧ 3 < S.a 56 o.toNat) ∨ (¬ rcM S (S.a 56 m.toNat - 4) (S.a 56 o.toNat - 4) ∧ ¬ rcM S (S.a 56 o.toNat - 4) (S.a 56 m.toNat - 4)))
def RK (S : yS) : Prop := ∀ j : Nat, S.a 56 j < 4 + S.f 43 1
theorem RKx : yX [(43, 1)] [56] RK := by
  intro S S' hf ha h j
  rw [ha 56 rfl, hf 43 1 rfl]
  exact h j
def mrH (S : yS) : Prop := FM S ∧ RK S
def hmN (S0 S : yS) (k : Int) : Prop := ∀ i j : Nat, j < i → (i : Int) < k → yand (S.a 54 (S.a 66 i).toNat) 16 ≤ 0 → yand (S.a 54 (S.a 66 j).toNat) 16 ≤ 0 → ¬ clM S0 (S.a 66 i) (S.a 66 j)
def hmY (S0 S : yS) : Prop := ∃ i j : Nat, j < i ∧ (i : Int) < S.f 43 31 ∧ yand (S.a 54 (S.a 66 i).toNat) 16 ≤ 0 ∧ yand (S.a 54 (S.a 66 j).toNat) 16 ≤ 0 ∧ clM S0 (S.a 66 i) (S.a 66 j)
def sMr (S0 S : yS) : Prop := S.f 43 1 = S0.f 43 1 ∧ ∀ j, S.a 49 j = S0.a 49 j ∧ S.a 50 j = S0.a 50 j ∧ S.a 51 j = S0.a 51 j ∧ S.a 53 j = S0.a 53 j ∧ S.a 55 j = S0.a 55 j ∧ S.a 56 j = S0.a 56 j
theorem sMr_fr {S0 S : yS} {MF : List (Nat × Nat)} {MA : List Nat} (hF : yFr MF MA S0 S) (s1 : ydj2 [(43, 1)] MF = true) (s2 : ydj1 [49, 50, 51, 53, 55, 56] MA = true) : sMr S0 S :=
  ⟨hF.f (ydj2_of s1 rfl), fun j => ⟨hF.a (ydj1_of s2 rfl) j, hF.a (ydj1_of s2 rfl) j, hF.a (ydj1_of s2 rfl) j, hF.a (ydj1_of s2 rfl) j, hF.a (ydj1_of s2 rfl) j, hF.a (ydj1_of s2 rfl) j⟩⟩
theorem rcM_eq {S0 S : yS} (e : sMr S0 S) {t o : Int} : rcM S t o ↔ rcM S0 t o := by
  have h : ∀ u v, egM S u v ↔ egM S0 u v := by
    intro u v
    unfold egM
    rw [e.1, (e.2 _).1, (e.2 u.toNat).2.2.1]
    refine and_congr Iff.rfl (or_congr Iff.rfl ⟨fun ⟨i, a, b, q⟩ => ⟨i, a, b, ?_⟩, fun ⟨i, a, b, q⟩ => ⟨i, a, b, ?_⟩⟩)
    · rw [← (e.2 _).2.1]; exact q
    · rw [(e.2 _).2.1]; exact q
  unfold rcM
  exact ⟨fun q P p0 p1 p2 => q P p0 p1 (fun u v pu hu => p2 u v pu ((h u v).mp hu)), fun q P p0 p1 p2 => q P p0 p1 (fun u v pu hu => p2 u v pu ((h u v).mpr hu))⟩
theorem FM_eq {S0 S : yS} (e : sMr S0 S) (h : FM S0) : FM S := by
  refine ⟨fun x x0 x1 => ?_, fun x i x0 x1 i0 i1 => ?_⟩
  · rw [(e.2 _).1]; rw [e.1] at x1; exact h.1 x x0 x1
  · rw [(e.2 _).2.1, e.1]
    rw [e.1] at x1
    rw [(e.2 x.toNat).2.2.1] at i1
    exact h.2 x i x0 x1 i0 i1
/-- what under answers, told of the state at the start -/
theorem un_of {S0 S : yS} {t o z : Int} (e : sMr S0 S) (hh : mrH S0) (hu : FM S → 0 ≤ t → t < S.f 43 1 → o < S.f 43 1 → (z = 1 ↔ rcM S t o)) (t0 : 0 ≤ t) (t1 : t < S0.f 43 1) (o1 : o < S0.f 43 1) : z = 1 ↔ rcM S0 t o := by
  have e1 := e.1
  exact (hu (FM_eq e hh.1) t0 (by omega) (by omega)).trans (rcM_eq e)
def sU (S S1 : yS) : Prop := S1.f 43 31 = S.f 43 31 ∧ (∀ j, S1.a 66 j = S.a 66 j) ∧ (∀ j, S1.a 54 j = S.a 54 j)
theorem sU_rfl {S : yS} : sU S S := ⟨rfl, fun _ => rfl, fun _ => rfl⟩
theorem sU_fr {S S1 : yS} {MF : List (Nat × Nat)} {MA : List Nat} (hF : yFr MF MA S S1) (s1 : ydj2 [(43, 31)] MF = true) (s2 : ydj1 [66, 54] MA = true) : sU S S1 := ⟨hF.f (ydj2_of s1 rfl), hF.a (ydj1_of s2 rfl), hF.a (ydj1_of s2 rfl)⟩
theorem sU_tr {S S1 S2 : yS} (h : sU S S1) (h2 : sU S1 S2) : sU S S2 := ⟨h2.1.trans h.1, fun j => (h2.2.1 j).trans (h.2.1 j), fun j => (h2.2.2 j).trans (h.2.2 j)⟩
def hmJ (S0 S : yS) (m j : Int) : Prop := ∀ i : Nat, (i : Int) < j → yand (S.a 54 (S.a 66 i).toNat) 16 ≤ 0 → ¬ clM S0 m (S.a 66 i)
def mr1 (S0 S : yS) (k : Int) : Prop := mrH S0 → hmN S0 S k
def mr2 (S0 S : yS) (k m j : Int) : Prop := mrH S0 → hmN S0 S k ∧ hmJ S0 S m j
theorem mr1_0 {S0 S : yS} : mr1 S0 S 0 := fun _ i j _ h => absurd h (by omega)
theorem mr1_n {S0 S : yS} {k : Int} (h : mr1 S0 S k) (k0 : 0 ≤ k) (hf : 0 < yand (S.a 54 (S.a 66 k.toNat).toNat) 16) : mr1 S0 S (k + 1) := by
  intro hh i j hj hi f1 f2
  by_cases e : i = k.toNat
  · rw [e] at f1; omega
  · exact h hh i j hj (by omega) f1 f2
theorem mr2_0 {S0 S : yS} {k m : Int} (h : mr1 S0 S k) : mr2 S0 S k m 0 := fun hh => ⟨h hh, fun i hi => absurd hi (by omega)⟩
theorem mr2_n {S0 S S1 : yS} {k m j : Int} (u : sU S S1) (h : mr2 S0 S k m j) (j0 : 0 ≤ j) (hn : mrH S0 → yand (S.a 54 (S.a 66 j.toNat).toNat) 16 ≤ 0 → ¬ clM S0 m (S.a 66 j.toNat)) : mr2 S0 S1 k m (j + 1) := by
  intro hh
  obtain ⟨-, e66, e54⟩ := u
  obtain ⟨a, b⟩ := h hh
  refine ⟨fun i l hl hi f1 f2 => ?_, fun i hi f1 => ?_⟩
  · rw [e66, e54] at f1 f2
    rw [e66, e66]
    exact a i l hl hi f1 f2
  · rw [e66, e54] at f1
    rw [e66]
    by_cases e : i = j.toNat
    · rw [e] at f1 ⊢; exact hn hh f1
    · exact b i (by omega) f1
theorem mr1_s {S0 S : yS} {k m j : Int} (h : mr2 S0 S k m j) (k0 : 0 ≤ k) (hm : m = S.a 66 k.toNat) (hj : k ≤ j) : mr1 S0 S (k + 1) := by
  intro hh i l hl hi f1 f2
  obtain ⟨a, b⟩ := h hh
  by_cases e : i = k.toNat
  · rw [e, ← hm]; exact b l (by omega) f2
  · exact a i l hl (by omega) f1 f2
theorem hmY_of {S0 S S1 : yS} {k j m : Int} (u : sU S S1) (j0 : 0 ≤ j) (j1 : j < k) (k1 : k < S.f 43 31) (hm : m = S.a 66 k.toNat) (f1 : yand (S.a 54 m.toNat) 16 ≤ 0) (f2 : yand (S.a 54 (S.a 66 j.toNat).toNat) 16 ≤ 0) (h : clM S0 m (S.a 66 j.toNat)) : hmY S0 S1 := by
  obtain ⟨e31, e66, e54⟩ := u
  refine ⟨k.toNat, j.toNat, by omega, by omega, ?_, ?_, ?_⟩
  · rw [e66, e54, ← hm]; exact f1
  · rw [e66, e54]; exact f2
  · rw [e66, e66, ← hm]; exact h
theorem mcQ_fr {S0 S S1 : yS} {c a b e : Int} (ef : sMf S0 S) (e49 : ∀ j, S.a 49 j = S0.a 49 j) (h : mcQ S S1 c a b e) : mcQ S0 S1 c a b e := by
  obtain ⟨acc, h1, h2⟩ := h
  obtain ⟨e1, e50, e51⟩ := ef
  have hp : parM S = parM S0 := by
    funext t
    exact e49 _
  have hc : chQ S c = chQ S0 c := by unfold chQ; rw [hp]
  rw [chM_eq e51 e50, hc] at h1
  rw [maL_eq e1, hc] at h2
  exact ⟨acc, h1, h2⟩
theorem mcQ_up {S0 S S1 : yS} {c a b e : Int} (u : sU S S1) (h : mcQ S0 S c a b e) : mcQ S0 S1 c a b e := by
  obtain ⟨acc, h1, h2⟩ := h
  refine ⟨acc, h1, ?_⟩
  rw [← h2]
  unfold mL
  rw [u.1]
  exact rL_eq _ (fun j _ => u.2.1 j)
theorem sMr_tr {S0 S S1 : yS} (h : sMr S0 S) (h1 : sMr S S1) : sMr S0 S1 := by
  refine ⟨h1.1.trans h.1, fun j => ?_⟩
  obtain ⟨p1, p2, p3, p4, p5, p6⟩ := h.2 j
  obtain ⟨q1, q2, q3, q4, q5, q6⟩ := h1.2 j
  exact ⟨q1.trans p1, q2.trans p2, q3.trans p3, q4.trans p4, q5.trans p5, q6.trans p6⟩
theorem hd_eq {S0 S : yS} {f c : Int} {MF : List (Nat × Nat)} {MA : List Nat} (hF : yFr MF MA S0 S) (s2 : ydj1 [45, 48] MA = true) : hdM S f c ↔ hdM S0 f c := by
  unfold hdM
  rw [hF.a (b := 45) (ydj1_of s2 rfl), hF.a (b := 48) (ydj1_of s2 rfl), hF.a (b := 48) (ydj1_of s2 rfl)]
theorem cm_n1 {S : yS} {m o : Int} (h : S.a 53 o.toNat ≠ S.a 53 m.toNat ∨ S.a 55 o.toNat ≠ S.a 55 m.toNat) : ¬ clM S m o := by
  intro q
  have q1 := q.1
  have q2 := q.2.1
  omega
theorem cm_n2 {S : yS} {m o t u : Int} (hm : t = S.a 56 m.toNat - 4) (ho : u = S.a 56 o.toNat - 4) (h3 : 3 < S.a 56 m.toNat) (h4 : 3 < S.a 56 o.toNat) (q : rcM S t u ∨ rcM S u t) : ¬ clM S m o := by
  intro w
  subst hm ho
  rcases w.2.2 with w | w
  · exact w ⟨h3, h4⟩
  · exact q.elim w.1 w.2
theorem cm_y1 {S : yS} {m o : Int} (h1 : S.a 53 o.toNat = S.a 53 m.toNat) (h2 : S.a 55 o.toNat = S.a 55 m.toNat) (h3 : S.a 56 m.toNat ≤ 3 ∨ S.a 56 o.toNat ≤ 3) : clM S m o := ⟨h1, h2, Or.inl (by omega)⟩
theorem cm_y2 {S : yS} {m o t u t2 u2 : Int} (h1 : S.a 53 o.toNat = S.a 53 m.toNat) (h2 : S.a 55 o.toNat = S.a 55 m.toNat) (hm : t = S.a 56 m.toNat - 4) (ho : u = S.a 56 o.toNat - 4) (hm2 : t2 = S.a 56 m.toNat - 4) (ho2 : u2 = S.a 56 o.toNat - 4) (a : ¬ rcM S t u) (b : ¬ rcM S u2 t2) : clM S m o := by
  subst hm ho hm2 ho2
  exact ⟨h1, h2, Or.inr ⟨a, b⟩⟩
def paM (S : yS) (c a b e : Int) : Prop := ¬ r1M S c ∧ oyM S c ∧ ¬ r3M S a b e ∧ ¬ r4M S c a b e

/-! the slots: what the class keeps -/
theorem rL_inj {S S1 : yS} {b c : Nat} : ∀ n : Nat, rL S b n = rL S1 c n → ∀ j, j < n → S.a b j = S1.a c j := by
  intro n
  induction n with
  | zero => intro _ j hj; exact absurd hj (by omega)
  | succ n ih =>
    intro h j hj
    have h2 : rL S b n ++ [S.a b n] = rL S1 c n ++ [S1.a c n] := h
    have h3 := List.append_inj h2 (by rw [rL_len, rL_len])
    by_cases e : j = n
    · subst e
      exact (List.cons.inj h3.2).1
    · exact ih h3.1 j (by omega)
def sSl (S S1 : yS) : Prop := S1.f 22 3 = S.f 22 3 ∧ (∀ j, S1.a 23 j = S.a 23 j) ∧ (∀ j, S1.a 24 j = S.a 24 j) ∧ (∀ j, S1.a 25 j = S.a 25 j)
theorem sSl_rfl {S : yS} : sSl S S := ⟨rfl, fun _ => rfl, fun _ => rfl, fun _ => rfl⟩
theorem sSl_fr {S S1 : yS} {MF : List (Nat × Nat)} {MA : List Nat} (hF : yFr MF MA S S1) (s1 : ydj2 [(22, 3)] MF = true) (s2 : ydj1 [23, 24, 25] MA = true) : sSl S S1 := ⟨hF.f (ydj2_of s1 rfl), hF.a (ydj1_of s2 rfl), hF.a (ydj1_of s2 rfl), hF.a (ydj1_of s2 rfl)⟩
theorem sSl_tr {S S1 S2 : yS} (h : sSl S S1) (h2 : sSl S1 S2) : sSl S S2 := ⟨h2.1.trans h.1, fun j => (h2.2.1 j).trans (h.2.1 j), fun j => (h2.2.2.1 j).trans (h.2.2.1 j), fun j => (h2.2.2.2 j).trans (h.2.2.2 j)⟩
def tkL (S0 S : yS) (k : Int) : Prop := ∀ j : Nat, (j : Int) < k → S.a 23 j = S0.a 21 j ∧ S.a 24 j = S0.a 42 (S0.a 11 (S0.a 21 j).toNat).toNat ∧ S.a 25 j = S0.a 15 (S0.a 21 j).toNat
theorem tkL_0 {S0 S : yS} : tkL S0 S 0 := fun j h => absurd h (by omega)
theorem tkL_s {S0 S S1 : yS} {k : Int} (h : tkL S0 S k) (k0 : 0 ≤ k) (e21 : ∀ j, S.a 21 j = S0.a 21 j) (e11 : ∀ j, S.a 11 j = S0.a 11 j) (e42 : ∀ j, S.a 42 j = S0.a 42 j) (e15 : ∀ j, S.a 15 j = S0.a 15 j) (e23 : ∀ j, S1.a 23 j = (ysa S 23 k.toNat (S.a 21 k.toNat)).a 23 j) (e24 : ∀ j, S1.a 24 j = (ysa S 24 k.toNat (S.a 42 (S.a 11 (S.a 21 k.toNat).toNat).toNat)).a 24 j) (e25 : ∀ j, S1.a 25 j = (ysa S 25 k.toNat (S.a 15 (S.a 21 k.toNat).toNat)).a 25 j) : tkL S0 S1 (k + 1) := by
  intro j hj
  rw [e23, e24, e25]
  by_cases q : j = k.toNat
  · rw [q, ysa_eq, ysa_eq, ysa_eq, e21, e11, e42, e15]
    exact ⟨rfl, rfl, rfl⟩
  · rw [ysa_ne (Or.inr q), ysa_ne (Or.inr q), ysa_ne (Or.inr q)]
    exact h j (by omega)
def tkQ (S S1 : yS) : Prop := (S.f 17 12 ≤ 24 → S1.f 22 3 = S.f 17 12) ∧ tkL S S1 (S1.f 22 3)
def slC (Sb S : yS) : Prop := S.f 22 3 = Sb.f 17 12 ∧ tkL Sb S (S.f 22 3)
theorem slC_of {Sb S : yS} (h : tkQ Sb S) (h24 : Sb.f 17 12 ≤ 24) : slC Sb S := ⟨h.1 h24, h.2⟩
theorem slC_up {Sb S S1 : yS} (h : slC Sb S) (u : sSl S S1) : slC Sb S1 := by
  refine ⟨u.1.trans h.1, fun j hj => ?_⟩
  rw [u.2.1, u.2.2.1, u.2.2.2]
  rw [u.1] at hj
  exact h.2 j hj
def sPb (S0 Sb : yS) : Prop := (∀ j, Sb.a 42 j = S0.a 42 j) ∧ (∀ j, Sb.a 15 j = S0.a 15 j) ∧ (∀ j, Sb.a 11 j = S0.a 11 j)
theorem sPb_fr {S Sa Sb : yS} {MF MF2 : List (Nat × Nat)} {MA MA2 : List Nat} (hF : yFr MF MA S Sa) (hF2 : yFr MF2 MA2 Sa Sb) (s2 : ydj1 [42, 15, 11] MA = true) (s3 : ydj1 [42, 15, 11] MA2 = true) : sPb S Sb :=
  ⟨fun j => (hF2.a (ydj1_of s3 rfl) j).trans (hF.a (ydj1_of s2 rfl) j), fun j => (hF2.a (ydj1_of s3 rfl) j).trans (hF.a (ydj1_of s2 rfl) j), fun j => (hF2.a (ydj1_of s3 rfl) j).trans (hF.a (ydj1_of s2 rfl) j)⟩
def foX (S S1 : yS) (z t a b c : Int) : Prop := goC S t a b c ∧ ∃ Sa Sb, asQ Sa t a b c ∧ sAs S Sa ∧ rfQ Sa Sb z ∧ 0 ≤ Sb.f 17 12 ∧ sPb S Sb ∧ (z ≠ 0 → sSl S S1) ∧ (z = 0 → slC Sb S1)
theorem foX_up {S S1 S2 : yS} {z t a b c : Int} (h : foX S S1 z t a b c) (u : sSl S1 S2) : foX S S2 z t a b c := by
  obtain ⟨g, Sa, Sb, h1, h2, h3, h4, h5, h6, h7⟩ := h
  exact ⟨g, Sa, Sb, h1, h2, h3, h4, h5, fun q => sSl_tr (h6 q) u, fun q => slC_up (h7 q) u⟩
theorem foX_Q {S S1 : yS} {z t a b c : Int} (h : foX S S1 z t a b c) : foQ S z t a b c := by
  obtain ⟨g, Sa, Sb, h1, h2, h3, h4, h5, h6, h7⟩ := h
  exact ⟨g, Sa, Sb, h1, h2, h3, h4⟩
def hFx (S S1 : yS) (t a b c z : Int) : Prop := (z = 0 ∧ foX S S1 (S1.a 81 (0 : Int).toNat) t a b c) ∨ (z = 1 ∧ ¬ goC S t a b c ∧ sSl S S1)
theorem foX_81 {S S1 : yS} {z t a b c x : Int} {j : Nat} (h : foX S S1 z t a b c) : foX S (ysa S1 81 j x) z t a b c := foX_up h ⟨rfl, fun _ => ysa_ne (Or.inl (by decide)), fun _ => ysa_ne (Or.inl (by decide)), fun _ => ysa_ne (Or.inl (by decide))⟩

/-! policies, on either side: b is the row -/
def plQ (b : Nat) (S S1 : yS) (w k z : Int) : Prop := (z = 1 → ∀ j : Nat, S1.a b j = (ysa S b w.toNat k).a b j) ∧ (z = 0 → ∀ j : Nat, S1.a b j = S.a b j)
/-! whom the callback was asked for -/
def hCq (S S1 : yS) (k z : Int) : Prop := (z = 0 ∧ (0 ≤ k ∧ k < S.f 22 3) ∧ (S.a 24 k.toNat ≠ 2 → S1.f 26 3 = k) ∧ (S.a 24 k.toNat = 2 → S1.f 26 3 = S.f 26 3)) ∨ (z = 1 ∧ (k < 0 ∨ S.f 22 3 ≤ k) ∧ S1.f 26 3 = S.f 26 3)
def mCq (S S1 : yS) (k : Int) : Prop := (S.a 61 k.toNat ≠ 2 → 0 ≤ k → k < S.f 43 20 → S1.f 43 34 = k) ∧ ((S.a 61 k.toNat = 2 ∨ k < 0 ∨ S.f 43 20 ≤ k) → S1.f 43 34 = S.f 43 34)

/-! what the callback is given -/
def gvK (n w v : Int) : Int := if w < 4 then w else if 0 ≤ v ∧ v < n then 4 + v else 0
def gvN (w v : Int) : Int := if w = 1 then ysg v else if w = 2 then v else if w = 3 then yland v 1 else 0
def fK (n p : Int) (A : Int → Int) (j : Int) : Int := gvK n (dg p j) (A j)
def fN (p : Int) (A : Int → Int) (j : Int) : Int := gvN (dg p j) (A j)
theorem fK_a {n p : Int} {A : Int → Int} {j w v x : Int} (hw : w = dg p j) (hv : v = A j) (c : (w < 4 ∧ x = w) ∨ (4 ≤ w ∧ (0 ≤ v ∧ v < n) ∧ x = 4 + v) ∨ (4 ≤ w ∧ (v < 0 ∨ n ≤ v) ∧ x = 0)) : x = fK n p A j := by
  unfold fK gvK
  rw [← hw, ← hv]
  rcases c with ⟨a, b⟩ | ⟨a, b, c⟩ | ⟨a, b, c⟩
  · rw [if_pos a]; exact b
  · rw [if_neg (by omega), if_pos b]; exact c
  · rw [if_neg (by omega), if_neg (by omega)]; exact c
theorem fN_a {p : Int} {A : Int → Int} {j w v x : Int} (hw : w = dg p j) (hv : v = A j) (c : (w = 1 ∧ x = ysg v) ∨ (w = 2 ∧ x = v) ∨ (w = 3 ∧ x = yland v 1) ∨ ((w ≠ 1 ∧ w ≠ 2 ∧ w ≠ 3) ∧ x = 0)) : x = fN p A j := by
  unfold fN gvN
  rw [← hw, ← hv]
  rcases c with ⟨a, b⟩ | ⟨a, b⟩ | ⟨a, b⟩ | ⟨a, b⟩
  · rw [if_pos a]; exact b
  · rw [if_neg (by omega), if_pos a]; exact b
  · rw [if_neg (by omega), if_neg (by omega), if_pos a]; exact b
  · rw [if_neg a.1, if_neg a.2.1, if_neg a.2.2]; exact b
def gvR (a : Nat) (S0 S : yS) (k : Int) (F : Int → Int) : Prop := ∀ j : Nat, ((j : Int) < k → S.a a j = F (j : Int)) ∧ (k ≤ (j : Int) → S.a a j = S0.a a j)
theorem gvR_0 {a : Nat} {S0 S : yS} {F : Int → Int} (e : ∀ j, S.a a j = S0.a a j) : gvR a S0 S 0 F := fun j => ⟨fun h => absurd h (by omega), fun _ => e j⟩
theorem gvR_k {a : Nat} {S0 S S1 : yS} {k : Int} {F : Int → Int} (h : gvR a S0 S k F) (e : ∀ j, S1.a a j = S.a a j) : gvR a S0 S1 k F := fun j => ⟨fun q => (e j).trans ((h j).1 q), fun q => (e j).trans ((h j).2 q)⟩
theorem gvR_s {a : Nat} {S0 S S1 : yS} {k x : Int} {F : Int → Int} (h : gvR a S0 S k F) (k0 : 0 ≤ k) (e : ∀ j, S1.a a j = (ysa S a k.toNat x).a a j) (hx : x = F k) : gvR a S0 S1 (k + 1) F := by
  intro j
  rw [e]
  by_cases q : j = k.toNat
  · rw [q, ysa_eq]
    exact ⟨fun _ => by rw [hx]; exact congrArg F (by omega), fun w => absurd w (by omega)⟩
  · rw [ysa_ne (Or.inr q)]
    exact ⟨fun w => (h j).1 (by omega), fun w => (h j).2 (by omega)⟩
theorem gvR_b {a : Nat} {S0 S1 S : yS} {k : Int} {F : Int → Int} (h : gvR a S1 S k F) (e : ∀ j, S1.a a j = S0.a a j) : gvR a S0 S k F := fun j => ⟨(h j).1, fun q => ((h j).2 q).trans (e j)⟩
theorem gvR_F {a : Nat} {S0 S : yS} {k : Int} {F F2 : Int → Int} (h : gvR a S0 S k F) (e : ∀ j : Int, 0 ≤ j → j < k → F j = F2 j) : gvR a S0 S k F2 := fun j => ⟨fun q => ((h j).1 q).trans (e j (by omega) q), (h j).2⟩
theorem gvR_e {a : Nat} {S0 S : yS} {k k2 : Int} {F : Int → Int} (h : gvR a S0 S k F) (e : k = k2) : gvR a S0 S k2 F := e ▸ h
def agC (S : yS) (j : Int) : Int := S.a 30 j.toNat
def ag4 (a b c e j : Int) : Int := if j = 0 then a else if j = 1 then b else if j = 2 then c else e
theorem ag4_0 {a b c e j : Int} (h : j = 0) : a = ag4 a b c e j := by
  unfold ag4
  rw [if_pos h]
theorem ag4_1 {a b c e j : Int} (h : j = 1) : b = ag4 a b c e j := by
  unfold ag4
  rw [if_neg (by omega), if_pos h]
theorem ag4_2 {a b c e j : Int} (h : j = 2) : c = ag4 a b c e j := by
  unfold ag4
  rw [if_neg (by omega), if_neg (by omega), if_pos h]
theorem ag4_3 {a b c e j : Int} (h0 : j ≠ 0) (h1 : j ≠ 1) (h2 : j ≠ 2) : e = ag4 a b c e j := by
  unfold ag4
  rw [if_neg h0, if_neg h1, if_neg h2]
theorem agC_4 {S : yS} {a b c e j : Int} (j0 : 0 ≤ j) (j1 : j < 4) : agC (ysa (ysa (ysa (ysa S 30 (0 : Int).toNat a) 30 (1 : Int).toNat b) 30 (2 : Int).toNat c) 30 (3 : Int).toNat e) j = ag4 a b c e j := by
  rcases (show j = 0 ∨ j = 1 ∨ j = 2 ∨ j = 3 by omega) with rfl | rfl | rfl | rfl
  · rfl
  · rfl
  · rfl
  · rfl
theorem hMn_e {p p2 z z2 : Int} (h : hMn p z) (e1 : p2 = p) (e2 : z2 = z) : hMn p2 z2 := by
  rw [e1, e2]
  exact h
theorem hMn_u {p z z2 : Int} (h : hMn p z) (h2 : hMn p z2) (a : 0 ≤ z) (b : z ≤ 4) (a2 : 0 ≤ z2) (b2 : z2 ≤ 4) : z = z2 := by
  rcases Int.lt_trichotomy z z2 with q | q | q
  · exact absurd (h.2 (by omega)) (h2.1 z a q)
  · exact q
  · exact absurd (h2.2 (by omega)) (h.1 z2 a2 q)
/-! the class -/
def tkB (S S1 : yS) (k b v : Int) : Prop := (∀ j, S1.a 27 j = (ysa S 27 k.toNat b).a 27 j) ∧ (∀ j, S1.a 28 j = (ysa S 28 k.toNat v).a 28 j)
def sG (S S1 : yS) : Prop := S1.f 26 2 = S.f 26 2 ∧ (∀ j, S1.a 27 j = S.a 27 j) ∧ (∀ j, S1.a 28 j = S.a 28 j)
theorem sG_rfl {S : yS} : sG S S := ⟨rfl, fun _ => rfl, fun _ => rfl⟩
theorem sG_fr {S S1 : yS} {MF : List (Nat × Nat)} {MA : List Nat} (hF : yFr MF MA S S1) (s1 : ydj2 [(26, 2)] MF = true) (s2 : ydj1 [27, 28] MA = true) : sG S S1 := ⟨hF.f (ydj2_of s1 rfl), hF.a (ydj1_of s2 rfl), hF.a (ydj1_of s2 rfl)⟩
theorem sG_tr {S S1 S2 : yS} (h : sG S S1) (h2 : sG S1 S2) : sG S S2 := ⟨h2.1.trans h.1, fun j => (h2.2.1 j).trans (h.2.1 j), fun j => (h2.2.2 j).trans (h.2.2 j)⟩
theorem sG_f {S S1 : yS} {b w : Nat} {z : Int} (h : ysf S b w z = S1) (hn : 26 ≠ b ∨ 2 ≠ w) : sG S S1 := by
  rw [← h]
  exact ⟨ysf_ne hn, fun _ => rfl, fun _ => rfl⟩
def gvQ (S S1 : yS) (p : Int) (A : Int → Int) : Prop := hMn p (S1.f 26 2) ∧ gvR 27 S S1 (S1.f 26 2) (fK (S.f 1 7) p A) ∧ gvR 28 S S1 (S1.f 26 2) (fN p A)
theorem gvQ_up {S S1 S2 : yS} {p : Int} {A : Int → Int} (h : gvQ S S1 p A) (u : sG S1 S2) : gvQ S S2 p A := by
  obtain ⟨a, b, c⟩ := h
  obtain ⟨u1, u2, u3⟩ := u
  unfold gvQ
  rw [u1]
  exact ⟨a, gvR_k b u2, gvR_k c u3⟩
/-- set before: the field of the last slot -/
theorem gvQ_f {S S1 S2 : yS} {p w : Int} (h : gvQ S1 S2 p (agC S1)) (e : ysf S 26 3 w = S1) : gvQ S S2 p (agC S) := by
  subst e
  obtain ⟨a, b, c⟩ := h
  exact ⟨a, gvR_b b (fun _ => rfl), gvR_b c (fun _ => rfl)⟩
theorem gvQ_4 {S S1 : yS} {p a b c e : Int} (n4 : S1.f 26 2 ≤ 4) (h : gvQ (ysa (ysa (ysa (ysa S 30 (0 : Int).toNat a) 30 (1 : Int).toNat b) 30 (2 : Int).toNat c) 30 (3 : Int).toNat e) S1 p (agC (ysa (ysa (ysa (ysa S 30 (0 : Int).toNat a) 30 (1 : Int).toNat b) 30 (2 : Int).toNat c) 30 (3 : Int).toNat e))) : gvQ S S1 p (ag4 a b c e) := by
  obtain ⟨h1, h2, h3⟩ := h
  refine ⟨h1, gvR_F (gvR_b h2 (fun _ => rfl)) (fun j j0 j1 => ?_), gvR_F (gvR_b h3 (fun _ => rfl)) (fun j j0 j1 => ?_)⟩
  · show gvK _ _ _ = gvK _ _ _
    rw [agC_4 j0 (by omega)]
    rfl
  · show gvN _ _ = gvN _ _
    rw [agC_4 j0 (by omega)]
def giC (S S1 : yS) (k : Int) (A : Int → Int) : Prop := (S.a 24 k.toNat = 0 → gvQ S S1 (S.a 13 (S.a 23 k.toNat).toNat) A) ∧ (S.a 24 k.toNat ≠ 0 → sG S S1)
theorem giC_4 {S S1 : yS} {k a b c e : Int} (n4 : S1.f 26 2 ≤ 4) (h : giC (ysa (ysa (ysa (ysa S 30 (0 : Int).toNat a) 30 (1 : Int).toNat b) 30 (2 : Int).toNat c) 30 (3 : Int).toNat e) S1 k (agC (ysa (ysa (ysa (ysa S 30 (0 : Int).toNat a) 30 (1 : Int).toNat b) 30 (2 : Int).toNat c) 30 (3 : Int).toNat e))) : giC S S1 k (ag4 a b c e) := ⟨fun q => gvQ_4 n4 (h.1 q), fun q => h.2 q⟩
theorem giC_81 {S S1 : yS} {k x : Int} {j : Nat} {A : Int → Int} (h : giC S S1 k A) : giC S (ysa S1 81 j x) k A := ⟨fun q => gvQ_up (h.1 q) ⟨rfl, fun _ => ysa_ne (Or.inl (by decide)), fun _ => ysa_ne (Or.inl (by decide))⟩, fun q => sG_tr (h.2 q) ⟨rfl, fun _ => ysa_ne (Or.inl (by decide)), fun _ => ysa_ne (Or.inl (by decide))⟩⟩
def hCg (S S1 : yS) (k a b c e z : Int) : Prop := (z = 0 ∧ (0 ≤ k ∧ k < S.f 22 3) ∧ giC S S1 k (ag4 a b c e)) ∨ (z = 1 ∧ (k < 0 ∨ S.f 22 3 ≤ k) ∧ sG S S1)
/-! the reference -/
def sH (S S1 : yS) : Prop := S1.f 43 35 = S.f 43 35 ∧ (∀ j, S1.a 69 j = S.a 69 j) ∧ (∀ j, S1.a 70 j = S.a 70 j)
theorem sH_rfl {S : yS} : sH S S := ⟨rfl, fun _ => rfl, fun _ => rfl⟩
theorem sH_fr {S S1 : yS} {MF : List (Nat × Nat)} {MA : List Nat} (hF : yFr MF MA S S1) (s1 : ydj2 [(43, 35)] MF = true) (s2 : ydj1 [69, 70] MA = true) : sH S S1 := ⟨hF.f (ydj2_of s1 rfl), hF.a (ydj1_of s2 rfl), hF.a (ydj1_of s2 rfl)⟩
theorem sH_tr {S S1 S2 : yS} (h : sH S S1) (h2 : sH S1 S2) : sH S S2 := ⟨h2.1.trans h.1, fun j => (h2.2.1 j).trans (h.2.1 j), fun j => (h2.2.2 j).trans (h.2.2 j)⟩
theorem sH_f {S S1 : yS} {b w : Nat} {z : Int} (h : ysf S b w z = S1) (hn : 43 ≠ b ∨ 35 ≠ w) : sH S S1 := by
  rw [← h]
  exact ⟨ysf_ne hn, fun _ => rfl, fun _ => rfl⟩
def giM (S S1 : yS) (k : Int) (A : Int → Int) : Prop := (S.a 61 k.toNat = 0 → hMn (S.a 55 (S.a 60 k.toNat).toNat) (S1.f 43 35) ∧ gvR 69 S S1 (S1.f 43 35) (fK (S.f 43 1) (S.a 55 (S.a 60 k.toNat).toNat) A) ∧ gvR 70 S S1 (S1.f 43 35) (fN (S.a 55 (S.a 60 k.toNat).toNat) A)) ∧ (S.a 61 k.toNat ≠ 0 → sH S S1)
theorem giM_up {S S1 S2 : yS} {k : Int} {A : Int → Int} (h : giM S S1 k A) (u : sH S1 S2) : giM S S2 k A := by
  refine ⟨fun q => ?_, fun q => sH_tr (h.2 q) u⟩
  obtain ⟨a, b, c⟩ := h.1 q
  obtain ⟨u1, u2, u3⟩ := u
  rw [u1]
  exact ⟨a, gvR_k b u2, gvR_k c u3⟩
theorem giM_n {S S1 : yS} {k : Int} {A : Int → Int} (h : S.a 61 k.toNat ≠ 0) (u : sH S S1) : giM S S1 k A := ⟨fun q => absurd q h, fun _ => u⟩
theorem giM_y {S S1 : yS} {k m j : Int} {A : Int → Int} (h : S.a 61 k.toNat = 0) (hm : m = S.a 60 k.toNat) (hj : j = S1.f 43 35) (a : hMn (S.a 55 m.toNat) (S1.f 43 35)) (b : gvR 69 S S1 j (fK (S.f 43 1) (S.a 55 m.toNat) A)) (c : gvR 70 S S1 j (fN (S.a 55 m.toNat) A)) : giM S S1 k A := by
  subst hj hm
  exact ⟨fun _ => ⟨a, b, c⟩, fun q => absurd h q⟩
def gnP (n x y i w z : Int) : Prop := (i < 0 ∨ n ≤ i → z = -1) ∧ (0 ≤ i → i < n → (w = 0 → z = x) ∧ (w = 1 → z = y) ∧ (w ≠ 0 → w ≠ 1 → z = -1))

end XNC
