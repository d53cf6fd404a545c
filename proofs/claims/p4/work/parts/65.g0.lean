set_option linter.unusedVariables false
noncomputable section XNC
def TFt : List (Nat × Nat × Int × Int) := [(1, 7, 4, 20), (9, 8, 4, 60), (17, 6, 0, 19), (17, 7, 0, 3), (17, 10, 0, 20), (17, 11, 0, 60), (17, 12, 0, 60), (22, 3, 0, 24), (26, 2, 0, 4), (26, 3, -1, 23), (26, 4, 0, 5), (40, 2, 0, 60000), (40, 3, 0, 60000), (40, 4, 0, 60000), (40, 5, -1, 60000), (43, 0, 0, 2), (43, 1, 4, 20), (43, 10, 4, 60), (43, 19, 0, 1), (43, 20, 0, 24), (43, 21, 0, 19), (43, 22, 0, 3), (43, 31, 0, 60), (43, 33, 0, 5), (43, 34, -1, 23), (43, 35, 0, 4), (43, 42, 0, 23500), (43, 43, 0, 24000), (43, 49, 0, 1199), (43, 50, 0, 22000), (43, 51, 0, 200), (43, 53, 0, 2147483647), (43, 56, 0, 23600), (43, 57, -10, 23600), (43, 58, 0, 24001)]
def TAt : List (Nat × Int × Int) := [(3, 0, 7), (4, 0, 4), (5, -1, 19), (7, 0, 4), (8, 0, 19), (10, 0, 19), (11, 0, 10), (12, 0, 63), (14, 0, 23), (15, 0, 3), (16, 0, 19), (18, -1, 19), (19, 0, 19), (20, 0, 59), (21, 0, 59), (23, 0, 59), (24, 0, 3), (25, 0, 3), (27, 0, 23), (42, 0, 3), (48, 0, 4), (49, -1, 19), (50, 0, 19), (51, 0, 4), (52, 0, 19), (53, 0, 10), (54, 0, 63), (55, 0, 1048575), (56, 0, 23), (57, 0, 19), (58, 0, 3), (59, 0, 3), (60, 0, 59), (61, 0, 3), (62, 0, 19), (63, 0, 3), (64, -1, 19), (66, 0, 59), (69, 0, 23), (71, 0, 255), (73, 0, 12), (74, 0, 22000), (75, 0, 1200), (76, 0, 255), (77, 0, 127), (78, 0, 1), (79, 0, 19), (80, 0, 23500)]
theorem tf1_7 : yfd TFt 1 7 = some (4, 20) := rfl
theorem tf9_8 : yfd TFt 9 8 = some (4, 60) := rfl
theorem tf17_6 : yfd TFt 17 6 = some (0, 19) := rfl
theorem tf17_7 : yfd TFt 17 7 = some (0, 3) := rfl
theorem tf17_10 : yfd TFt 17 10 = some (0, 20) := rfl
theorem tf17_11 : yfd TFt 17 11 = some (0, 60) := rfl
theorem tf17_12 : yfd TFt 17 12 = some (0, 60) := rfl
theorem tf22_3 : yfd TFt 22 3 = some (0, 24) := rfl
theorem tf26_2 : yfd TFt 26 2 = some (0, 4) := rfl
theorem tf26_3 : yfd TFt 26 3 = some (-1, 23) := rfl
theorem tf26_4 : yfd TFt 26 4 = some (0, 5) := rfl
theorem tf40_2 : yfd TFt 40 2 = some (0, 60000) := rfl
theorem tf40_3 : yfd TFt 40 3 = some (0, 60000) := rfl
theorem tf40_4 : yfd TFt 40 4 = some (0, 60000) := rfl
theorem tf40_5 : yfd TFt 40 5 = some (-1, 60000) := rfl
theorem tf43_0 : yfd TFt 43 0 = some (0, 2) := rfl
theorem tf43_1 : yfd TFt 43 1 = some (4, 20) := rfl
theorem tf43_10 : yfd TFt 43 10 = some (4, 60) := rfl
theorem tf43_19 : yfd TFt 43 19 = some (0, 1) := rfl
theorem tf43_20 : yfd TFt 43 20 = some (0, 24) := rfl
theorem tf43_21 : yfd TFt 43 21 = some (0, 19) := rfl
theorem tf43_22 : yfd TFt 43 22 = some (0, 3) := rfl
theorem tf43_31 : yfd TFt 43 31 = some (0, 60) := rfl
theorem tf43_33 : yfd TFt 43 33 = some (0, 5) := rfl
theorem tf43_34 : yfd TFt 43 34 = some (-1, 23) := rfl
theorem tf43_35 : yfd TFt 43 35 = some (0, 4) := rfl
theorem tf43_42 : yfd TFt 43 42 = some (0, 23500) := rfl
theorem tf43_43 : yfd TFt 43 43 = some (0, 24000) := rfl
theorem tf43_49 : yfd TFt 43 49 = some (0, 1199) := rfl
theorem tf43_50 : yfd TFt 43 50 = some (0, 22000) := rfl
theorem tf43_51 : yfd TFt 43 51 = some (0, 200) := rfl
theorem tf43_53 : yfd TFt 43 53 = some (0, 2147483647) := rfl
theorem tf43_56 : yfd TFt 43 56 = some (0, 23600) := rfl
theorem tf43_57 : yfd TFt 43 57 = some (-10, 23600) := rfl
theorem tf43_58 : yfd TFt 43 58 = some (0, 24001) := rfl
theorem ta3 : yad TAt 3 = some (0, 7) := rfl
theorem ta4 : yad TAt 4 = some (0, 4) := rfl
theorem ta5 : yad TAt 5 = some (-1, 19) := rfl
theorem ta7 : yad TAt 7 = some (0, 4) := rfl
theorem ta8 : yad TAt 8 = some (0, 19) := rfl
theorem ta10 : yad TAt 10 = some (0, 19) := rfl
theorem ta11 : yad TAt 11 = some (0, 10) := rfl
theorem ta12 : yad TAt 12 = some (0, 63) := rfl
theorem ta14 : yad TAt 14 = some (0, 23) := rfl
theorem ta15 : yad TAt 15 = some (0, 3) := rfl
theorem ta16 : yad TAt 16 = some (0, 19) := rfl
theorem ta18 : yad TAt 18 = some (-1, 19) := rfl
theorem ta19 : yad TAt 19 = some (0, 19) := rfl
theorem ta20 : yad TAt 20 = some (0, 59) := rfl
theorem ta21 : yad TAt 21 = some (0, 59) := rfl
theorem ta23 : yad TAt 23 = some (0, 59) := rfl
theorem ta24 : yad TAt 24 = some (0, 3) := rfl
theorem ta25 : yad TAt 25 = some (0, 3) := rfl
theorem ta27 : yad TAt 27 = some (0, 23) := rfl
theorem ta42 : yad TAt 42 = some (0, 3) := rfl
theorem ta48 : yad TAt 48 = some (0, 4) := rfl
theorem ta49 : yad TAt 49 = some (-1, 19) := rfl
theorem ta50 : yad TAt 50 = some (0, 19) := rfl
theorem ta51 : yad TAt 51 = some (0, 4) := rfl
theorem ta52 : yad TAt 52 = some (0, 19) := rfl
theorem ta53 : yad TAt 53 = some (0, 10) := rfl
theorem ta54 : yad TAt 54 = some (0, 63) := rfl
theorem ta55 : yad TAt 55 = some (0, 1048575) := rfl
theorem ta56 : yad TAt 56 = some (0, 23) := rfl
theorem ta57 : yad TAt 57 = some (0, 19) := rfl
theorem ta58 : yad TAt 58 = some (0, 3) := rfl
theorem ta59 : yad TAt 59 = some (0, 3) := rfl
theorem ta60 : yad TAt 60 = some (0, 59) := rfl
theorem ta61 : yad TAt 61 = some (0, 3) := rfl
theorem ta62 : yad TAt 62 = some (0, 19) := rfl
theorem ta63 : yad TAt 63 = some (0, 3) := rfl
theorem ta64 : yad TAt 64 = some (-1, 19) := rfl
theorem ta66 : yad TAt 66 = some (0, 59) := rfl
theorem ta69 : yad TAt 69 = some (0, 23) := rfl
theorem ta71 : yad TAt 71 = some (0, 255) := rfl
theorem ta73 : yad TAt 73 = some (0, 12) := rfl
theorem ta74 : yad TAt 74 = some (0, 22000) := rfl
theorem ta75 : yad TAt 75 = some (0, 1200) := rfl
theorem ta76 : yad TAt 76 = some (0, 255) := rfl
theorem ta77 : yad TAt 77 = some (0, 127) := rfl
theorem ta78 : yad TAt 78 = some (0, 1) := rfl
theorem ta79 : yad TAt 79 = some (0, 19) := rfl
theorem ta80 : yad TAt 80 = some (0, 23500) := rfl
def SPF : List (Nat × Nat) := [(26, 4), (26, 5), (31, 1), (34, 1), (43, 33), (43, 36)]
def SPA : List Nat := [13, 49, 55, 100, 101, 102, 103, 104, 105]
/-- all digits of a method's parameters are kinds -/
def KP (a : Int) : Prop := ∀ j : Int, 0 ≤ j → j < 4 → yand (yshr a (5 * j)) 31 ≤ 23
theorem KP_of4 {a : Int} (h0 : yand (yshr a (5 * 0)) 31 ≤ 23) (h1 : yand (yshr a (5 * 1)) 31 ≤ 23) (h2 : yand (yshr a (5 * 2)) 31 ≤ 23) (h3 : yand (yshr a (5 * 3)) 31 ≤ 23) : KP a := by
  intro j hj0 hj4
  rcases (show j = 0 ∨ j = 1 ∨ j = 2 ∨ j = 3 by omega) with rfl | rfl | rfl | rfl
  · exact h0
  · exact h1
  · exact h2
  · exact h3
theorem yand_z (y : Int) : yand 0 y = 0 := by
  unfold yand
  have : enc 0 = 0 := rfl
  rw [this]
  show dec (0 &&& enc y) = 0
  rw [Nat.zero_and]
  rfl
theorem KP_ab {a n : Int} (hn0 : 0 ≤ n) (hn4 : n ≤ 4) (h0 : 1 ≤ n → yand (yshr a (5 * 0)) 31 ≤ 23) (h1 : 2 ≤ n → yand (yshr a (5 * 1)) 31 ≤ 23) (h2 : 3 ≤ n → yand (yshr a (5 * 2)) 31 ≤ 23) (h3 : 4 ≤ n → yand (yshr a (5 * 3)) 31 ≤ 23) (hz : yshr a (5 * n) = 0) : KP a := by
  intro j hj0 hj4
  rcases Int.lt_or_le j n with hlt | hge
  · rcases (show j = 0 ∨ j = 1 ∨ j = 2 ∨ j = 3 by omega) with rfl | rfl | rfl | rfl
    · exact h0 (by omega)
    · exact h1 (by omega)
    · exact h2 (by omega)
    · exact h3 (by omega)
  · rw [yshr_up (a := 5 * n) (b := 5 * j) (by omega) (by omega) (by omega) hz, yand_z]
    decide
/-- what holds of the two objects between the calls, and mostly within them -/
def yI (S : yS) : Prop := (yBd TFt TAt S) ∧ (∀ j, KP (S.a 55 j)) ∧ (∀ j, KP (S.a 13 j)) ∧ (4 ≤ S.f 43 33 → 0 ≤ S.f 43 36 ∧ S.f 43 36 ≤ 19) ∧ (4 ≤ S.f 26 4 → 0 ≤ S.f 26 5 ∧ S.f 26 5 ≤ 19) ∧ (∀ j : Nat, S.a 49 j < j) ∧ (0 ≤ S.f 31 1 ∧ S.f 31 1 ≤ S.n 0 ∧ S.f 31 1 ≤ 60000) ∧ (0 ≤ S.f 34 1 ∧ S.f 34 1 ≤ S.n 1 ∧ S.f 34 1 ≤ 60000) ∧ (512 ≤ S.n 0 ∧ S.n 0 ≤ 200000 ∧ 512 ≤ S.n 1 ∧ S.n 1 ≤ 200000 ∧ 128 ≤ S.n 3 ∧ S.n 3 ≤ S.n 2 ∧ S.n 2 ≤ 200000 ∧ 128 ≤ S.n 4 ∧ S.n 4 ≤ 200000) ∧ (7100000 ≤ S.bs + 2 * (S.n 0 + S.n 1 + S.n 2 + S.n 3 + S.n 4) ∧ 76000000 ≤ 128 * S.bc + (S.n 0 + S.n 1 + S.n 2 + S.n 3 + S.n 4))
theorem yI.mk' {S : yS} (h : (yBd TFt TAt S) ∧ (∀ j, KP (S.a 55 j)) ∧ (∀ j, KP (S.a 13 j)) ∧ (4 ≤ S.f 43 33 → 0 ≤ S.f 43 36 ∧ S.f 43 36 ≤ 19) ∧ (4 ≤ S.f 26 4 → 0 ≤ S.f 26 5 ∧ S.f 26 5 ≤ 19) ∧ (∀ j : Nat, S.a 49 j < j) ∧ (0 ≤ S.f 31 1 ∧ S.f 31 1 ≤ S.n 0 ∧ S.f 31 1 ≤ 60000) ∧ (0 ≤ S.f 34 1 ∧ S.f 34 1 ≤ S.n 1 ∧ S.f 34 1 ≤ 60000) ∧ (512 ≤ S.n 0 ∧ S.n 0 ≤ 200000 ∧ 512 ≤ S.n 1 ∧ S.n 1 ≤ 200000 ∧ 128 ≤ S.n 3 ∧ S.n 3 ≤ S.n 2 ∧ S.n 2 ≤ 200000 ∧ 128 ≤ S.n 4 ∧ S.n 4 ≤ 200000) ∧ (7100000 ≤ S.bs + 2 * (S.n 0 + S.n 1 + S.n 2 + S.n 3 + S.n 4) ∧ 76000000 ≤ 128 * S.bc + (S.n 0 + S.n 1 + S.n 2 + S.n 3 + S.n 4))) : yI S := h
theorem yI.bd {S : yS} (h : yI S) : yBd TFt TAt S := h.1
theorem yI.k55 {S : yS} (h : yI S) : ∀ j, KP (S.a 55 j) := h.2.1
theorem yI.k13 {S : yS} (h : yI S) : ∀ j, KP (S.a 13 j) := h.2.2.1
theorem yI.m2 {S : yS} (h : yI S) : 4 ≤ S.f 43 33 → 0 ≤ S.f 43 36 ∧ S.f 43 36 ≤ 19 := h.2.2.2.1
theorem yI.c2 {S : yS} (h : yI S) : 4 ≤ S.f 26 4 → 0 ≤ S.f 26 5 ∧ S.f 26 5 ≤ 19 := h.2.2.2.2.1
theorem yI.m3 {S : yS} (h : yI S) : ∀ j : Nat, S.a 49 j < j := h.2.2.2.2.2.1
theorem yI.b0 {S : yS} (h : yI S) : 0 ≤ S.f 31 1 ∧ S.f 31 1 ≤ S.n 0 ∧ S.f 31 1 ≤ 60000 := h.2.2.2.2.2.2.1
theorem yI.b1 {S : yS} (h : yI S) : 0 ≤ S.f 34 1 ∧ S.f 34 1 ≤ S.n 1 ∧ S.f 34 1 ≤ 60000 := h.2.2.2.2.2.2.2.1
theorem yI.bn {S : yS} (h : yI S) : 512 ≤ S.n 0 ∧ S.n 0 ≤ 200000 ∧ 512 ≤ S.n 1 ∧ S.n 1 ≤ 200000 ∧ 128 ≤ S.n 3 ∧ S.n 3 ≤ S.n 2 ∧ S.n 2 ≤ 200000 ∧ 128 ≤ S.n 4 ∧ S.n 4 ≤ 200000 := h.2.2.2.2.2.2.2.2.1
theorem yI.br {S : yS} (h : yI S) : 7100000 ≤ S.bs + 2 * (S.n 0 + S.n 1 + S.n 2 + S.n 3 + S.n 4) ∧ 76000000 ≤ 128 * S.bc + (S.n 0 + S.n 1 + S.n 2 + S.n 3 + S.n 4) := h.2.2.2.2.2.2.2.2.2
section
variable {S : yS}
theorem yI.f (h : yI S) {b w : Nat} {lo hi : Int} (e : yfd TFt b w = some (lo, hi)) : lo ≤ S.f b w ∧ S.f b w ≤ hi := h.bd.f e
theorem yI.a (h : yI S) {b : Nat} {lo hi : Int} (e : yad TAt b = some (lo, hi)) (j : Nat) : lo ≤ S.a b j ∧ S.a b j ≤ hi := h.bd.a e j
theorem ysp {b w b' w' : Nat} {z : Int} (e : yin2 SPF b w = false) (e' : yin2 SPF b' w' = true) : (ysf S b w z).f b' w' = S.f b' w' := by
  refine ysf_ne ?_
  by_cases h1 : b' = b
  · by_cases h2 : w' = w
    · subst h1 h2; rw [e] at e'; cases e'
    · exact Or.inr h2
  · exact Or.inl h1
theorem yspa {b j b' : Nat} {z : Int} (e : yin SPA b = false) (e' : yin SPA b' = true) (j' : Nat) : (ysa S b j z).a b' j' = S.a b' j' := by
  refine ysa_ne (Or.inl ?_)
  intro h1
  subst h1
  rw [e] at e'
  cases e'
theorem yI.setfB (h : yI S) {b w : Nat} {z : Int} (hb : yBd TFt TAt (ysf S b w z)) (e : yin2 SPF b w = false) : yI (ysf S b w z) := by
  refine yI.mk' ⟨hb, h.k55, h.k13, ?_, ?_, h.m3, ?_, ?_, h.bn, h.br⟩
  · rw [ysp e rfl, ysp e rfl]; exact h.m2
  · rw [ysp e rfl, ysp e rfl]; exact h.c2
  · rw [ysp e rfl]; exact h.b0
  · rw [ysp e rfl]; exact h.b1
theorem yI.setf (h : yI S) {b w : Nat} {lo hi z : Int} (e : yfd TFt b w = some (lo, hi)) (e2 : yin2 SPF b w = false) (h1 : lo ≤ z) (h2 : z ≤ hi) : yI (ysf S b w z) := h.setfB (h.bd.setf e h1 h2) e2
theorem yI.setf0 (h : yI S) {b w : Nat} {z : Int} (e : yfd TFt b w = none) (e2 : yin2 SPF b w = false) : yI (ysf S b w z) := h.setfB (h.bd.setf0 e) e2
theorem yI.setaB (h : yI S) {b j : Nat} {z : Int} (hb : yBd TFt TAt (ysa S b j z)) (e : yin SPA b = false) : yI (ysa S b j z) := by
  refine yI.mk' ⟨hb, fun j' => ?_, fun j' => ?_, h.m2, h.c2, fun j' => ?_, h.b0, h.b1, h.bn, h.br⟩
  · rw [yspa e rfl]; exact h.k55 j'
  · rw [yspa e rfl]; exact h.k13 j'
  · rw [yspa e rfl]; exact h.m3 j'
theorem yI.seta (h : yI S) {b j : Nat} {lo hi z : Int} (e : yad TAt b = some (lo, hi)) (e2 : yin SPA b = false) (h1 : lo ≤ z) (h2 : z ≤ hi) : yI (ysa S b j z) := h.setaB (h.bd.seta e h1 h2) e2
theorem yI.seta0 (h : yI S) {b j : Nat} {z : Int} (e : yad TAt b = none) (e2 : yin SPA b = false) : yI (ysa S b j z) := h.setaB (h.bd.seta0 e) e2
theorem ysa_le {p : Int → Prop} {b j b' j' : Nat} {z : Int} (h : p (S.a b' j')) (hz : p z) : p ((ysa S b j z).a b' j') := by
  show p (cond (Nat.beq b' b && Nat.beq j' j) z (S.a b' j'))
  cases Nat.beq b' b && Nat.beq j' j with
  | true => exact hz
  | false => exact h
theorem yI.seta55 (h : yI S) {j : Nat} {z : Int} (h1 : 0 ≤ z) (h2 : z ≤ 1048575) (hz : KP z) : yI (ysa S 55 j z) := by
  refine yI.mk' ⟨h.bd.seta ta55 h1 h2, fun j' => ysa_le (h.k55 j') hz, fun j' => ?_, h.m2, h.c2, fun j' => ?_, h.b0, h.b1, h.bn, h.br⟩
  · rw [ysa_ne (Or.inl (by decide))]; exact h.k13 j'
  · rw [ysa_ne (Or.inl (by decide))]; exact h.m3 j'
theorem yI.seta13 (h : yI S) {j : Nat} {z : Int} (hz : KP z) : yI (ysa S 13 j z) := by
  refine yI.mk' ⟨h.bd.seta0 rfl, fun j' => ?_, fun j' => ysa_le (h.k13 j') hz, h.m2, h.c2, fun j' => ?_, h.b0, h.b1, h.bn, h.br⟩
  · rw [ysa_ne (Or.inl (by decide))]; exact h.k55 j'
  · rw [ysa_ne (Or.inl (by decide))]; exact h.m3 j'
theorem yI.seta49 (h : yI S) {j : Nat} {z : Int} (h1 : -1 ≤ z) (h2 : z ≤ 19) (hz : z < j) : yI (ysa S 49 j z) := by
  refine yI.mk' ⟨h.bd.seta ta49 h1 h2, fun j' => ?_, fun j' => ?_, h.m2, h.c2, fun j' => ?_, h.b0, h.b1, h.bn, h.br⟩
  · rw [ysa_ne (Or.inl (by decide))]; exact h.k55 j'
  · rw [ysa_ne (Or.inl (by decide))]; exact h.k13 j'
  · by_cases hj : j' = j
    · subst hj; rw [ysa_eq]; exact hz
    · rw [ysa_ne (Or.inr hj)]; exact h.m3 j'
theorem yI.set43 (h : yI S) {z y : Int} (h1 : 0 ≤ z) (h2 : z ≤ 5) (hz : 4 ≤ z → 0 ≤ y ∧ y ≤ 19) : yI (ysf (ysf S 43 33 z) 43 36 y) := by
  refine yI.mk' ⟨(h.bd.setf tf43_33 h1 h2).setf0 rfl, h.k55, h.k13, ?_, ?_, h.m3, ?_, ?_, h.bn, h.br⟩
  · rw [ysf_eq, ysf_ne (Or.inr (by decide)), ysf_eq]; exact hz
  · rw [ysf_ne (Or.inl (by decide)), ysf_ne (Or.inl (by decide)), ysf_ne (Or.inl (by decide)), ysf_ne (Or.inl (by decide))]; exact h.c2
  · rw [ysf_ne (Or.inl (by decide)), ysf_ne (Or.inl (by decide))]; exact h.b0
  · rw [ysf_ne (Or.inl (by decide)), ysf_ne (Or.inl (by decide))]; exact h.b1
theorem yI.set26 (h : yI S) {z y : Int} (h1 : 0 ≤ z) (h2 : z ≤ 5) (hz : 4 ≤ z → 0 ≤ y ∧ y ≤ 19) : yI (ysf (ysf S 26 4 z) 26 5 y) := by
  refine yI.mk' ⟨(h.bd.setf tf26_4 h1 h2).setf0 rfl, h.k55, h.k13, ?_, ?_, h.m3, ?_, ?_, h.bn, h.br⟩
  · rw [ysf_ne (Or.inl (by decide)), ysf_ne (Or.inl (by decide)), ysf_ne (Or.inl (by decide)), ysf_ne (Or.inl (by decide))]; exact h.m2
  · rw [ysf_eq, ysf_ne (Or.inr (by decide)), ysf_eq]; exact hz
  · rw [ysf_ne (Or.inl (by decide)), ysf_ne (Or.inl (by decide))]; exact h.b0
  · rw [ysf_ne (Or.inl (by decide)), ysf_ne (Or.inl (by decide))]; exact h.b1
theorem yI.set26v (h : yI S) {y : Int} (hz : S.f 26 4 < 4) : yI (ysf S 26 5 y) := by
  refine yI.mk' ⟨h.bd.setf0 rfl, h.k55, h.k13, ?_, ?_, h.m3, ?_, ?_, h.bn, h.br⟩
  · rw [ysf_ne (Or.inl (by decide)), ysf_ne (Or.inl (by decide))]; exact h.m2
  · rw [ysf_ne (Or.inr (by decide))]; intro h9; exact absurd h9 (by omega)
  · rw [ysf_ne (Or.inl (by decide))]; exact h.b0
  · rw [ysf_ne (Or.inl (by decide))]; exact h.b1
theorem yI.cost (h : yI S) {c s : Nat} (h1 : 7100000 ≤ S.bs - s + 2 * (S.n 0 + S.n 1 + S.n 2 + S.n 3 + S.n 4)) (h2 : 76000000 ≤ 128 * (S.bc - c) + (S.n 0 + S.n 1 + S.n 2 + S.n 3 + S.n 4)) : yI (ycost S c s) := yI.mk' ⟨h.bd, h.k55, h.k13, h.m2, h.c2, h.m3, h.b0, h.b1, h.bn, ⟨h1, h2⟩⟩
theorem yad_none {l : List (Nat × Int × Int)} (h : l.all (fun q => Nat.blt q.1 100) = true) {b : Nat} (hb : 100 ≤ b) : yad l b = none := by
  induction l with
  | nil => rfl
  | cons q r ih =>
    obtain ⟨a, lo, hi⟩ := q
    rw [List.all_cons, Bool.and_eq_true, Nat.blt_eq] at h
    show cond (Nat.beq a b) (some (lo, hi)) (yad r b) = none
    rw [ybeqF (by have := h.1; omega)]
    exact ih h.2
/-- how many bytes are used -/
theorem yI.use0 (h : yI S) {z : Int} (h0 : 0 ≤ z) (h1 : z ≤ S.n 0) (h2 : z ≤ 60000) : yI (ysf S 31 1 z) := by
  refine yI.mk' ⟨h.bd.setf0 rfl, h.k55, h.k13, ?_, ?_, h.m3, ?_, ?_, h.bn, h.br⟩
  · rw [ysf_ne (Or.inl (by decide)), ysf_ne (Or.inl (by decide))]; exact h.m2
  · rw [ysf_ne (Or.inl (by decide)), ysf_ne (Or.inl (by decide))]; exact h.c2
  · rw [ysf_eq]; exact ⟨h0, h1, h2⟩
  · rw [ysf_ne (Or.inl (by decide))]; exact h.b1
theorem yI.use1 (h : yI S) {z : Int} (h0 : 0 ≤ z) (h1 : z ≤ S.n 1) (h2 : z ≤ 60000) : yI (ysf S 34 1 z) := by
  refine yI.mk' ⟨h.bd.setf0 rfl, h.k55, h.k13, ?_, ?_, h.m3, ?_, ?_, h.bn, h.br⟩
  · rw [ysf_ne (Or.inl (by decide)), ysf_ne (Or.inl (by decide))]; exact h.m2
  · rw [ysf_ne (Or.inl (by decide)), ysf_ne (Or.inl (by decide))]; exact h.c2
  · rw [ysf_ne (Or.inl (by decide))]; exact h.b0
  · rw [ysf_eq]; exact ⟨h0, h1, h2⟩
/-- a byte or an int of a row that grows -/
theorem yBd.setg {TF : List (Nat × Nat × Int × Int)} {TA : List (Nat × Int × Int)} (h : yBd TF TA S) {b j : Nat} {z : Int} (e : yad TA b = none) : yBd TF TA (ysa S b j z) := h.seta0 e
theorem yI.setg (h : yI S) {b j : Nat} {z : Int} (e : yad TAt b = none) (e2 : Nat.ble 100 b = true) : yI (ysa S b j z) := by
  have hb := Nat.le_of_ble_eq_true e2
  refine yI.mk' ⟨h.bd.seta0 e, fun j' => ?_, fun j' => ?_, h.m2, h.c2, fun j' => ?_, h.b0, h.b1, h.bn, h.br⟩
  · rw [ysa_ne (Or.inl (by omega))]; exact h.k55 j'
  · rw [ysa_ne (Or.inl (by omega))]; exact h.k13 j'
  · rw [ysa_ne (Or.inl (by omega))]; exact h.m3 j'
theorem yI.new (h : yI S) {q u m k : Nat} (hk : k < 5) : True := trivial
/-- a row has grown -/
def yGr (k : Nat) (m : Nat) (S S' : yS) : Prop := (S'.f = S.f) ∧ (∀ b, b ≠ 100 + k → b ≠ 105 → S'.a b = S.a b) ∧ (∀ j, j < S.n k → S'.a (100 + k) j = S.a (100 + k) j) ∧ (S'.n k = m) ∧ (∀ q, q < 5 → q ≠ k → S'.n q = S.n q) ∧ (S'.bc + 1 = S.bc) ∧ (S'.bs + m = S.bs)
theorem yGr.mk' {k m : Nat} {S S' : yS} (h : (S'.f = S.f) ∧ (∀ b, b ≠ 100 + k → b ≠ 105 → S'.a b = S.a b) ∧ (∀ j, j < S.n k → S'.a (100 + k) j = S.a (100 + k) j) ∧ (S'.n k = m) ∧ (∀ q, q < 5 → q ≠ k → S'.n q = S.n q) ∧ (S'.bc + 1 = S.bc) ∧ (S'.bs + m = S.bs)) : yGr k m S S' := h
theorem yGr.f {k m : Nat} {S S' : yS} (h : yGr k m S S') : S'.f = S.f := h.1
theorem yGr.a {k m : Nat} {S S' : yS} (h : yGr k m S S') : ∀ b, b ≠ 100 + k → b ≠ 105 → S'.a b = S.a b := h.2.1
theorem yGr.g {k m : Nat} {S S' : yS} (h : yGr k m S S') : ∀ j, j < S.n k → S'.a (100 + k) j = S.a (100 + k) j := h.2.2.1
theorem yGr.n1 {k m : Nat} {S S' : yS} (h : yGr k m S S') : S'.n k = m := h.2.2.2.1
theorem yGr.n {k m : Nat} {S S' : yS} (h : yGr k m S S') : ∀ q, q < 5 → q ≠ k → S'.n q = S.n q := h.2.2.2.2.1
theorem yGr.c {k m : Nat} {S S' : yS} (h : yGr k m S S') : S'.bc + 1 = S.bc := h.2.2.2.2.2.1
theorem yGr.s {k m : Nat} {S S' : yS} (h : yGr k m S S') : S'.bs + m = S.bs := h.2.2.2.2.2.2
theorem yI.grow {S' : yS} {k m : Nat} (h : yI S) (hk : k < 5) (hG : yGr k m S S') (hb : (k = 0 → S.f 31 1 ≤ m ∧ 512 ≤ m) ∧ (k = 1 → S.f 34 1 ≤ m ∧ 512 ≤ m) ∧ 128 ≤ m ∧ m ≤ 200000) (h23 : S'.n 3 ≤ S'.n 2) (h2 : 2 * S.n k ≤ m) (h1 : 128 ≤ S.n k) : yI S' := by
  have ha : ∀ b, b < 100 → S'.a b = S.a b := fun b hb => hG.a b (by omega) (by omega)
  have hn : ∀ q, q < 5 → S'.n q = if q = k then m else S.n q := by
    intro q hq
    by_cases e : q = k
    · rw [if_pos e, e]; exact hG.n1
    · rw [if_neg e]; exact hG.n q hq e
  have hbd : yBd TFt TAt S' := by
    refine ⟨fun b w lo hi e => ?_, fun b lo hi e j => ?_⟩
    · rw [hG.f]; exact h.bd.1 b w lo hi e
    · have hlt : b < 100 := by
        rcases Nat.lt_or_ge b 100 with h9 | h9
        · exact h9
        · exfalso
          have : yad TAt b = none := yad_none (by decide) h9
          rw [this] at e
          cases e
      rw [ha b hlt]; exact h.bd.2 b lo hi e j
  obtain ⟨c0, c1, c2, c3, c4, c5, c6, c7, c8⟩ := h.bn
  have m0 := hn 0 (by decide)
  have m1 := hn 1 (by decide)
  have m2 := hn 2 (by decide)
  have m3 := hn 3 (by decide)
  have m4 := hn 4 (by decide)
  have hc := hG.c
  have hs := hG.s
  obtain ⟨r1, r2⟩ := h.br
  have e : k = 0 ∨ k = 1 ∨ k = 2 ∨ k = 3 ∨ k = 4 := by omega
  refine yI.mk' ⟨hbd, fun j => ?_, fun j => ?_, ?_, ?_, fun j => ?_, ?_, ?_, ?_, ?_⟩
  · rw [ha 55 (by decide)]; exact h.k55 j
  · rw [ha 13 (by decide)]; exact h.k13 j
  · rw [hG.f]; exact h.m2
  · rw [hG.f]; exact h.c2
  · rw [ha 49 (by decide)]; exact h.m3 j
  · rw [hG.f]
    have := h.b0
    rcases e with rfl | rfl | rfl | rfl | rfl <;> simp at m0 m1 m2 m3 m4 <;> omega
  · rw [hG.f]
    have := h.b1
    rcases e with rfl | rfl | rfl | rfl | rfl <;> simp at m0 m1 m2 m3 m4 <;> omega
  · rcases e with rfl | rfl | rfl | rfl | rfl <;> simp at m0 m1 m2 m3 m4 <;> omega
  · rcases e with rfl | rfl | rfl | rfl | rfl <;> simp at m0 m1 m2 m3 m4 <;> omega
end
theorem kpu {S : yS} (h : yI S) (j : Nat) (k : Int) (h0 : 0 ≤ k) (h4 : k < 4) : yand (yshr (S.a 55 j) (5 * k)) 31 ≤ 23 := h.k55 j k h0 h4
theorem kpu13 {S : yS} (h : yI S) (j : Nat) (k : Int) (h0 : 0 ≤ k) (h4 : k < 4) : yand (yshr (S.a 13 j) (5 * k)) 31 ≤ 23 := h.k13 j k h0 h4
theorem ycp_a {S : yS} {k1 i0 k2 j0 m b : Nat} (h : b ≠ 100 + k2) : (ycp S k1 i0 k2 j0 m).a b = S.a b := by
  funext j
  show cond (Nat.beq b (100 + k2) && (Nat.ble j0 j && Nat.blt j (j0 + m))) (S.a (100 + k1) (i0 + (j - j0))) (S.a b j) = _
  rw [ybeqF h]; rfl
theorem yI.cp {S : yS} (h : yI S) {k1 i0 k2 j0 m : Nat} : yI (ycp S k1 i0 k2 j0 m) := by
  refine yI.mk' ⟨⟨h.bd.1, fun b lo hi e j => ?_⟩, fun j => ?_, fun j => ?_, h.m2, h.c2, fun j => ?_, h.b0, h.b1, h.bn, h.br⟩
  · have hlt : b < 100 := by
      rcases Nat.lt_or_ge b 100 with h9 | h9
      · exact h9
      · exfalso
        have : yad TAt b = none := yad_none (by decide) h9
        rw [this] at e
        cases e
    rw [ycp_a (by omega)]; exact h.bd.2 b lo hi e j
  · rw [ycp_a (by omega)]; exact h.k55 j
  · rw [ycp_a (by omega)]; exact h.k13 j
  · rw [ycp_a (by omega)]; exact h.m3 j
theorem yFr.cp {MF : List (Nat × Nat)} {MA : List Nat} {S S1 : yS} (h : yFr MF MA S S1) {k1 i0 k2 j0 m : Nat} (e : yin MA (100 + k2) = true) : yFr MF MA S (ycp S1 k1 i0 k2 j0 m) := by
  refine yFr.mk' ⟨fun b w e' => h.f e', fun b e' j => ?_⟩
  rw [ycp_a (fun h9 => by rw [h9, e] at e'; cases e')]
  exact h.a e' j
theorem yRm.cp {MN : List Nat} {S S1 : yS} (h : yRm MN S S1) {k1 i0 k2 j0 m : Nat} : yRm MN S (ycp S1 k1 i0 k2 j0 m) := yRm.mk' ⟨h.n, fun _ e => h.e e, h.c, h.s⟩

/-! a constructor returns nothing -/
def CR (S : yS) : Prop := ∀ j : Nat, S.a 53 j = 10 → S.a 56 j = 0
theorem CRx : yX [] [53, 56] CR := by
  intro S S' _ ha h j hj
  rw [ha 53 rfl] at hj
  rw [ha 56 rfl]
  exact h j hj
theorem CR_push {S S' : yS} {m : Nat} {w b : Int} (h : CR S) (hw : w = 10 → b = 0) (h1 : ∀ j, S'.a 53 j = (ysa S 53 m w).a 53 j) (h2 : ∀ j, S'.a 56 j = (ysa S 56 m b).a 56 j) : CR S' := by
  intro j hj
  rw [h1] at hj
  rw [h2]
  by_cases e : j = m
  · subst e
    rw [ysa_eq] at hj ⊢
    exact hw hj
  · rw [ysa_ne (Or.inr e)] at hj ⊢
    exact h j hj
/-! single bits -/
theorem land_p (k n : Nat) : n &&& 2 ^ k = 0 ∨ n &&& 2 ^ k = 2 ^ k := by
  cases hb : n.testBit k with
  | false =>
    left
    apply Nat.eq_of_testBit_eq
    intro i
    rw [Nat.testBit_and, Nat.zero_testBit]
    by_cases e : k = i
    · subst e; rw [hb, Bool.false_and]
    · rw [Nat.testBit_two_pow_of_ne e, Bool.and_false]
  | true =>
    right
    apply Nat.eq_of_testBit_eq
    intro i
    rw [Nat.testBit_and]
    by_cases e : k = i
    · subst e; rw [hb, Bool.true_and]
    · rw [Nat.testBit_two_pow_of_ne e, Bool.and_false]
theorem yand_q {q : Nat} (hq : q < 2147483648) (h : ∀ n : Nat, n &&& q = 0 ∨ n &&& q = q) (x : Int) : yand x (q : Int) = 0 ∨ yand x (q : Int) = (q : Int) := by
  have e : enc (q : Int) = q := by
    have := enc_nat (z := (q : Int)) (by omega) (by omega)
    omega
  unfold yand
  rw [e]
  rcases h (enc x) with h | h
  · left
    have h : Nat.land (enc x) q = 0 := h
    rw [h]
    rfl
  · right
    have h : Nat.land (enc x) q = q := h
    rw [h]
    unfold dec
    rw [if_pos hq]
theorem yand_p1 (x : Int) : yand x 1 = 0 ∨ yand x 1 = 1 := yand_q (q := 1) (by decide) (land_p 0) x
theorem yand_p2 (x : Int) : yand x 2 = 0 ∨ yand x 2 = 2 := yand_q (q := 2) (by decide) (land_p 1) x
theorem yand_p4 (x : Int) : yand x 4 = 0 ∨ yand x 4 = 4 := yand_q (q := 4) (by decide) (land_p 2) x
theorem yand_p8 (x : Int) : yand x 8 = 0 ∨ yand x 8 = 8 := yand_q (q := 8) (by decide) (land_p 3) x
theorem yand_p16 (x : Int) : yand x 16 = 0 ∨ yand x 16 = 16 := yand_q (q := 16) (by decide) (land_p 4) x
theorem yand_p32 (x : Int) : yand x 32 = 0 ∨ yand x 32 = 32 := yand_q (q := 32) (by decide) (land_p 5) x
/-! types, on both sides -/
def RT (S : yS) : Prop := S.f 1 7 = S.f 43 1 ∧ (S.a 2 0 = 0 ∧ yand (S.a 3 0) 2 = 0) ∧ ∀ j : Nat, S.a 44 j = S.a 2 j ∧ S.a 45 j = yand (S.a 3 j) 1 ∧ 2 * S.a 46 j = yand (S.a 3 j) 2 ∧ 4 * S.a 47 j = yand (S.a 3 j) 4 ∧ S.a 48 j = S.a 4 j ∧ (S.a 2 j = 1 → S.a 49 j = -1 ∧ S.a 5 j = 0) ∧ (S.a 2 j = 0 → S.a 49 j = S.a 5 j)
theorem RTx : yX [(1, 7), (43, 1)] [2, 3, 4, 5, 44, 45, 46, 47, 48, 49] RT := by
  intro S S' hf ha h
  refine ⟨?_, ?_, fun j => ?_⟩
  · rw [hf 1 7 rfl, hf 43 1 rfl]; exact h.1
  · rw [ha 2 rfl, ha 3 rfl]; exact h.2.1
  · rw [ha 2 rfl, ha 3 rfl, ha 4 rfl, ha 5 rfl, ha 44 rfl, ha 45 rfl, ha 46 rfl, ha 47 rfl, ha 48 rfl, ha 49 rfl]
    exact h.2.2 j
/-- what a type may be -/
def tyC (S : yS) (b fl p up : Int) : Prop := 0 ≤ fl ∧ fl ≤ 7 ∧ yand fl 6 ≠ 6 ∧ (b = 1 → yand fl 6 = 0 ∧ up = 0) ∧ 0 ≤ p ∧ p ≤ 3 ∧ 0 ≤ up ∧ up < S.f 1 7 ∧ S.a 2 up.toNat = 0 ∧ yand (S.a 3 up.toNat) 2 = 0
def tyM (S : yS) (b fl p up : Int) : Prop := 0 ≤ fl ∧ fl < 8 ∧ yand fl 6 ≠ 6 ∧ (b ≠ 0 → yand fl 6 = 0) ∧ 0 ≤ p ∧ p < 4 ∧ 0 ≤ up ∧ up < S.f 43 1 ∧ (b ≠ 0 → up = 0) ∧ (b = 0 → S.a 44 up.toNat = 0 ∧ S.a 46 up.toNat = 0)
/-- a type is added -/
def cTy (S S1 : yS) (b fl p up : Int) : Prop := S1.f 1 7 = S.f 1 7 + 1 ∧ (∀ j, S1.a 2 j = (ysa S 2 (S.f 1 7).toNat b).a 2 j) ∧ (∀ j, S1.a 3 j = (ysa S 3 (S.f 1 7).toNat fl).a 3 j) ∧ (∀ j, S1.a 4 j = (ysa S 4 (S.f 1 7).toNat p).a 4 j) ∧ (∀ j, S1.a 5 j = (ysa S 5 (S.f 1 7).toNat up).a 5 j)
def mTy (S S1 : yS) (b fl p up : Int) : Prop := ∃ o f a u : Int, (o = yand fl 1 ∧ 2 * f = yand fl 2 ∧ 4 * a = yand fl 4 ∧ (b ≠ 0 → u = -1) ∧ (b = 0 → u = up)) ∧ S1.f 43 1 = S.f 43 1 + 1 ∧ (∀ j, S1.a 44 j = (ysa S 44 (S.f 43 1).toNat b).a 44 j) ∧ (∀ j, S1.a 45 j = (ysa S 45 (S.f 43 1).toNat o).a 45 j) ∧ (∀ j, S1.a 46 j = (ysa S 46 (S.f 43 1).toNat f).a 46 j) ∧ (∀ j, S1.a 47 j = (ysa S 47 (S.f 43 1).toNat a).a 47 j) ∧ (∀ j, S1.a 48 j = (ysa S 48 (S.f 43 1).toNat p).a 48 j) ∧ (∀ j, S1.a 49 j = (ysa S 49 (S.f 43 1).toNat u).a 49 j)
def sTy (S S1 : yS) : Prop := S1.f 43 1 = S.f 43 1 ∧ ∀ j, S1.a 44 j = S.a 44 j ∧ S1.a 45 j = S.a 45 j ∧ S1.a 46 j = S.a 46 j ∧ S1.a 47 j = S.a 47 j ∧ S1.a 48 j = S.a 48 j ∧ S1.a 49 j = S.a 49 j
theorem cTy81 {S S1 : yS} {b fl p up z : Int} {j : Nat} (h : cTy S S1 b fl p up) : cTy S (ysa S1 81 j z) b fl p up := h
def hTy (S S1 : yS) (b fl p up z : Int) : Prop := (z = 0 ∧ tyC S b fl p up ∧ S.f 1 7 ≤ 19 ∧ S1.a 81 (0 : Int).toNat = S.f 1 7 ∧ cTy S S1 b fl p up) ∨ (z = 1 ∧ ¬ tyC S b fl p up ∧ S1.f = S.f ∧ S1.a = S.a) ∨ (z = 2 ∧ tyC S b fl p up ∧ 20 ≤ S.f 1 7 ∧ S1.f = S.f ∧ S1.a = S.a)
def mTyQ (S S1 : yS) (b fl p up z : Int) : Prop := (S1.f 43 0 = 0 ∧ tyM S b fl p up ∧ S.f 43 1 ≤ 19 ∧ z = S.f 43 1 ∧ mTy S S1 b fl p up) ∨ (S1.f 43 0 = 1 ∧ ¬ tyM S b fl p up ∧ sTy S S1) ∨ (S1.f 43 0 = 2 ∧ tyM S b fl p up ∧ S.f 43 1 = 20 ∧ sTy S S1)
theorem tyC_M {S S1 : yS} {b fl p up : Int} (h : RT S) (hb : b = 0 ∨ b = 1) (e1 : S1.f 43 1 = S.f 43 1) (e2 : ∀ j, S1.a 44 j = S.a 44 j) (e3 : ∀ j, S1.a 46 j = S.a 46 j) : tyC S b fl p up ↔ tyM S1 b fl p up := by
  obtain ⟨h1, ⟨h2, h3⟩, h4⟩ := h
  obtain ⟨g1, g2, g3, g4, -⟩ := h4 up.toNat
  unfold tyC tyM
  rw [e1, e2, e3, g1]
  constructor
  · rintro ⟨a1, a2, a3, a4, a5, a6, a7, a8, a9, b1⟩
    exact ⟨a1, by omega, a3, fun h => (a4 (by omega)).1, a5, by omega, a7, by omega, fun h => (a4 (by omega)).2, fun h => ⟨a9, by omega⟩⟩
  · rintro ⟨a1, a2, a3, a4, a5, a6, a7, a8, a9, b1⟩
    rcases hb with hb | hb
    · obtain ⟨c1, c2⟩ := b1 hb
      exact ⟨a1, by omega, a3, fun h => by omega, a5, by omega, a7, by omega, c1, by omega⟩
    · have c1 := a4 (by omega)
      have c2 := a9 (by omega)
      subst c2
      exact ⟨a1, by omega, a3, fun h => ⟨c1, rfl⟩, a5, by omega, a7, by omega, h2, h3⟩
theorem RT_type {S S1 S2 : yS} {b fl p up k z : Int} {MF1 MF2 : List (Nat × Nat)} {MA1 MA2 : List Nat} (h : RT S) (hb : b = 0 ∨ b = 1) (h0 : 0 ≤ S.f 1 7) (hC : hTy S S1 b fl p up k) (hF1 : yFr MF1 MA1 S S1) (s1 : ydj2 [(43, 1)] MF1 = true) (s2 : ydj1 [44, 45, 46, 47, 48, 49] MA1 = true) (hM : mTyQ S1 S2 b fl p up z) (hF2 : yFr MF2 MA2 S1 S2) (s3 : ydj2 [(1, 7)] MF2 = true) (s4 : ydj1 [2, 3, 4, 5] MA2 = true) : RT S2 ∧ S2.f 43 0 = k ∧ (k = 0 → S1.a 81 (0 : Int).toNat = z) := by
  have f1 : S1.f 43 1 = S.f 43 1 := hF1.f (ydj2_of s1 rfl)
  have a44 : ∀ j, S1.a 44 j = S.a 44 j := fun j => hF1.a (ydj1_of s2 rfl) j
  have a45 : ∀ j, S1.a 45 j = S.a 45 j := fun j => hF1.a (ydj1_of s2 rfl) j
  have a46 : ∀ j, S1.a 46 j = S.a 46 j := fun j => hF1.a (ydj1_of s2 rfl) j
  have a47 : ∀ j, S1.a 47 j = S.a 47 j := fun j => hF1.a (ydj1_of s2 rfl) j
  have a48 : ∀ j, S1.a 48 j = S.a 48 j := fun j => hF1.a (ydj1_of s2 rfl) j
  have a49 : ∀ j, S1.a 49 j = S.a 49 j := fun j => hF1.a (ydj1_of s2 rfl) j
  have f2 : S2.f 1 7 = S1.f 1 7 := hF2.f (ydj2_of s3 rfl)
  have b2 : ∀ j, S2.a 2 j = S1.a 2 j := fun j => hF2.a (ydj1_of s4 rfl) j
  have b3 : ∀ j, S2.a 3 j = S1.a 3 j := fun j => hF2.a (ydj1_of s4 rfl) j
  have b4 : ∀ j, S2.a 4 j = S1.a 4 j := fun j => hF2.a (ydj1_of s4 rfl) j
  have b5 : ∀ j, S2.a 5 j = S1.a 5 j := fun j => hF2.a (ydj1_of s4 rfl) j
  have hcm := tyC_M (fl := fl) (p := p) (up := up) h hb f1 a44 a46
  obtain ⟨h1, ⟨h2, h3⟩, h4⟩ := h
  have same : S1.f = S.f → S1.a = S.a → sTy S1 S2 → RT S2 := by
    intro q1 q2 q3
    obtain ⟨q3, q4⟩ := q3
    refine ⟨by rw [f2, q3, q1]; exact h1, by rw [b2, b3, q2]; exact ⟨h2, h3⟩, fun j => ?_⟩
    obtain ⟨r1, r2, r3, r4, r5, r6⟩ := q4 j
    rw [b2, b3, b4, b5, r1, r2, r3, r4, r5, r6, q2]
    exact h4 j
  rcases hC with ⟨rfl, c1, c2, c3, c4⟩ | ⟨rfl, c1, c2, c3⟩ | ⟨rfl, c1, c2, c3, c4⟩
  · rcases hM with ⟨m1, m2, m3, m4, m5⟩ | ⟨m1, m2, m3⟩ | ⟨m1, m2, m3, m4⟩
    · refine ⟨?_, m1, fun _ => by omega⟩
      obtain ⟨t1, t2, t3, t4, t5⟩ := c4
      obtain ⟨o, f, a, u, ⟨u1, u2, u3, u4, u5⟩, v1, v2, v3, v4, v5, v6, v7⟩ := m5
      have en : (S1.f 43 1).toNat = (S.f 1 7).toNat := by rw [f1, h1]
      rw [en] at v2 v3 v4 v5 v6 v7
      have hn0 : (S.f 1 7).toNat ≠ 0 := by
        obtain ⟨-, -, -, -, -, -, q1, q2, -⟩ := c1
        omega
      refine ⟨by omega, ?_, fun j => ?_⟩
      · rw [b2, b3, t2, t3, ysa_ne (Or.inr (Ne.symm hn0)), ysa_ne (Or.inr (Ne.symm hn0))]
        exact ⟨h2, h3⟩
      · rw [b2, b3, b4, b5, v2, v3, v4, v5, v6, v7, t2, t3, t4, t5]
        by_cases hj : j = (S.f 1 7).toNat
        · subst hj
          rw [ysa_eq, ysa_eq, ysa_eq, ysa_eq, ysa_eq, ysa_eq, ysa_eq, ysa_eq, ysa_eq, ysa_eq]
          obtain ⟨-, -, -, q4, -⟩ := c1
          exact ⟨rfl, u1, u2, u3, rfl, fun e => ⟨u4 (by omega), (q4 e).2⟩, fun e => u5 e⟩
        · rw [ysa_ne (Or.inr hj), ysa_ne (Or.inr hj), ysa_ne (Or.inr hj), ysa_ne (Or.inr hj), ysa_ne (Or.inr hj), ysa_ne (Or.inr hj), ysa_ne (Or.inr hj), ysa_ne (Or.inr hj), ysa_ne (Or.inr hj), ysa_ne (Or.inr hj), a44, a45, a46, a47, a48, a49]
          exact h4 j
    · exact absurd (hcm.mp c1) m2
    · exfalso; omega
  · rcases hM with ⟨m1, m2, m3, m4, m5⟩ | ⟨m1, m2, m3⟩ | ⟨m1, m2, m3, m4⟩
    · exact absurd (hcm.mpr m2) c1
    · exact ⟨same c2 c3 m3, m1, fun h => absurd h (by decide)⟩
    · exact absurd (hcm.mpr m2) c1
  · rcases hM with ⟨m1, m2, m3, m4, m5⟩ | ⟨m1, m2, m3⟩ | ⟨m1, m2, m3, m4⟩
    · exfalso; omega
    · exact absurd (hcm.mp c1) m2
    · exact ⟨same c3 c4 m4, m1, fun h => absurd h (by decide)⟩

/-! the digits of the parameters -/
def dg (p k : Int) : Int := yand (yshr p (5 * k)) 31
def hMn (p z : Int) : Prop := (∀ k : Int, 0 ≤ k → k < z → dg p k ≠ 0) ∧ (z < 4 → dg p z = 0)
def kdC (n k : Int) : Prop := 1 ≤ k ∧ k < 4 + n
def pkC (n p : Int) : Prop := 0 ≤ p ∧ p < 1048576 ∧ ∃ q : Int, 0 ≤ q ∧ q ≤ 4 ∧ (∀ k : Int, 0 ≤ k → k < q → kdC n (dg p k)) ∧ (∀ k : Int, q ≤ k → k < 4 → dg p k = 0)
theorem yshr_div {x s : Int} (h0 : 0 ≤ x) (h1 : x < 2147483648) (hs : 0 ≤ s) (hs2 : s < 32) : yshr x s = x / ((2 ^ s.toNat : Nat) : Int) := by
  have e1 : (enc x : Int) = x := enc_nat h0 (by omega)
  have e2 : enc s = s.toNat := by have := enc_nat hs (by omega : s < 4294967296); omega
  have e3 : Nat.shiftRight (enc x) (enc s) = enc x / 2 ^ s.toNat := by
    show enc x >>> enc s = _
    rw [Nat.shiftRight_eq_div_pow, e2]
  have h4 : enc x / 2 ^ s.toNat ≤ enc x := Nat.div_le_self _ _
  unfold yshr
  rw [e3]
  unfold dec
  rw [if_pos (by omega), Int.natCast_ediv, e1]
theorem yand_31 {x : Int} (h0 : 0 ≤ x) (h1 : x < 2147483648) : yand x 31 = x % 32 := by
  have e1 : (enc x : Int) = x := enc_nat h0 (by omega)
  have e2 : enc 31 = 2 ^ 5 - 1 := rfl
  have e3 : Nat.land (enc x) (enc 31) = enc x % 2 ^ 5 := by
    rw [e2]
    exact Nat.and_two_pow_sub_one_eq_mod _ _
  unfold yand
  rw [e3]
  unfold dec
  rw [if_pos (by omega)]
  omega
theorem dg_n {p : Int} (h0 : 0 ≤ p) (h1 : p < 1048576) : dg p 0 = p % 32 ∧ dg p 1 = p / 32 % 32 ∧ dg p 2 = p / 1024 % 32 ∧ dg p 3 = p / 32768 % 32 := by
  have a0 : yshr p (5 * 0) = p / ((2 ^ (5 * 0 : Int).toNat : Nat) : Int) := yshr_div h0 (by omega) (by decide) (by decide)
  have a1 : yshr p (5 * 1) = p / ((2 ^ (5 * 1 : Int).toNat : Nat) : Int) := yshr_div h0 (by omega) (by decide) (by decide)
  have a2 : yshr p (5 * 2) = p / ((2 ^ (5 * 2 : Int).toNat : Nat) : Int) := yshr_div h0 (by omega) (by decide) (by decide)
  have a3 : yshr p (5 * 3) = p / ((2 ^ (5 * 3 : Int).toNat : Nat) : Int) := yshr_div h0 (by omega) (by decide) (by decide)
  have c0 : ((2 ^ (5 * 0 : Int).toNat : Nat) : Int) = 1 := by decide
  have c1 : ((2 ^ (5 * 1 : Int).toNat : Nat) : Int) = 32 := by decide
  have c2 : ((2 ^ (5 * 2 : Int).toNat : Nat) : Int) = 1024 := by decide
  have c3 : ((2 ^ (5 * 3 : Int).toNat : Nat) : Int) = 32768 := by decide
  rw [c0] at a0
  rw [c1] at a1
  rw [c2] at a2
  rw [c3] at a3
  unfold dg
  rw [a0, a1, a2, a3]
  refine ⟨?_, ?_, ?_, ?_⟩
  · rw [yand_31 (by omega) (by omega)]; omega
  · rw [yand_31 (by omega) (by omega)]
  · rw [yand_31 (by omega) (by omega)]
  · rw [yand_31 (by omega) (by omega)]
theorem ab0 {p n : Int} (hr : -2147483648 ≤ p ∧ p ≤ 2147483647) (h0 : 0 ≤ n) (h4 : n ≤ 4) (h : yshr p (5 * n) = 0) : 0 ≤ p ∧ p < 1048576 ∧ ∀ k : Int, n ≤ k → k < 4 → dg p k = 0 := by
  have h20 := yshr_up (a := 5 * n) (b := 20) (by omega) (by omega) (by decide) h
  have h1 := dec_zero (yshr_lt p 20) h20
  have e20 : enc 20 = 20 := rfl
  rw [e20] at h1
  have h2 : enc p < 1048576 := by
    have h3 : enc p >>> 20 = 0 := h1
    rw [Nat.shiftRight_eq_div_pow] at h3
    have h5 : (2 : Nat) ^ 20 = 1048576 := by decide
    rw [h5] at h3
    omega
  have h6 : 0 ≤ p ∧ p < 1048576 := by unfold enc at h2; omega
  refine ⟨h6.1, h6.2, fun k h7 h8 => ?_⟩
  unfold dg
  rw [yshr_up (a := 5 * n) (b := 5 * k) (by omega) (by omega) (by omega) h, yand_z]
theorem ab1 {p n : Int} (h0 : 0 ≤ p) (h1 : p < 1048576) (hn : 0 ≤ n) (h4 : n ≤ 4) (h : ∀ k : Int, n ≤ k → k < 4 → dg p k = 0) : yshr p (5 * n) = 0 := by
  obtain ⟨d0, d1, d2, d3⟩ := dg_n h0 h1
  rw [yshr_div h0 (by omega) (by omega) (by omega)]
  rcases (show n = 0 ∨ n = 1 ∨ n = 2 ∨ n = 3 ∨ n = 4 by omega) with rfl | rfl | rfl | rfl | rfl
  · have c0 : ((2 ^ (5 * 0 : Int).toNat : Nat) : Int) = 1 := by decide
    rw [c0]
    have := h 0 (by decide) (by decide)
    have := h 1 (by decide) (by decide)
    have := h 2 (by decide) (by decide)
    have := h 3 (by decide) (by decide)
    omega
  · have c0 : ((2 ^ (5 * 1 : Int).toNat : Nat) : Int) = 32 := by decide
    rw [c0]
    have := h 1 (by decide) (by decide)
    have := h 2 (by decide) (by decide)
    have := h 3 (by decide) (by decide)
    omega
  · have c0 : ((2 ^ (5 * 2 : Int).toNat : Nat) : Int) = 1024 := by decide
    rw [c0]
    have := h 2 (by decide) (by decide)
    have := h 3 (by decide) (by decide)
    omega
  · have c0 : ((2 ^ (5 * 3 : Int).toNat : Nat) : Int) = 32768 := by decide
    rw [c0]
    have := h 3 (by decide) (by decide)
    omega
  · have c0 : ((2 ^ (5 * 4 : Int).toNat : Nat) : Int) = 1048576 := by decide
    rw [c0]
    omega
theorem hm_0 {p : Int} : ∀ k : Int, 0 ≤ k → k < 0 → dg p k ≠ 0 := fun k h1 h2 => absurd h1 (by omega)
theorem hm_s {p n : Int} (h : ∀ k : Int, 0 ≤ k → k < n → dg p k ≠ 0) (hn : dg p n ≠ 0) : ∀ k : Int, 0 ≤ k → k < n + 1 → dg p k ≠ 0 := by
  intro k h1 h2
  by_cases e : k = n
  · rw [e]; exact hn
  · exact h k h1 (by omega)
theorem pk_y {p n N : Int} (hr : -2147483648 ≤ p ∧ p ≤ 2147483647) (h0 : 0 ≤ n) (h4 : n ≤ 4) (ha : ∀ k : Int, 0 ≤ k → k < n → kdC N (dg p k)) (hz : yshr p (5 * n) = 0) : pkC N p := by
  obtain ⟨a1, a2, a3⟩ := ab0 hr h0 h4 hz
  exact ⟨a1, a2, n, h0, h4, ha, a3⟩
theorem pk_q {p n N : Int} (h : hMn p n) (h0 : 0 ≤ n) (h4 : n ≤ 4) (hp : pkC N p) : 0 ≤ p ∧ p < 1048576 ∧ (∀ k : Int, 0 ≤ k → k < n → kdC N (dg p k)) ∧ (∀ k : Int, n ≤ k → k < 4 → dg p k = 0) := by
  obtain ⟨a1, a2, q, q0, q4, b1, b2⟩ := hp
  have e : q = n := by
    rcases Int.lt_trichotomy q n with h5 | h5 | h5
    · exact absurd (b2 q (Int.le_refl _) (by omega)) (h.1 q q0 h5)
    · exact h5
    · have h6 := h.2 (by omega)
      have h7 := (b1 n h0 h5).1
      omega
  subst e
  exact ⟨a1, a2, b1, b2⟩
theorem pk_nk {p n N k : Int} (h : hMn p n) (h0 : 0 ≤ n) (h4 : n ≤ 4) (k0 : 0 ≤ k) (kn : k < n) (hk : ¬ kdC N (dg p k)) : ¬ pkC N p := fun hp => hk ((pk_q h h0 h4 hp).2.2.1 k k0 kn)
theorem pk_nz {p n N k : Int} (h : hMn p n) (h0 : 0 ≤ n) (h4 : n ≤ 4) (k0 : n ≤ k) (kn : k < 4) (hk : dg p k ≠ 0) : ¬ pkC N p := fun hp => hk ((pk_q h h0 h4 hp).2.2.2 k k0 kn)
theorem pk_na {p n N : Int} (h : hMn p n) (h0 : 0 ≤ n) (h4 : n ≤ 4) (hz : yshr p (5 * n) ≠ 0) : ¬ pkC N p := fun hp => by
  obtain ⟨a1, a2, -, a4⟩ := pk_q h h0 h4 hp
  exact hz (ab1 a1 a2 h0 h4 a4)
theorem kd_0 {p N : Int} : ∀ k : Int, 0 ≤ k → k < 0 → kdC N (dg p k) := fun k h1 h2 => absurd h1 (by omega)
theorem kd_s {p n N : Int} (h : ∀ k : Int, 0 ≤ k → k < n → kdC N (dg p k)) (hn : kdC N (dg p n)) : ∀ k : Int, 0 ≤ k → k < n + 1 → kdC N (dg p k) := by
  intro k h1 h2
  by_cases e : k = n
  · rw [e]; exact hn
  · exact h k h1 (by omega)
/-- the model's way -/
def pkM (p n N k : Int) : Prop := ∀ q : Int, 0 ≤ q → q < k → (q < n → kdC N (dg p q)) ∧ (n ≤ q → dg p q = 0)
theorem pkM_0 {p n N : Int} : pkM p n N 0 := fun q h1 h2 => absurd h1 (by omega)
theorem pkM_s {p n N k : Int} (h : pkM p n N k) (h1 : k < n → kdC N (dg p k)) (h2 : n ≤ k → dg p k = 0) : pkM p n N (k + 1) := by
  intro q q0 q1
  by_cases e : q = k
  · rw [e]; exact ⟨h1, h2⟩
  · exact h q q0 (by omega)
theorem pkM_y {p n N : Int} (h0 : 0 ≤ p) (h1 : p < 1048576) (hn : 0 ≤ n) (h4 : n ≤ 4) (h : pkM p n N 4) : pkC N p :=
  ⟨h0, h1, n, hn, h4, fun k k0 k1 => (h k k0 (by omega)).1 k1, fun k k0 k1 => (h k (by omega) k1).2 k0⟩
/-! methods, on both sides -/
def RMe (S : yS) : Prop := S.f 9 8 = S.f 43 10 ∧ ∀ j : Nat, S.a 52 j = S.a 10 j ∧ S.a 53 j = S.a 11 j ∧ S.a 54 j = S.a 12 j ∧ S.a 55 j = S.a 13 j ∧ S.a 56 j = S.a 14 j
theorem RMex : yX [(9, 8), (43, 10)] [10, 11, 12, 13, 14, 52, 53, 54, 55, 56] RMe := by
  intro S S' hf ha h
  refine ⟨?_, fun j => ?_⟩
  · rw [hf 9 8 rfl, hf 43 10 rfl]; exact h.1
  · rw [ha 10 rfl, ha 11 rfl, ha 12 rfl, ha 13 rfl, ha 14 rfl, ha 52 rfl, ha 53 rfl, ha 54 rfl, ha 55 rfl, ha 56 rfl]
    exact h.2 j
def flC (S : yS) (t fl : Int) : Prop := 0 ≤ fl ∧ fl ≤ 63 ∧ (yand fl 7 = 0 ∨ yand fl 7 = 1 ∨ yand fl 7 = 2 ∨ yand fl 7 = 4) ∧ (S.a 2 t.toNat ≠ 0 → yand fl (-33) = 1) ∧ (S.a 2 t.toNat = 0 → yand fl 32 = 0 ∨ (yand (S.a 3 t.toNat) 4 ≠ 0 ∧ yand fl 28 = 0))
def nsC (S : yS) (n t w p b : Int) : Prop := ∀ m : Nat, (m : Int) < n → ¬ (S.a 10 m = t ∧ S.a 11 m = w ∧ S.a 13 m = p ∧ S.a 14 m = b)
theorem nsC_0 {S : yS} {t w p b : Int} : nsC S 0 t w p b := fun m h => absurd h (by omega)
theorem nsC_s {S : yS} {n t w p b : Int} (h : nsC S n t w p b) (h0 : 0 ≤ n) (hn : ¬ (S.a 10 n.toNat = t ∧ S.a 11 n.toNat = w ∧ S.a 13 n.toNat = p ∧ S.a 14 n.toNat = b)) : nsC S (n + 1) t w p b := by
  intro m hm
  by_cases e : m = n.toNat
  · rw [e]; exact hn
  · exact h m (by omega)
def mbC (S : yS) (t w fl p b : Int) : Prop := (4 ≤ t ∧ t < S.f 1 7) ∧ (0 ≤ w ∧ w ≤ 10) ∧ flC S t fl ∧ pkC (S.f 1 7) p ∧ (b = 0 ∨ kdC (S.f 1 7) b) ∧ (w = 10 → S.a 2 t.toNat = 0 ∧ yand fl (-8) = 0 ∧ b = 0) ∧ nsC S (S.f 9 8) t w p b
def nsM (S : yS) (n t w p b : Int) : Prop := ∀ m : Nat, (m : Int) < n → ¬ (S.a 52 m = t ∧ S.a 53 m = w ∧ S.a 55 m = p ∧ S.a 56 m = b)
theorem nsM_0 {S : yS} {t w p b : Int} : nsM S 0 t w p b := fun m h => absurd h (by omega)
theorem nsM_s {S : yS} {n t w p b : Int} (h : nsM S n t w p b) (h0 : 0 ≤ n) (hn : ¬ (S.a 52 n.toNat = t ∧ S.a 53 n.toNat = w ∧ S.a 55 n.toNat = p ∧ S.a 56 n.toNat = b)) : nsM S (n + 1) t w p b := by
  intro m hm
  by_cases e : m = n.toNat
  · rw [e]; exact hn
  · exact h m (by omega)
def fmM (S : yS) (t w fl b : Int) : Prop := (yand fl 7 = 0 ∨ yand fl 7 = 1 ∨ yand fl 7 = 2 ∨ yand fl 7 = 4) ∧ (w = 10 → S.a 44 t.toNat = 0 ∧ fl ≤ 7 ∧ b = 0) ∧ (0 < yand fl 32 → yand fl 28 ≤ 0 ∧ (S.a 44 t.toNat ≠ 0 ∨ S.a 47 t.toNat ≠ 0)) ∧ (S.a 44 t.toNat ≠ 0 → fl = 1 ∨ fl = 33)
def mbM (S : yS) (t w fl p b : Int) : Prop := (4 ≤ t ∧ t < S.f 43 1) ∧ (0 ≤ w ∧ w ≤ 10) ∧ (0 ≤ fl ∧ fl ≤ 63) ∧ pkC (S.f 43 1) p ∧ (0 ≤ b ∧ (0 < b → kdC (S.f 43 1) b)) ∧ fmM S t w fl b ∧ nsM S (S.f 43 10) t w p b
def flT (k : Nat) : Bool := decide ((yand (k : Int) (-33) = 1 ↔ (k : Int) = 1 ∨ (k : Int) = 33) ∧ (yand (k : Int) (-8) = 0 ↔ (k : Int) ≤ 7) ∧ ((k : Int) = 1 → yand (k : Int) 32 = 0) ∧ ((k : Int) = 33 → yand (k : Int) 28 = 0) ∧ 0 ≤ yand (k : Int) 28 ∧ 0 ≤ yand (k : Int) 32)
theorem flT_all : (List.range 64).all flT = true := by decide +kernel
theorem flT_of {fl : Int} (h0 : 0 ≤ fl) (h1 : fl ≤ 63) : (yand fl (-33) = 1 ↔ fl = 1 ∨ fl = 33) ∧ (yand fl (-8) = 0 ↔ fl ≤ 7) ∧ (fl = 1 → yand fl 32 = 0) ∧ (fl = 33 → yand fl 28 = 0) ∧ 0 ≤ yand fl 28 ∧ 0 ≤ yand fl 32 := by
  have h := List.all_eq_true.mp flT_all fl.toNat (List.mem_range.mpr (by omega))
  have h := of_decide_eq_true h
  rw [show ((fl.toNat : Nat) : Int) = fl by omega] at h
  exact h
theorem mbC_M {S S1 : yS} {t w fl p b : Int} (h : RT S) (hm : RMe S) (e1 : S1.f 43 1 = S.f 43 1) (e2 : ∀ j, S1.a 44 j = S.a 44 j) (e3 : ∀ j, S1.a 47 j = S.a 47 j) (e4 : S1.f 43 10 = S.f 43 10) (e5 : ∀ j, S1.a 52 j = S.a 52 j) (e6 : ∀ j, S1.a 53 j = S.a 53 j) (e7 : ∀ j, S1.a 55 j = S.a 55 j) (e8 : ∀ j, S1.a 56 j = S.a 56 j) : mbC S t w fl p b ↔ mbM S1 t w fl p b := by
  obtain ⟨h1, -, h4⟩ := h
  obtain ⟨m1, m2⟩ := hm
  obtain ⟨g1, -, -, g4, -⟩ := h4 t.toNat
  have hns : nsC S (S.f 9 8) t w p b ↔ nsM S1 (S1.f 43 10) t w p b := by
    unfold nsC nsM
    constructor
    · intro q m hm
      rw [e5, e6, e7, e8, (m2 m).1, (m2 m).2.1, (m2 m).2.2.2.1, (m2 m).2.2.2.2]
      exact q m (by omega)
    · intro q m hm
      have := q m (by omega)
      rw [e5, e6, e7, e8, (m2 m).1, (m2 m).2.1, (m2 m).2.2.2.1, (m2 m).2.2.2.2] at this
      exact this
  unfold mbC mbM
  rw [e1, ← h1, hns]
  constructor
  · rintro ⟨a1, a2, ⟨f1, f2, f3, f4, f5⟩, a4, a5, a6, a7⟩
    obtain ⟨t1, t2, t3, t4, t5, t6⟩ := flT_of f1 f2
    refine ⟨a1, a2, ⟨f1, f2⟩, a4, ⟨?_, ?_⟩, ⟨f3, ?_, ?_, ?_⟩, a7⟩
    · rcases a5 with q | q
      · omega
      · have := q.1; omega
    · intro hb
      rcases a5 with q | q
      · omega
      · exact q
    · intro hw
      obtain ⟨c1, c2, c3⟩ := a6 hw
      exact ⟨by rw [e2, g1]; exact c1, t2.mp c2, c3⟩
    · intro h32
      rw [e2, e3, g1]
      by_cases hi : S.a 2 t.toNat = 0
      · rcases f5 hi with q | ⟨q1, q2⟩
        · omega
        · exact ⟨by omega, Or.inr (by omega)⟩
      · have c1 := t1.mp (f4 hi)
        rcases c1 with c1 | c1
        · have := t3 c1; omega
        · have := t4 c1; exact ⟨by omega, Or.inl hi⟩
    · intro hi
      rw [e2, g1] at hi
      exact t1.mp (f4 hi)
  · rintro ⟨a1, a2, ⟨f1, f2⟩, a4, ⟨a5, a5b⟩, ⟨f3, f6, f7, f8⟩, a7⟩
    obtain ⟨t1, t2, t3, t4, t5, t6⟩ := flT_of f1 f2
    refine ⟨a1, a2, ⟨f1, f2, f3, ?_, ?_⟩, a4, ?_, ?_, a7⟩
    · intro hi
      exact t1.mpr (f8 (by rw [e2, g1]; exact hi))
    · intro hi
      by_cases h32 : yand fl 32 = 0
      · exact Or.inl h32
      · obtain ⟨q1, q2⟩ := f7 (by omega)
        rw [e2, e3, g1] at q2
        rcases q2 with q2 | q2
        · exact absurd hi q2
        · exact Or.inr ⟨by omega, by omega⟩
    · by_cases hb : b = 0
      · exact Or.inl hb
      · exact Or.inr (a5b (by omega))
    · intro hw
      obtain ⟨c1, c2, c3⟩ := f6 hw
      rw [e2, g1] at c1
      exact ⟨c1, t2.mpr c2, c3⟩
def cMe (S S1 : yS) (t w fl p b : Int) : Prop := S1.f 9 8 = S.f 9 8 + 1 ∧ (∀ j, S1.a 10 j = (ysa S 10 (S.f 9 8).toNat t).a 10 j) ∧ (∀ j, S1.a 11 j = (ysa S 11 (S.f 9 8).toNat w).a 11 j) ∧ (∀ j, S1.a 12 j = (ysa S 12 (S.f 9 8).toNat fl).a 12 j) ∧ (∀ j, S1.a 13 j = (ysa S 13 (S.f 9 8).toNat p).a 13 j) ∧ (∀ j, S1.a 14 j = (ysa S 14 (S.f 9 8).toNat b).a 14 j)
theorem cMe81 {S S1 : yS} {t w fl p b z : Int} {j : Nat} (h : cMe S S1 t w fl p b) : cMe S (ysa S1 81 j z) t w fl p b := h
def mMe (S S1 : yS) (t w fl p b : Int) : Prop := S1.f 43 10 = S.f 43 10 + 1 ∧ (∀ j, S1.a 52 j = (ysa S 52 (S.f 43 10).toNat t).a 52 j) ∧ (∀ j, S1.a 53 j = (ysa S 53 (S.f 43 10).toNat w).a 53 j) ∧ (∀ j, S1.a 54 j = (ysa S 54 (S.f 43 10).toNat fl).a 54 j) ∧ (∀ j, S1.a 55 j = (ysa S 55 (S.f 43 10).toNat p).a 55 j) ∧ (∀ j, S1.a 56 j = (ysa S 56 (S.f 43 10).toNat b).a 56 j)
def sMe (S S1 : yS) : Prop := S1.f 43 10 = S.f 43 10 ∧ ∀ j, S1.a 52 j = S.a 52 j ∧ S1.a 53 j = S.a 53 j ∧ S1.a 54 j = S.a 54 j ∧ S1.a 55 j = S.a 55 j ∧ S1.a 56 j = S.a 56 j
def hMe (S S1 : yS) (t w fl p b z : Int) : Prop := (z = 0 ∧ mbC S t w fl p b ∧ S.f 9 8 ≤ 59 ∧ S1.a 81 (0 : Int).toNat = S.f 9 8 ∧ cMe S S1 t w fl p b) ∨ (z = 1 ∧ ¬ mbC S t w fl p b ∧ S1.f = S.f ∧ S1.a = S.a) ∨ (z = 2 ∧ mbC S t w fl p b ∧ 60 ≤ S.f 9 8 ∧ S1.f = S.f ∧ S1.a = S.a)
def mMeQ (S S1 : yS) (t w fl p b z : Int) : Prop := (S1.f 43 0 = 0 ∧ mbM S t w fl p b ∧ S.f 43 10 ≤ 59 ∧ z = S.f 43 10 ∧ mMe S S1 t w fl p b) ∨ (S1.f 43 0 = 1 ∧ ¬ mbM S t w fl p b ∧ sMe S S1) ∨ (S1.f 43 0 = 2 ∧ mbM S t w fl p b ∧ S.f 43 10 = 60 ∧ sMe S S1)
theorem RMe_method {S S1 S2 : yS} {t w fl p b k z : Int} {MF1 MF2 : List (Nat × Nat)} {MA1 MA2 : List Nat} (h : RT S) (hm : RMe S) (hC : hMe S S1 t w fl p b k) (hF1 : yFr MF1 MA1 S S1) (s1 : ydj2 [(43, 10), (43, 1)] MF1 = true) (s2 : ydj1 [52, 53, 54, 55, 56, 44, 47] MA1 = true) (hM : mMeQ S1 S2 t w fl p b z) (hF2 : yFr MF2 MA2 S1 S2) (s3 : ydj2 [(9, 8)] MF2 = true) (s4 : ydj1 [10, 11, 12, 13, 14] MA2 = true) : RMe S2 ∧ S2.f 43 0 = k ∧ (k = 0 → S1.a 81 (0 : Int).toNat = z) := by
  have f1 : S1.f 43 10 = S.f 43 10 := hF1.f (ydj2_of s1 rfl)
  have f0 : S1.f 43 1 = S.f 43 1 := hF1.f (ydj2_of s1 rfl)
  have a52 : ∀ j, S1.a 52 j = S.a 52 j := fun j => hF1.a (ydj1_of s2 rfl) j
  have a53 : ∀ j, S1.a 53 j = S.a 53 j := fun j => hF1.a (ydj1_of s2 rfl) j
  have a54 : ∀ j, S1.a 54 j = S.a 54 j := fun j => hF1.a (ydj1_of s2 rfl) j
  have a55 : ∀ j, S1.a 55 j = S.a 55 j := fun j => hF1.a (ydj1_of s2 rfl) j
  have a56 : ∀ j, S1.a 56 j = S.a 56 j := fun j => hF1.a (ydj1_of s2 rfl) j
  have a44 : ∀ j, S1.a 44 j = S.a 44 j := fun j => hF1.a (ydj1_of s2 rfl) j
  have a47 : ∀ j, S1.a 47 j = S.a 47 j := fun j => hF1.a (ydj1_of s2 rfl) j
  have f2 : S2.f 9 8 = S1.f 9 8 := hF2.f (ydj2_of s3 rfl)
  have b0 : ∀ j, S2.a 10 j = S1.a 10 j := fun j => hF2.a (ydj1_of s4 rfl) j
  have b1 : ∀ j, S2.a 11 j = S1.a 11 j := fun j => hF2.a (ydj1_of s4 rfl) j
  have b2 : ∀ j, S2.a 12 j = S1.a 12 j := fun j => hF2.a (ydj1_of s4 rfl) j
  have b3 : ∀ j, S2.a 13 j = S1.a 13 j := fun j => hF2.a (ydj1_of s4 rfl) j
  have b4 : ∀ j, S2.a 14 j = S1.a 14 j := fun j => hF2.a (ydj1_of s4 rfl) j
  have hcm := mbC_M (t := t) (w := w) (fl := fl) (p := p) (b := b) h hm f0 a44 a47 f1 a52 a53 a55 a56
  obtain ⟨h1, h4⟩ := hm
  have same : S1.f = S.f → S1.a = S.a → sMe S1 S2 → RMe S2 := by
    intro q1 q2 q3
    obtain ⟨q3, q4⟩ := q3
    refine ⟨by rw [f2, q3, q1]; exact h1, fun j => ?_⟩
    obtain ⟨r1, r2, r3, r4, r5⟩ := q4 j
    rw [b0, b1, b2, b3, b4, r1, r2, r3, r4, r5, q2]
    exact h4 j
  rcases hC with ⟨rfl, c1, c2, c3, c4⟩ | ⟨rfl, c1, c2, c3⟩ | ⟨rfl, c1, c2, c3, c4⟩
  · rcases hM with ⟨m1, m2, m3, m4, m5⟩ | ⟨m1, m2, m3⟩ | ⟨m1, m2, m3, m4⟩
    · refine ⟨?_, m1, fun _ => by omega⟩
      obtain ⟨t1, t2, t3, t4, t5, t6⟩ := c4
      obtain ⟨v1, v2, v3, v4, v5, v6⟩ := m5
      have en : (S1.f 43 10).toNat = (S.f 9 8).toNat := by rw [f1, h1]
      rw [en] at v2 v3 v4 v5 v6
      refine ⟨by omega, fun j => ?_⟩
      rw [b0, b1, b2, b3, b4, v2, v3, v4, v5, v6, t2, t3, t4, t5, t6]
      by_cases hj : j = (S.f 9 8).toNat
      · subst hj
        rw [ysa_eq, ysa_eq, ysa_eq, ysa_eq, ysa_eq, ysa_eq, ysa_eq, ysa_eq, ysa_eq, ysa_eq]
        exact ⟨rfl, rfl, rfl, rfl, rfl⟩
      · rw [ysa_ne (Or.inr hj), ysa_ne (Or.inr hj), ysa_ne (Or.inr hj), ysa_ne (Or.inr hj), ysa_ne (Or.inr hj), ysa_ne (Or.inr hj), ysa_ne (Or.inr hj), ysa_ne (Or.inr hj), ysa_ne (Or.inr hj), ysa_ne (Or.inr hj), a52, a53, a54, a55, a56]
        exact h4 j
    · exact absurd (hcm.mp c1) m2
    · exfalso; omega
  · rcases hM with ⟨m1, m2, m3, m4, m5⟩ | ⟨m1, m2, m3⟩ | ⟨m1, m2, m3, m4⟩
    · exact absurd (hcm.mpr m2) c1
    · exact ⟨same c2 c3 m3, m1, fun h => absurd h (by decide)⟩
    · exact absurd (hcm.mpr m2) c1
  · rcases hM with ⟨m1, m2, m3, m4, m5⟩ | ⟨m1, m2, m3⟩ | ⟨m1, m2, m3, m4⟩
    · exfalso; omega
    · exact absurd (hcm.mp c1) m2
    · exact ⟨same c3 c4 m4, m1, fun h => absurd h (by decide)⟩
/-! how many bits -/
def bc1 (x : Int) : Int := x - yand (yshr x 1) 1431655765
def bc2 (y : Int) : Int := yand y 858993459 + yand (yshr y 2) 858993459
def bc3 (y : Int) : Int := yand (y + yshr y 4) 252645135
def bc4 (y : Int) : Int := y + yshr y 8
def bc5 (y : Int) : Int := y + yshr y 16
def bcI (x : Int) : Int := yand (bc5 (bc4 (bc3 (bc2 (bc1 x))))) 63
def bcT (k : Nat) : Bool := decide (bcI (k : Int) ≤ 1 ↔ ((k : Int) = 0 ∨ (k : Int) = 1 ∨ (k : Int) = 2 ∨ (k : Int) = 4))
theorem bcT_all : (List.range 8).all bcT = true := by decide +kernel
theorem bcI_7 {x : Int} (h0 : 0 ≤ x) (h1 : x ≤ 7) : bcI x ≤ 1 ↔ (x = 0 ∨ x = 1 ∨ x = 2 ∨ x = 4) := by
  have h := List.all_eq_true.mp bcT_all x.toNat (List.mem_range.mpr (by omega))
  have h := of_decide_eq_true h
  rw [show ((x.toNat : Nat) : Int) = x by omega] at h
  exact h

end XNC
