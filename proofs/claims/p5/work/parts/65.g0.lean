set_option linter.unusedVariables false
noncomputable section XNC
def TFt : List (Nat × Nat × Int × Int) := [(1, 7, 4, 20), (9, 8, 4, 60), (17, 6, 0, 19), (17, 7, 0, 3), (17, 10, 0, 20), (17, 11, 0, 60), (17, 12, 0, 60), (22, 3, 0, 24), (26, 2, 0, 4), (26, 3, -1, 23), (26, 4, 0, 5), (40, 2, 0, 60000), (40, 3, 0, 60000), (40, 4, 0, 60000), (40, 5, -1, 60000), (43, 0, 0, 2), (43, 1, 4, 20), (43, 10, 4, 60), (43, 19, 0, 1), (43, 20, 0, 24), (43, 21, 0, 19), (43, 22, 0, 3), (43, 31, 0, 60), (43, 33, 0, 5), (43, 34, -1, 23), (43, 35, 0, 4), (43, 42, 0, 23500), (43, 43, 0, 24000), (43, 49, 0, 1199), (43, 50, 0, 22000), (43, 51, 0, 200), (43, 53, 0, 2147483647), (43, 56, 0, 23600), (43, 57, -10, 23600), (43, 58, 0, 24001)]
def TAt : List (Nat × Int × Int) := [(3, 0, 7), (4, 0, 4), (5, -1, 19), (7, 0, 4), (8, 0, 19), (10, 0, 19), (11, 0, 10), (12, 0, 63), (14, 0, 23), (15, 0, 3), (16, 0, 19), (18, -1, 19), (19, 0, 19), (20, 0, 59), (21, 0, 59), (23, 0, 59), (24, 0, 3), (25, 0, 3), (27, 0, 23), (42, 0, 3), (48, 0, 4), (49, -1, 19), (50, 0, 19), (51, 0, 4), (52, 0, 19), (53, 0, 10), (54, 0, 63), (55, 0, 1048575), (56, 0, 23), (57, 0, 19), (58, 0, 3), (59, 0, 3), (60, 0, 59), (61, 0, 3), (62, 0, 19), (63, 0, 3), (64, -1, 19), (66, 0, 59), (69, 0, 23), (71, 0, 255), (73, 0, 12), (74, 0, 22000), (75, 0, 1200), (76, 0, 255), (77, 0, 127), (78, 0, 1), (79, 0, 19), (80, 0, 23500)]
theorem tf1_7 : yfd TFt 1 7 = some (4, 20) := rfl
theorem tf9_8 : yfd TFt 9 8 = some (4, 60) := rfl
theorem tf17_6 : yfd TFt 17 6 = some (0, 19) := rfl
theorem tf17_7 : yfd TFt 17 7 = some (0, 3) := rfl
theorem tf17_10 : yfd TFt 17 10 = some (0, 20) := rfl
theorem tf17_11 : yfd TFt 17 11 = some (0, 60) := rfl
theorem tf17_12 : yfd TFt 17 12 = some (0, 60) := rfl
theorem tf22_3 : yfd TFt 22 3 = some (0, 24) := rfl
theorem tf26_2 : yfd TFt 26 2 = some (0, 4) := rfl
theorem tf26_3 : yfd TFt 26 3 = some (-1, 23) := rfl
theorem tf26_4 : yfd TFt 26 4 = some (0, 5) := rfl
theorem tf40_2 : yfd TFt 40 2 = some (0, 60000) := rfl
theorem tf40_3 : yfd TFt 40 3 = some (0, 60000) := rfl
theorem tf40_4 : yfd TFt 40 4 = some (0, 60000) := rfl
theorem tf40_5 : yfd TFt 40 5 = some (-1, 60000) := rfl
theorem tf43_0 : yfd TFt 43 0 = some (0, 2) := rfl
theorem tf43_1 : yfd TFt 43 1 = some (4, 20) := rfl
theorem tf43_10 : yfd TFt 43 10 = some (4, 60) := rfl
theorem tf43_19 : yfd TFt 43 19 = some (0, 1) := rfl
theorem tf43_20 : yfd TFt 43 20 = some (0, 24) := rfl
theorem tf43_21 : yfd TFt 43 21 = some (0, 19) := rfl
theorem tf43_22 : yfd TFt 43 22 = some (0, 3) := rfl
theorem tf43_31 : yfd TFt 43 31 = some (0, 60) := rfl
theorem tf43_33 : yfd TFt 43 33 = some (0, 5) := rfl
theorem tf43_34 : yfd TFt 43 34 = some (-1, 23) := rfl
theorem tf43_35 : yfd TFt 43 35 = some (0, 4) := rfl
theorem tf43_42 : yfd TFt 43 42 = some (0, 23500) := rfl
theorem tf43_43 : yfd TFt 43 43 = some (0, 24000) := rfl
theorem tf43_49 : yfd TFt 43 49 = some (0, 1199) := rfl
theorem tf43_50 : yfd TFt 43 50 = some (0, 22000) := rfl
theorem tf43_51 : yfd TFt 43 51 = some (0, 200) := rfl
theorem tf43_53 : yfd TFt 43 53 = some (0, 2147483647) := rfl
theorem tf43_56 : yfd TFt 43 56 = some (0, 23600) := rfl
theorem tf43_57 : yfd TFt 43 57 = some (-10, 23600) := rfl
theorem tf43_58 : yfd TFt 43 58 = some (0, 24001) := rfl
theorem ta3 : yad TAt 3 = some (0, 7) := rfl
theorem ta4 : yad TAt 4 = some (0, 4) := rfl
theorem ta5 : yad TAt 5 = some (-1, 19) := rfl
theorem ta7 : yad TAt 7 = some (0, 4) := rfl
theorem ta8 : yad TAt 8 = some (0, 19) := rfl
theorem ta10 : yad TAt 10 = some (0, 19) := rfl
theorem ta11 : yad TAt 11 = some (0, 10) := rfl
theorem ta12 : yad TAt 12 = some (0, 63) := rfl
theorem ta14 : yad TAt 14 = some (0, 23) := rfl
theorem ta15 : yad TAt 15 = some (0, 3) := rfl
theorem ta16 : yad TAt 16 = some (0, 19) := rfl
theorem ta18 : yad TAt 18 = some (-1, 19) := rfl
theorem ta19 : yad TAt 19 = some (0, 19) := rfl
theorem ta20 : yad TAt 20 = some (0, 59) := rfl
theorem ta21 : yad TAt 21 = some (0, 59) := rfl
theorem ta23 : yad TAt 23 = some (0, 59) := rfl
theorem ta24 : yad TAt 24 = some (0, 3) := rfl
theorem ta25 : yad TAt 25 = some (0, 3) := rfl
theorem ta27 : yad TAt 27 = some (0, 23) := rfl
theorem ta42 : yad TAt 42 = some (0, 3) := rfl
theorem ta48 : yad TAt 48 = some (0, 4) := rfl
theorem ta49 : yad TAt 49 = some (-1, 19) := rfl
theorem ta50 : yad TAt 50 = some (0, 19) := rfl
theorem ta51 : yad TAt 51 = some (0, 4) := rfl
theorem ta52 : yad TAt 52 = some (0, 19) := rfl
theorem ta53 : yad TAt 53 = some (0, 10) := rfl
theorem ta54 : yad TAt 54 = some (0, 63) := rfl
theorem ta55 : yad TAt 55 = some (0, 1048575) := rfl
theorem ta56 : yad TAt 56 = some (0, 23) := rfl
theorem ta57 : yad TAt 57 = some (0, 19) := rfl
theorem ta58 : yad TAt 58 = some (0, 3) := rfl
theorem ta59 : yad TAt 59 = some (0, 3) := rfl
theorem ta60 : yad TAt 60 = some (0, 59) := rfl
theorem ta61 : yad TAt 61 = some (0, 3) := rfl
theorem ta62 : yad TAt 62 = some (0, 19) := rfl
theorem ta63 : yad TAt 63 = some (0, 3) := rfl
theorem ta64 : yad TAt 64 = some (-1, 19) := rfl
theorem ta66 : yad TAt 66 = some (0, 59) := rfl
theorem ta69 : yad TAt 69 = some (0, 23) := rfl
theorem ta71 : yad TAt 71 = some (0, 255) := rfl
theorem ta73 : yad TAt 73 = some (0, 12) := rfl
theorem ta74 : yad TAt 74 = some (0, 22000) := rfl
theorem ta75 : yad TAt 75 = some (0, 1200) := rfl
theorem ta76 : yad TAt 76 = some (0, 255) := rfl
theorem ta77 : yad TAt 77 = some (0, 127) := rfl
theorem ta78 : yad TAt 78 = some (0, 1) := rfl
theorem ta79 : yad TAt 79 = some (0, 19) := rfl
theorem ta80 : yad TAt 80 = some (0, 23500) := rfl
def SPF : List (Nat × Nat) := [(26, 4), (26, 5), (31, 1), (34, 1), (43, 33), (43, 36)]
def SPA : List Nat := [13, 49, 55, 100, 101, 102, 103, 104, 105]
/-- all digits of a method's parameters are kinds -/
def KP (a : Int) : Prop := ∀ j : Int, 0 ≤ j → j < 4 → yand (yshr a (5 * j)) 31 ≤ 23
theorem KP_of4 {a : Int} (h0 : yand (yshr a (5 * 0)) 31 ≤ 23) (h1 : yand (yshr a (5 * 1)) 31 ≤ 23) (h2 : yand (yshr a (5 * 2)) 31 ≤ 23) (h3 : yand (yshr a (5 * 3)) 31 ≤ 23) : KP a := by
  intro j hj0 hj4
  rcases (show j = 0 ∨ j = 1 ∨ j = 2 ∨ j = 3 by omega) with rfl | rfl | rfl | rfl
  · exact h0
  · exact h1
  · exact h2
  · exact h3
theorem yand_z (y : Int) : yand 0 y = 0 := by
  unfold yand
  have : enc 0 = 0 := rfl
  rw [this]
  show dec (0 &&& enc y) = 0
  rw [Nat.zero_and]
  rfl
theorem KP_ab {a n : Int} (hn0 : 0 ≤ n) (hn4 : n ≤ 4) (h0 : 1 ≤ n → yand (yshr a (5 * 0)) 31 ≤ 23) (h1 : 2 ≤ n → yand (yshr a (5 * 1)) 31 ≤ 23) (h2 : 3 ≤ n → yand (yshr a (5 * 2)) 31 ≤ 23) (h3 : 4 ≤ n → yand (yshr a (5 * 3)) 31 ≤ 23) (hz : yshr a (5 * n) = 0) : KP a := by
  intro j hj0 hj4
  rcases Int.lt_or_le j n with hlt | hge
  · rcases (show j = 0 ∨ j = 1 ∨ j = 2 ∨ j = 3 by omega) with rfl | rfl | rfl | rfl
    · exact h0 (by omega)
    · exact h1 (by omega)
    · exact h2 (by omega)
    · exact h3 (by omega)
  · rw [yshr_up (a := 5 * n) (b := 5 * j) (by omega) (by omega) (by omega) hz, yand_z]
    decide
/-- what holds of the two objects between the calls, and mostly within them -/
def yI (S : yS) : Prop := (yBd TFt TAt S) ∧ (∀ j, KP (S.a 55 j)) ∧ (∀ j, KP (S.a 13 j)) ∧ (4 ≤ S.f 43 33 → 0 ≤ S.f 43 36 ∧ S.f 43 36 ≤ 19) ∧ (4 ≤ S.f 26 4 → 0 ≤ S.f 26 5 ∧ S.f 26 5 ≤ 19) ∧ (∀ j : Nat, S.a 49 j < j) ∧ (0 ≤ S.f 31 1 ∧ S.f 31 1 ≤ S.n 0 ∧ S.f 31 1 ≤ 60000) ∧ (0 ≤ S.f 34 1 ∧ S.f 34 1 ≤ S.n 1 ∧ S.f 34 1 ≤ 60000) ∧ (512 ≤ S.n 0 ∧ S.n 0 ≤ 200000 ∧ 512 ≤ S.n 1 ∧ S.n 1 ≤ 200000 ∧ 128 ≤ S.n 3 ∧ S.n 3 ≤ S.n 2 ∧ S.n 2 ≤ 200000 ∧ 128 ≤ S.n 4 ∧ S.n 4 ≤ 200000) ∧ (7100000 ≤ S.bs + 2 * (S.n 0 + S.n 1 + S.n 2 + S.n 3 + S.n 4) ∧ 76000000 ≤ 128 * S.bc + (S.n 0 + S.n 1 + S.n 2 + S.n 3 + S.n 4))
theorem yI.mk' {S : yS} (h : (yBd TFt TAt S) ∧ (∀ j, KP (S.a 55 j)) ∧ (∀ j, KP (S.a 13 j)) ∧ (4 ≤ S.f 43 33 → 0 ≤ S.f 43 36 ∧ S.f 43 36 ≤ 19) ∧ (4 ≤ S.f 26 4 → 0 ≤ S.f 26 5 ∧ S.f 26 5 ≤ 19) ∧ (∀ j : Nat, S.a 49 j < j) ∧ (0 ≤ S.f 31 1 ∧ S.f 31 1 ≤ S.n 0 ∧ S.f 31 1 ≤ 60000) ∧ (0 ≤ S.f 34 1 ∧ S.f 34 1 ≤ S.n 1 ∧ S.f 34 1 ≤ 60000) ∧ (512 ≤ S.n 0 ∧ S.n 0 ≤ 200000 ∧ 512 ≤ S.n 1 ∧ S.n 1 ≤ 200000 ∧ 128 ≤ S.n 3 ∧ S.n 3 ≤ S.n 2 ∧ S.n 2 ≤ 200000 ∧ 128 ≤ S.n 4 ∧ S.n 4 ≤ 200000) ∧ (7100000 ≤ S.bs + 2 * (S.n 0 + S.n 1 + S.n 2 + S.n 3 + S.n 4) ∧ 76000000 ≤ 128 * S.bc + (S.n 0 + S.n 1 + S.n 2 + S.n 3 + S.n 4))) : yI S := h
theorem yI.bd {S : yS} (h : yI S) : yBd TFt TAt S := h.1
theorem yI.k55 {S : yS} (h : yI S) : ∀ j, KP (S.a 55 j) := h.2.1
theorem yI.k13 {S : yS} (h : yI S) : ∀ j, KP (S.a 13 j) := h.2.2.1
theorem yI.m2 {S : yS} (h : yI S) : 4 ≤ S.f 43 33 → 0 ≤ S.f 43 36 ∧ S.f 43 36 ≤ 19 := h.2.2.2.1
theorem yI.c2 {S : yS} (h : yI S) : 4 ≤ S.f 26 4 → 0 ≤ S.f 26 5 ∧ S.f 26 5 ≤ 19 := h.2.2.2.2.1
theorem yI.m3 {S : yS} (h : yI S) : ∀ j : Nat, S.a 49 j < j := h.2.2.2.2.2.1
theorem yI.b0 {S : yS} (h : yI S) : 0 ≤ S.f 31 1 ∧ S.f 31 1 ≤ S.n 0 ∧ S.f 31 1 ≤ 60000 := h.2.2.2.2.2.2.1
theorem yI.b1 {S : yS} (h : yI S) : 0 ≤ S.f 34 1 ∧ S.f 34 1 ≤ S.n 1 ∧ S.f 34 1 ≤ 60000 := h.2.2.2.2.2.2.2.1
theorem yI.bn {S : yS} (h : yI S) : 512 ≤ S.n 0 ∧ S.n 0 ≤ 200000 ∧ 512 ≤ S.n 1 ∧ S.n 1 ≤ 200000 ∧ 128 ≤ S.n 3 ∧ S.n 3 ≤ S.n 2 ∧ S.n 2 ≤ 200000 ∧ 128 ≤ S.n 4 ∧ S.n 4 ≤ 200000 := h.2.2.2.2.2.2.2.2.1
theorem yI.br {S : yS} (h : yI S) : 7100000 ≤ S.bs + 2 * (S.n 0 + S.n 1 + S.n 2 + S.n 3 + S.n 4) ∧ 76000000 ≤ 128 * S.bc + (S.n 0 + S.n 1 + S.n 2 + S.n 3 + S.n 4) := h.2.2.2.2.2.2.2.2.2
section
variable {S : yS}
theorem yI.f (h : yI S) {b w : Nat} {lo hi : Int} (e : yfd TFt b w = some (lo, hi)) : lo ≤ S.f b w ∧ S.f b w ≤ hi := h.bd.f e
theorem yI.a (h : yI S) {b : Nat} {lo hi : Int} (e : yad TAt b = some (lo, hi)) (j : Nat) : lo ≤ S.a b j ∧ S.a b j ≤ hi := h.bd.a e j
theorem ysp {b w b' w' : Nat} {z : Int} (e : yin2 SPF b w = false) (e' : yin2 SPF b' w' = true) : (ysf S b w z).f b' w' = S.f b' w' := by
  refine ysf_ne ?_
  by_cases h1 : b' = b
  · by_cases h2 : w' = w
    · subst h1 h2; rw [e] at e'; cases e'
    · exact Or.inr h2
  · exact Or.inl h1
theorem yspa {b j b' : Nat} {z : Int} (e : yin SPA b = false) (e' : yin SPA b' = true) (j' : Nat) : (ysa S b j z).a b' j' = S.a b' j' := by
  refine ysa_ne (Or.inl ?_)
  intro h1
  subst h1
  rw [e] at e'
  cases e'
theorem yI.setfB (h : yI S) {b w : Nat} {z : Int} (hb : yBd TFt TAt (ysf S b w z)) (e : yin2 SPF b w = false) : yI (ysf S b w z) := by
  refine yI.mk' ⟨hb, h.k55, h.k13, ?_, ?_, h.m3, ?_, ?_, h.bn, h.br⟩
  · rw [ysp e rfl, ysp e rfl]; exact h.m2
  · rw [ysp e rfl, ysp e rfl]; exact h.c2
  · rw [ysp e rfl]; exact h.b0
  · rw [ysp e rfl]; exact h.b1
theorem yI.setf (h : yI S) {b w : Nat} {lo hi z : Int} (e : yfd TFt b w = some (lo, hi)) (e2 : yin2 SPF b w = false) (h1 : lo ≤ z) (h2 : z ≤ hi) : yI (ysf S b w z) := h.setfB (h.bd.setf e h1 h2) e2
theorem yI.setf0 (h : yI S) {b w : Nat} {z : Int} (e : yfd TFt b w = none) (e2 : yin2 SPF b w = false) : yI (ysf S b w z) := h.setfB (h.bd.setf0 e) e2
theorem yI.setaB (h : yI S) {b j : Nat} {z : Int} (hb : yBd TFt TAt (ysa S b j z)) (e : yin SPA b = false) : yI (ysa S b j z) := by
  refine yI.mk' ⟨hb, fun j' => ?_, fun j' => ?_, h.m2, h.c2, fun j' => ?_, h.b0, h.b1, h.bn, h.br⟩
  · rw [yspa e rfl]; exact h.k55 j'
  · rw [yspa e rfl]; exact h.k13 j'
  · rw [yspa e rfl]; exact h.m3 j'
theorem yI.seta (h : yI S) {b j : Nat} {lo hi z : Int} (e : yad TAt b = some (lo, hi)) (e2 : yin SPA b = false) (h1 : lo ≤ z) (h2 : z ≤ hi) : yI (ysa S b j z) := h.setaB (h.bd.seta e h1 h2) e2
theorem yI.seta0 (h : yI S) {b j : Nat} {z : Int} (e : yad TAt b = none) (e2 : yin SPA b = false) : yI (ysa S b j z) := h.setaB (h.bd.seta0 e) e2
theorem ysa_le {p : Int → Prop} {b j b' j' : Nat} {z : Int} (h : p (S.a b' j')) (hz : p z) : p ((ysa S b j z).a b' j') := by
  show p (cond (Nat.beq b' b && Nat.beq j' j) z (S.a b' j'))
  cases Nat.beq b' b && Nat.beq j' j with
  | true => exact hz
  | false => exact h
theorem yI.seta55 (h : yI S) {j : Nat} {z : Int} (h1 : 0 ≤ z) (h2 : z ≤ 1048575) (hz : KP z) : yI (ysa S 55 j z) := by
  refine yI.mk' ⟨h.bd.seta ta55 h1 h2, fun j' => ysa_le (h.k55 j') hz, fun j' => ?_, h.m2, h.c2, fun j' => ?_, h.b0, h.b1, h.bn, h.br⟩
  · rw [ysa_ne (Or.inl (by decide))]; exact h.k13 j'
  · rw [ysa_ne (Or.inl (by decide))]; exact h.m3 j'
theorem yI.seta13 (h : yI S) {j : Nat} {z : Int} (hz : KP z) : yI (ysa S 13 j z) := by
  refine yI.mk' ⟨h.bd.seta0 rfl, fun j' => ?_, fun j' => ysa_le (h.k13 j') hz, h.m2, h.c2, fun j' => ?_, h.b0, h.b1, h.bn, h.br⟩
  · rw [ysa_ne (Or.inl (by decide))]; exact h.k55 j'
  · rw [ysa_ne (Or.inl (by decide))]; exact h.m3 j'
theorem yI.seta49 (h : yI S) {j : Nat} {z : Int} (h1 : -1 ≤ z) (h2 : z ≤ 19) (hz : z < j) : yI (ysa S 49 j z) := by
  refine yI.mk' ⟨h.bd.seta ta49 h1 h2, fun j' => ?_, fun j' => ?_, h.m2, h.c2, fun j' => ?_, h.b0, h.b1, h.bn, h.br⟩
  · rw [ysa_ne (Or.inl (by decide))]; exact h.k55 j'
  · rw [ysa_ne (Or.inl (by decide))]; exact h.k13 j'
  · by_cases hj : j' = j
    · subst hj; rw [ysa_eq]; exact hz
    · rw [ysa_ne (Or.inr hj)]; exact h.m3 j'
theorem yI.set43 (h : yI S) {z y : Int} (h1 : 0 ≤ z) (h2 : z ≤ 5) (hz : 4 ≤ z → 0 ≤ y ∧ y ≤ 19) : yI (ysf (ysf S 43 33 z) 43 36 y) := by
  refine yI.mk' ⟨(h.bd.setf tf43_33 h1 h2).setf0 rfl, h.k55, h.k13, ?_, ?_, h.m3, ?_, ?_, h.bn, h.br⟩
  · rw [ysf_eq, ysf_ne (Or.inr (by decide)), ysf_eq]; exact hz
  · rw [ysf_ne (Or.inl (by decide)), ysf_ne (Or.inl (by decide)), ysf_ne (Or.inl (by decide)), ysf_ne (Or.inl (by decide))]; exact h.c2
  · rw [ysf_ne (Or.inl (by decide)), ysf_ne (Or.inl (by decide))]; exact h.b0
  · rw [ysf_ne (Or.inl (by decide)), ysf_ne (Or.inl (by decide))]; exact h.b1
theorem yI.set26 (h : yI S) {z y : Int} (h1 : 0 ≤ z) (h2 : z ≤ 5) (hz : 4 ≤ z → 0 ≤ y ∧ y ≤ 19) : yI (ysf (ysf S 26 4 z) 26 5 y) := by
  refine yI.mk' ⟨(h.bd.setf tf26_4 h1 h2).setf0 rfl, h.k55, h.k13, ?_, ?_, h.m3, ?_, ?_, h.bn, h.br⟩
  · rw [ysf_ne (Or.inl (by decide)), ysf_ne (Or.inl (by decide)), ysf_ne (Or.inl (by decide)), ysf_ne (Or.inl (by decide))]; exact h.m2
  · rw [ysf_eq, ysf_ne (Or.inr (by decide)), ysf_eq]; exact hz
  · rw [ysf_ne (Or.inl (by decide)), ysf_ne (Or.inl (by decide))]; exact h.b0
  · rw [ysf_ne (Or.inl (by decide)), ysf_ne (Or.inl (by decide))]; exact h.b1
theorem yI.set26v (h : yI S) {y : Int} (hz : S.f 26 4 < 4) : yI (ysf S 26 5 y) := by
  refine yI.mk' ⟨h.bd.setf0 rfl, h.k55, h.k13, ?_, ?_, h.m3, ?_, ?_, h.bn, h.br⟩
  · rw [ysf_ne (Or.inl (by decide)), ysf_ne (Or.inl (by decide))]; exact h.m2
  · rw [ysf_ne (Or.inr (by decide))]; intro h9; exact absurd h9 (by omega)
  · rw [ysf_ne (Or.inl (by decide))]; exact h.b0
  · rw [ysf_ne (Or.inl (by decide))]; exact h.b1
theorem yI.cost (h : yI S) {c s : Nat} (h1 : 7100000 ≤ S.bs - s + 2 * (S.n 0 + S.n 1 + S.n 2 + S.n 3 + S.n 4)) (h2 : 76000000 ≤ 128 * (S.bc - c) + (S.n 0 + S.n 1 + S.n 2 + S.n 3 + S.n 4)) : yI (ycost S c s) := yI.mk' ⟨h.bd, h.k55, h.k13, h.m2, h.c2, h.m3, h.b0, h.b1, h.bn, ⟨h1, h2⟩⟩
theorem yad_none {l : List (Nat × Int × Int)} (h : l.all (fun q => Nat.blt q.1 100) = true) {b : Nat} (hb : 100 ≤ b) : yad l b = none := by
  induction l with
  | nil => rfl
  | cons q r ih =>
    obtain ⟨a, lo, hi⟩ := q
    rw [List.all_cons, Bool.and_eq_true, Nat.blt_eq] at h
    show cond (Nat.beq a b) (some (lo, hi)) (yad r b) = none
    rw [ybeqF (by have := h.1; omega)]
    exact ih h.2
/-- how many bytes are used -/
theorem yI.use0 (h : yI S) {z : Int} (h0 : 0 ≤ z) (h1 : z ≤ S.n 0) (h2 : z ≤ 60000) : yI (ysf S 31 1 z) := by
  refine yI.mk' ⟨h.bd.setf0 rfl, h.k55, h.k13, ?_, ?_, h.m3, ?_, ?_, h.bn, h.br⟩
  · rw [ysf_ne (Or.inl (by decide)), ysf_ne (Or.inl (by decide))]; exact h.m2
  · rw [ysf_ne (Or.inl (by decide)), ysf_ne (Or.inl (by decide))]; exact h.c2
  · rw [ysf_eq]; exact ⟨h0, h1, h2⟩
  · rw [ysf_ne (Or.inl (by decide))]; exact h.b1
theorem yI.use1 (h : yI S) {z : Int} (h0 : 0 ≤ z) (h1 : z ≤ S.n 1) (h2 : z ≤ 60000) : yI (ysf S 34 1 z) := by
  refine yI.mk' ⟨h.bd.setf0 rfl, h.k55, h.k13, ?_, ?_, h.m3, ?_, ?_, h.bn, h.br⟩
  · rw [ysf_ne (Or.inl (by decide)), ysf_ne (Or.inl (by decide))]; exact h.m2
  · rw [ysf_ne (Or.inl (by decide)), ysf_ne (Or.inl (by decide))]; exact h.c2
  · rw [ysf_ne (Or.inl (by decide))]; exact h.b0
  · rw [ysf_eq]; exact ⟨h0, h1, h2⟩
/-- a byte or an int of a row that grows -/
theorem yBd.setg {TF : List (Nat × Nat × Int × Int)} {TA : List (Nat × Int × Int)} (h : yBd TF TA S) {b j : Nat} {z : Int} (e : yad TA b = none) : yBd TF TA (ysa S b j z) := h.seta0 e
theorem yI.setg (h : yI S) {b j : Nat} {z : Int} (e : yad TAt b = none) (e2 : Nat.ble 100 b = true) : yI (ysa S b j z) := by
  have hb := Nat.le_of_ble_eq_true e2
  refine yI.mk' ⟨h.bd.seta0 e, fun j' => ?_, fun j' => ?_, h.m2, h.c2, fun j' => ?_, h.b0, h.b1, h.bn, h.br⟩
  · rw [ysa_ne (Or.inl (by omega))]; exact h.k55 j'
  · rw [ysa_ne (Or.inl (by omega))]; exact h.k13 j'
  · rw [ysa_ne (Or.inl (by omega))]; exact h.m3 j'
theorem yI.new (h : yI S) {q u m k : Nat} (hk : k < 5) : True := trivial
/-- a row has grown -/
def yGr (k : Nat) (m : Nat) (S S' : yS) : Prop := (S'.f = S.f) ∧ (∀ b, b ≠ 100 + k → b ≠ 105 → S'.a b = S.a b) ∧ (∀ j, j < S.n k → S'.a (100 + k) j = S.a (100 + k) j) ∧ (S'.n k = m) ∧ (∀ q, q < 5 → q ≠ k → S'.n q = S.n q) ∧ (S'.bc + 1 = S.bc) ∧ (S'.bs + m = S.bs)
theorem yGr.mk' {k m : Nat} {S S' : yS} (h : (S'.f = S.f) ∧ (∀ b, b ≠ 100 + k → b ≠ 105 → S'.a b = S.a b) ∧ (∀ j, j < S.n k → S'.a (100 + k) j = S.a (100 + k) j) ∧ (S'.n k = m) ∧ (∀ q, q < 5 → q ≠ k → S'.n q = S.n q) ∧ (S'.bc + 1 = S.bc) ∧ (S'.bs + m = S.bs)) : yGr k m S S' := h
theorem yGr.f {k m : Nat} {S S' : yS} (h : yGr k m S S') : S'.f = S.f := h.1
theorem yGr.a {k m : Nat} {S S' : yS} (h : yGr k m S S') : ∀ b, b ≠ 100 + k → b ≠ 105 → S'.a b = S.a b := h.2.1
theorem yGr.g {k m : Nat} {S S' : yS} (h : yGr k m S S') : ∀ j, j < S.n k → S'.a (100 + k) j = S.a (100 + k) j := h.2.2.1
theorem yGr.n1 {k m : Nat} {S S' : yS} (h : yGr k m S S') : S'.n k = m := h.2.2.2.1
theorem yGr.n {k m : Nat} {S S' : yS} (h : yGr k m S S') : ∀ q, q < 5 → q ≠ k → S'.n q = S.n q := h.2.2.2.2.1
theorem yGr.c {k m : Nat} {S S' : yS} (h : yGr k m S S') : S'.bc + 1 = S.bc := h.2.2.2.2.2.1
theorem yGr.s {k m : Nat} {S S' : yS} (h : yGr k m S S') : S'.bs + m = S.bs := h.2.2.2.2.2.2
theorem yI.grow {S' : yS} {k m : Nat} (h : yI S) (hk : k < 5) (hG : yGr k m S S') (hb : (k = 0 → S.f 31 1 ≤ m ∧ 512 ≤ m) ∧ (k = 1 → S.f 34 1 ≤ m ∧ 512 ≤ m) ∧ 128 ≤ m ∧ m ≤ 200000) (h23 : S'.n 3 ≤ S'.n 2) (h2 : 2 * S.n k ≤ m) (h1 : 128 ≤ S.n k) : yI S' := by
  have ha : ∀ b, b < 100 → S'.a b = S.a b := fun b hb => hG.a b (by omega) (by omega)
  have hn : ∀ q, q < 5 → S'.n q = if q = k then m else S.n q := by
    intro q hq
    by_cases e : q = k
    · rw [if_pos e, e]; exact hG.n1
    · rw [if_neg e]; exact hG.n q hq e
  have hbd : yBd TFt TAt S' := by
    refine ⟨fun b w lo hi e => ?_, fun b lo hi e j => ?_⟩
    · rw [hG.f]; exact h.bd.1 b w lo hi e
    · have hlt : b < 100 := by
        rcases Nat.lt_or_ge b 100 with h9 | h9
        · exact h9
        · exfalso
          have : yad TAt b = none := yad_none (by decide) h9
          rw [this] at e
          cases e
      rw [ha b hlt]; exact h.bd.2 b lo hi e j
  obtain ⟨c0, c1, c2, c3, c4, c5, c6, c7, c8⟩ := h.bn
  have m0 := hn 0 (by decide)
  have m1 := hn 1 (by decide)
  have m2 := hn 2 (by decide)
  have m3 := hn 3 (by decide)
  have m4 := hn 4 (by decide)
  have hc := hG.c
  have hs := hG.s
  obtain ⟨r1, r2⟩ := h.br
  have e : k = 0 ∨ k = 1 ∨ k = 2 ∨ k = 3 ∨ k = 4 := by omega
  refine yI.mk' ⟨hbd, fun j => ?_, fun j => ?_, ?_, ?_, fun j => ?_, ?_, ?_, ?_, ?_⟩
  · rw [ha 55 (by decide)]; exact h.k55 j
  · rw [ha 13 (by decide)]; exact h.k13 j
  · rw [hG.f]; exact h.m2
  · rw [hG.f]; exact h.c2
  · rw [ha 49 (by decide)]; exact h.m3 j
  · rw [hG.f]
    have := h.b0
    rcases e with rfl | rfl | rfl | rfl | rfl <;> simp at m0 m1 m2 m3 m4 <;> omega
  · rw [hG.f]
    have := h.b1
    rcases e with rfl | rfl | rfl | rfl | rfl <;> simp at m0 m1 m2 m3 m4 <;> omega
  · rcases e with rfl | rfl | rfl | rfl | rfl <;> simp at m0 m1 m2 m3 m4 <;> omega
  · rcases e with rfl | rfl | rfl | rfl | rfl <;> simp at m0 m1 m2 m3 m4 <;> omega
end
theorem kpu {S : yS} (h : yI S) (j : Nat) (k : Int) (h0 : 0 ≤ k) (h4 : k < 4) : yand (yshr (S.a 55 j) (5 * k)) 31 ≤ 23 := h.k55 j k h0 h4
theorem kpu13 {S : yS} (h : yI S) (j : Nat) (k : Int) (h0 : 0 ≤ k) (h4 : k < 4) : yand (yshr (S.a 13 j) (5 * k)) 31 ≤ 23 := h.k13 j k h0 h4
theorem ycp_a {S : yS} {k1 i0 k2 j0 m b : Nat} (h : b ≠ 100 + k2) : (ycp S k1 i0 k2 j0 m).a b = S.a b := by
  funext j
  show cond (Nat.beq b (100 + k2) && (Nat.ble j0 j && Nat.blt j (j0 + m))) (S.a (100 + k1) (i0 + (j - j0))) (S.a b j) = _
  rw [ybeqF h]; rfl
theorem yI.cp {S : yS} (h : yI S) {k1 i0 k2 j0 m : Nat} : yI (ycp S k1 i0 k2 j0 m) := by
  refine yI.mk' ⟨⟨h.bd.1, fun b lo hi e j => ?_⟩, fun j => ?_, fun j => ?_, h.m2, h.c2, fun j => ?_, h.b0, h.b1, h.bn, h.br⟩
  · have hlt : b < 100 := by
      rcases Nat.lt_or_ge b 100 with h9 | h9
      · exact h9
      · exfalso
        have : yad TAt b = none := yad_none (by decide) h9
        rw [this] at e
        cases e
    rw [ycp_a (by omega)]; exact h.bd.2 b lo hi e j
  · rw [ycp_a (by omega)]; exact h.k55 j
  · rw [ycp_a (by omega)]; exact h.k13 j
  · rw [ycp_a (by omega)]; exact h.m3 j
theorem yFr.cp {MF : List (Nat × Nat)} {MA : List Nat} {S S1 : yS} (h : yFr MF MA S S1) {k1 i0 k2 j0 m : Nat} (e : yin MA (100 + k2) = true) : yFr MF MA S (ycp S1 k1 i0 k2 j0 m) := by
  refine yFr.mk' ⟨fun b w e' => h.f e', fun b e' j => ?_⟩
  rw [ycp_a (fun h9 => by rw [h9, e] at e'; cases e')]
  exact h.a e' j
theorem yRm.cp {MN : List Nat} {S S1 : yS} (h : yRm MN S S1) {k1 i0 k2 j0 m : Nat} : yRm MN S (ycp S1 k1 i0 k2 j0 m) := yRm.mk' ⟨h.n, fun _ e => h.e e, h.c, h.s⟩

/-! a constructor returns nothing -/
def CR (S : yS) : Prop := ∀ j : Nat, S.a 53 j = 10 → S.a 56 j = 0
theorem CRx : yX [] [53, 56] CR := by
  intro S S' _ ha h j hj
  rw [ha 53 rfl] at hj
  rw [ha 56 rfl]
  exact h j hj
theorem CR_push {S S' : yS} {m : Nat} {w b : Int} (h : CR S) (hw : w = 10 → b = 0) (h1 : ∀ j, S'.a 53 j = (ysa S 53 m w).a 53 j) (h2 : ∀ j, S'.a 56 j = (ysa S 56 m b).a 56 j) : CR S' := by
  intro j hj
  rw [h1] at hj
  rw [h2]
  by_cases e : j = m
  · subst e
    rw [ysa_eq] at hj ⊢
    exact hw hj
  · rw [ysa_ne (Or.inr e)] at hj ⊢
    exact h j hj
/-! single bits -/
theorem land_p (k n : Nat) : n &&& 2 ^ k = 0 ∨ n &&& 2 ^ k = 2 ^ k := by
  cases hb : n.testBit k with
  | false =>
    left
    apply Nat.eq_of_testBit_eq
    intro i
    rw [Nat.testBit_and, Nat.zero_testBit]
    by_cases e : k = i
    · subst e; rw [hb, Bool.false_and]
    · rw [Nat.testBit_two_pow_of_ne e, Bool.and_false]
  | true =>
    right
    apply Nat.eq_of_testBit_eq
    intro i
    rw [Nat.testBit_and]
    by_cases e : k = i
    · subst e; rw [hb, Bool.true_and]
    · rw [Nat.testBit_two_pow_of_ne e, Bool.and_false]
theorem yand_q {q : Nat} (hq : q < 2147483648) (h : ∀ n : Nat, n &&& q = 0 ∨ n &&& q = q) (x : Int) : yand x (q : Int) = 0 ∨ yand x (q : Int) = (q : Int) := by
  have e : enc (q : Int) = q := by
    have := enc_nat (z := (q : Int)) (by omega) (by omega)
    omega
  unfold yand
  rw [e]
  rcases h (enc x) with h | h
  · left
    have h : Nat.land (enc x) q = 0 := h
    rw [h]
    rfl
  · right
    have h : Nat.land (enc x) q = q := h
    rw [h]
    unfold dec
    rw [if_pos hq]
theorem yand_p1 (x : Int) : yand x 1 = 0 ∨ yand x 1 = 1 := yand_q (q := 1) (by decide) (land_p 0) x
theorem yand_p2 (x : Int) : yand x 2 = 0 ∨ yand x 2 = 2 := yand_q (q := 2) (by decide) (land_p 1) x
theorem yand_p4 (x : Int) : yand x 4 = 0 ∨ yand x 4 = 4 := yand_q (q := 4) (by decide) (land_p 2) x
theorem yand_p8 (x : Int) : yand x 8 = 0 ∨ yand x 8 = 8 := yand_q (q := 8) (by decide) (land_p 3) x
theorem yand_p16 (x : Int) : yand x 16 = 0 ∨ yand x 16 = 16 := yand_q (q := 16) (by decide) (land_p 4) x
theorem yand_p32 (x : Int) : yand x 32 = 0 ∨ yand x 32 = 32 := yand_q (q := 32) (by decide) (land_p 5) x
/-! types, on both sides -/
def RT (S : yS) : Prop := S.f 1 7 = S.f 43 1 ∧ (S.a 2 0 = 0 ∧ yand (S.a 3 0) 2 = 0) ∧ ∀ j : Nat, S.a 44 j = S.a 2 j ∧ S.a 45 j = yand (S.a 3 j) 1 ∧ 2 * S.a 46 j = yand (S.a 3 j) 2 ∧ 4 * S.a 47 j = yand (S.a 3 j) 4 ∧ S.a 48 j = S.a 4 j ∧ (S.a 2 j = 1 → S.a 49 j = -1 ∧ S.a 5 j = 0) ∧ (S.a 2 j = 0 → S.a 49 j = S.a 5 j)
theorem RTx : yX [(1, 7), (43, 1)] [2, 3, 4, 5, 44, 45, 46, 47, 48, 49] RT := by
  intro S S' hf ha h
  refine ⟨?_, ?_, fun j => ?_⟩
  · rw [hf 1 7 rfl, hf 43 1 rfl]; exact h.1
  · rw [ha 2 rfl, ha 3 rfl]; exact h.2.1
  · rw [ha 2 rfl, ha 3 rfl, ha 4 rfl, ha 5 rfl, ha 44 rfl, ha 45 rfl, ha 46 rfl, ha 47 rfl, ha 48 rfl, ha 49 rfl]
    exact h.2.2 j
/-- what a type may be -/
def tyC (S : yS) (b fl p up : Int) : Prop := 0 ≤ fl ∧ fl ≤ 7 ∧ yand fl 6 ≠ 6 ∧ (b = 1 → yand fl 6 = 0 ∧ up = 0) ∧ 0 ≤ p ∧ p ≤ 3 ∧ 0 ≤ up ∧ up < S.f 1 7 ∧ S.a 2 up.toNat = 0 ∧ yand (S.a 3 up.toNat) 2 = 0
def tyM (S : yS) (b fl p up : Int) : Prop := 0 ≤ fl ∧ fl < 8 ∧ yand fl 6 ≠ 6 ∧ (b ≠ 0 → yand fl 6 = 0) ∧ 0 ≤ p ∧ p < 4 ∧ 0 ≤ up ∧ up < S.f 43 1 ∧ (b ≠ 0 → up = 0) ∧ (b = 0 → S.a 44 up.toNat = 0 ∧ S.a 46 up.toNat = 0)
/-- a type is added -/
def cTy (S S1 : yS) (b fl p up : Int) : Prop := S1.f 1 7 = S.f 1 7 + 1 ∧ (∀ j, S1.a 2 j = (ysa S 2 (S.f 1 7).toNat b).a 2 j) ∧ (∀ j, S1.a 3 j = (ysa S 3 (S.f 1 7).toNat fl).a 3 j) ∧ (∀ j, S1.a 4 j = (ysa S 4 (S.f 1 7).toNat p).a 4 j) ∧ (∀ j, S1.a 5 j = (ysa S 5 (S.f 1 7).toNat up).a 5 j)
def mTy (S S1 : yS) (b fl p up : Int) : Prop := ∃ o f a u : Int, (o = yand fl 1 ∧ 2 * f = yand fl 2 ∧ 4 * a = yand fl 4 ∧ (b ≠ 0 → u = -1) ∧ (b = 0 → u = up)) ∧ S1.f 43 1 = S.f 43 1 + 1 ∧ (∀ j, S1.a 44 j = (ysa S 44 (S.f 43 1).toNat b).a 44 j) ∧ (∀ j, S1.a 45 j = (ysa S 45 (S.f 43 1).toNat o).a 45 j) ∧ (∀ j, S1.a 46 j = (ysa S 46 (S.f 43 1).toNat f).a 46 j) ∧ (∀ j, S1.a 47 j = (ysa S 47 (S.f 43 1).toNat a).a 47 j) ∧ (∀ j, S1.a 48 j = (ysa S 48 (S.f 43 1).toNat p).a 48 j) ∧ (∀ j, S1.a 49 j = (ysa S 49 (S.f 43 1).toNat u).a 49 j)
def sTy (S S1 : yS) : Prop := S1.f 43 1 = S.f 43 1 ∧ ∀ j, S1.a 44 j = S.a 44 j ∧ S1.a 45 j = S.a 45 j ∧ S1.a 46 j = S.a 46 j ∧ S1.a 47 j = S.a 47 j ∧ S1.a 48 j = S.a 48 j ∧ S1.a 49 j = S.a 49 j
theorem cTy81 {S S1 : yS} {b fl p up z : Int} {j : Nat} (h : cTy S S1 b fl p up) : cTy S (ysa S1 81 j z) b fl p up := h
def hTy (S S1 : yS) (b fl p up z : Int) : Prop := (z = 0 ∧ tyC S b fl p up ∧ S.f 1 7 ≤ 19 ∧ S1.a 81 (0 : Int).toNat = S.f 1 7 ∧ cTy S S1 b fl p up) ∨ (z = 1 ∧ ¬ tyC S b fl p up ∧ S1.f = S.f ∧ S1.a = S.a) ∨ (z = 2 ∧ tyC S b fl p up ∧ 20 ≤ S.f 1 7 ∧ S1.f = S.f ∧ S1.a = S.a)
def mTyQ (S S1 : yS) (b fl p up z : Int) : Prop := (S1.f 43 0 = 0 ∧ tyM S b fl p up ∧ S.f 43 1 ≤ 19 ∧ z = S.f 43 1 ∧ mTy S S1 b fl p up) ∨ (S1.f 43 0 = 1 ∧ ¬ tyM S b fl p up ∧ sTy S S1) ∨ (S1.f 43 0 = 2 ∧ tyM S b fl p up ∧ S.f 43 1 = 20 ∧ sTy S S1)
theorem tyC_M {S S1 : yS} {b fl p up : Int} (h : RT S) (hb : b = 0 ∨ b = 1) (e1 : S1.f 43 1 = S.f 43 1) (e2 : ∀ j, S1.a 44 j = S.a 44 j) (e3 : ∀ j, S1.a 46 j = S.a 46 j) : tyC S b fl p up ↔ tyM S1 b fl p up := by
  obtain ⟨h1, ⟨h2, h3⟩, h4⟩ := h
  obtain ⟨g1, g2, g3, g4, -⟩ := h4 up.toNat
  unfold tyC tyM
  rw [e1, e2, e3, g1]
  constructor
  · rintro ⟨a1, a2, a3, a4, a5, a6, a7, a8, a9, b1⟩
    exact ⟨a1, by omega, a3, fun h => (a4 (by omega)).1, a5, by omega, a7, by omega, fun h => (a4 (by omega)).2, fun h => ⟨a9, by omega⟩⟩
  · rintro ⟨a1, a2, a3, a4, a5, a6, a7, a8, a9, b1⟩
    rcases hb with hb | hb
    · obtain ⟨c1, c2⟩ := b1 hb
      exact ⟨a1, by omega, a3, fun h => by omega, a5, by omega, a7, by omega, c1, by omega⟩
    · have c1 := a4 (by omega)
      have c2 := a9 (by omega)
      subst c2
      exact ⟨a1, by omega, a3, fun h => ⟨c1, rfl⟩, a5, by omega, a7, by omega, h2, h3⟩
theorem RT_type {S S1 S2 : yS} {b fl p up k z : Int} {MF1 MF2 : List (Nat × Nat)} {MA1 MA2 : List Nat} (h : RT S) (hb : b = 0 ∨ b = 1) (h0 : 0 ≤ S.f 1 7) (hC : hTy S S1 b fl p up k) (hF1 : yFr MF1 MA1 S S1) (s1 : ydj2 [(43, 1)] MF1 = true) (s2 : ydj1 [44, 45, 46, 47, 48, 49] MA1 = true) (hM : mTyQ S1 S2 b fl p up z) (hF2 : yFr MF2 MA2 S1 S2) (s3 : ydj2 [(1, 7)] MF2 = true) (s4 : ydj1 [2, 3, 4, 5] MA2 = true) : RT S2 ∧ S2.f 43 0 = k ∧ (k = 0 → S1.a 81 (0 : Int).toNat = z) := by
  have f1 : S1.f 43 1 = S.f 43 1 := hF1.f (ydj2_of s1 rfl)
  have a44 : ∀ j, S1.a 44 j = S.a 44 j := fun j => hF1.a (ydj1_of s2 rfl) j
  have a45 : ∀ j, S1.a 45 j = S.a 45 j := fun j => hF1.a (ydj1_of s2 rfl) j
  have a46 : ∀ j, S1.a 46 j = S.a 46 j := fun j => hF1.a (ydj1_of s2 rfl) j
  have a47 : ∀ j, S1.a 47 j = S.a 47 j := fun j => hF1.a (ydj1_of s2 rfl) j
  have a48 : ∀ j, S1.a 48 j = S.a 48 j := fun j => hF1.a (ydj1_of s2 rfl) j
  have a49 : ∀ j, S1.a 49 j = S.a 49 j := fun j => hF1.a (ydj1_of s2 rfl) j
  have f2 : S2.f 1 7 = S1.f 1 7 := hF2.f (ydj2_of s3 rfl)
  have b2 : ∀ j, S2.a 2 j = S1.a 2 j := fun j => hF2.a (ydj1_of s4 rfl) j
  have b3 : ∀ j, S2.a 3 j = S1.a 3 j := fun j => hF2.a (ydj1_of s4 rfl) j
  have b4 : ∀ j, S2.a 4 j = S1.a 4 j := fun j => hF2.a (ydj1_of s4 rfl) j
  have b5 : ∀ j, S2.a 5 j = S1.a 5 j := fun j => hF2.a (ydj1_of s4 rfl) j
  have hcm := tyC_M (fl := fl) (p := p) (up := up) h hb f1 a44 a46
  obtain ⟨h1, ⟨h2, h3⟩, h4⟩ := h
  have same : S1.f = S.f → S1.a = S.a → sTy S1 S2 → RT S2 := by
    intro q1 q2 q3
    obtain ⟨q3, q4⟩ := q3
    refine ⟨by rw [f2, q3, q1]; exact h1, by rw [b2, b3, q2]; exact ⟨h2, h3⟩, fun j => ?_⟩
    obtain ⟨r1, r2, r3, r4, r5, r6⟩ := q4 j
    rw [b2, b3, b4, b5, r1, r2, r3, r4, r5, r6, q2]
    exact h4 j
  rcases hC with ⟨rfl, c1, c2, c3, c4⟩ | ⟨rfl, c1, c2, c3⟩ | ⟨rfl, c1, c2, c3, c4⟩
  · rcases hM with ⟨m1, m2, m3, m4, m5⟩ | ⟨m1, m2, m3⟩ | ⟨m1, m2, m3, m4⟩
    · refine ⟨?_, m1, fun _ => by omega⟩
      obtain ⟨t1, t2, t3, t4, t5⟩ := c4
      obtain ⟨o, f, a, u, ⟨u1, u2, u3, u4, u5⟩, v1, v2, v3, v4, v5, v6, v7⟩ := m5
      have en : (S1.f 43 1).toNat = (S.f 1 7).toNat := by rw [f1, h1]
      rw [en] at v2 v3 v4 v5 v6 v7
      have hn0 : (S.f 1 7).toNat ≠ 0 := by
        obtain ⟨-, -, -, -, -, -, q1, q2, -⟩ := c1
        omega
      refine ⟨by omega, ?_, fun j => ?_⟩
      · rw [b2, b3, t2, t3, ysa_ne (Or.inr (Ne.symm hn0)), ysa_ne (Or.inr (Ne.symm hn0))]
        exact ⟨h2, h3⟩
      · rw [b2, b3, b4, b5, v2, v3, v4, v5, v6, v7, t2, t3, t4, t5]
        by_cases hj : j = (S.f 1 7).toNat
        · subst hj
          rw [ysa_eq, ysa_eq, ysa_eq, ysa_eq, ysa_eq, ysa_eq, ysa_eq, ysa_eq, ysa_eq, ysa_eq]
          obtain ⟨-, -, -, q4, -⟩ := c1
          exact ⟨rfl, u1, u2, u3, rfl, fun e => ⟨u4 (by omega), (q4 e).2⟩, fun e => u5 e⟩
        · rw [ysa_ne (Or.inr hj), ysa_ne (Or.inr hj), ysa_ne (Or.inr hj), ysa_ne (Or.inr hj), ysa_ne (Or.inr hj), ysa_ne (Or.inr hj), ysa_ne (Or.inr hj), ysa_ne (Or.inr hj), ysa_ne (Or.inr hj), ysa_ne (Or.inr hj), a44, a45, a46, a47, a48, a49]
          exact h4 j
    · exact absurd (hcm.mp c1) m2
    · exfalso; omega
  · rcases hM with ⟨m1, m2, m3, m4, m5⟩ | ⟨m1, m2, m3⟩ | ⟨m1, m2, m3, m4⟩
    · exact absurd (hcm.mpr m2) c1
    · exact ⟨same c2 c3 m3, m1, fun h => absurd h (by decide)⟩
    · exact absurd (hcm.mpr m2) c1
  · rcases hM with ⟨m1, m2, m3, m4, m5⟩ | ⟨m1, m2, m3⟩ | ⟨m1, m2, m3, m4⟩
    · exfalso; omega
    · exact absurd (hcm.mp c1) m2
    · exact ⟨same c3 c4 m4, m1, fun h => absurd h (by decide)⟩

/-! the digits of the parameters -/
def dg (p k : Int) : Int := yand (yshr p (5 * k)) 31
def hMn (p z : Int) : Prop := (∀ k : Int, 0 ≤ k → k < z → dg p k ≠ 0) ∧ (z < 4 → dg p z = 0)
def kdC (n k : Int) : Prop := 1 ≤ k ∧ k < 4 + n
def pkC (n p : Int) : Prop := 0 ≤ p ∧ p < 1048576 ∧ ∃ q : Int, 0 ≤ q ∧ q ≤ 4 ∧ (∀ k : Int, 0 ≤ k → k < q → kdC n (dg p k)) ∧ (∀ k : Int, q ≤ k → k < 4 → dg p k = 0)
theorem yshr_div {x s : Int} (h0 : 0 ≤ x) (h1 : x < 2147483648) (hs : 0 ≤ s) (hs2 : s < 32) : yshr x s = x / ((2 ^ s.toNat : Nat) : Int) := by
  have e1 : (enc x : Int) = x := enc_nat h0 (by omega)
  have e2 : enc s = s.toNat := by have := enc_nat hs (by omega : s < 4294967296); omega
  have e3 : Nat.shiftRight (enc x) (enc s) = enc x / 2 ^ s.toNat := by
    show enc x >>> enc s = _
    rw [Nat.shiftRight_eq_div_pow, e2]
  have h4 : enc x / 2 ^ s.toNat ≤ enc x := Nat.div_le_self _ _
  unfold yshr
  rw [e3]
  unfold dec
  rw [if_pos (by omega), Int.natCast_ediv, e1]
theorem yand_31 {x : Int} (h0 : 0 ≤ x) (h1 : x < 2147483648) : yand x 31 = x % 32 := by
  have e1 : (enc x : Int) = x := enc_nat h0 (by omega)
  have e2 : enc 31 = 2 ^ 5 - 1 := rfl
  have e3 : Nat.land (enc x) (enc 31) = enc x % 2 ^ 5 := by
    rw [e2]
    exact Nat.and_two_pow_sub_one_eq_mod _ _
  unfold yand
  rw [e3]
  unfold dec
  rw [if_pos (by omega)]
  omega
theorem dg_n {p : Int} (h0 : 0 ≤ p) (h1 : p < 1048576) : dg p 0 = p % 32 ∧ dg p 1 = p / 32 % 32 ∧ dg p 2 = p / 1024 % 32 ∧ dg p 3 = p / 32768 % 32 := by
  have a0 : yshr p (5 * 0) = p / ((2 ^ (5 * 0 : Int).toNat : Nat) : Int) := yshr_div h0 (by omega) (by decide) (by decide)
  have a1 : yshr p (5 * 1) = p / ((2 ^ (5 * 1 : Int).toNat : Nat) : Int) := yshr_div h0 (by omega) (by decide) (by decide)
  have a2 : yshr p (5 * 2) = p / ((2 ^ (5 * 2 : Int).toNat : Nat) : Int) := yshr_div h0 (by omega) (by decide) (by decide)
  have a3 : yshr p (5 * 3) = p / ((2 ^ (5 * 3 : Int).toNat : Nat) : Int) := yshr_div h0 (by omega) (by decide) (by decide)
  have c0 : ((2 ^ (5 * 0 : Int).toNat : Nat) : Int) = 1 := by decide
  have c1 : ((2 ^ (5 * 1 : Int).toNat : Nat) : Int) = 32 := by decide
  have c2 : ((2 ^ (5 * 2 : Int).toNat : Nat) : Int) = 1024 := by decide
  have c3 : ((2 ^ (5 * 3 : Int).toNat : Nat) : Int) = 32768 := by decide
  rw [c0] at a0
  rw [c1] at a1
  rw [c2] at a2
  rw [c3] at a3
  unfold dg
  rw [a0, a1, a2, a3]
  refine ⟨?_, ?_, ?_, ?_⟩
  · rw [yand_31 (by omega) (by omega)]; omega
  · rw [yand_31 (by omega) (by omega)]
  · rw [yand_31 (by omega) (by omega)]
  · rw [yand_31 (by omega) (by omega)]
theorem ab0 {p n : Int} (hr : -2147483648 ≤ p ∧ p ≤ 2147483647) (h0 : 0 ≤ n) (h4 : n ≤ 4) (h : yshr p (5 * n) = 0) : 0 ≤ p ∧ p < 1048576 ∧ ∀ k : Int, n ≤ k → k < 4 → dg p k = 0 := by
  have h20 := yshr_up (a := 5 * n) (b := 20) (by omega) (by omega) (by decide) h
  have h1 := dec_zero (yshr_lt p 20) h20
  have e20 : enc 20 = 20 := rfl
  rw [e20] at h1
  have h2 : enc p < 1048576 := by
    have h3 : enc p >>> 20 = 0 := h1
    rw [Nat.shiftRight_eq_div_pow] at h3
    have h5 : (2 : Nat) ^ 20 = 1048576 := by decide
    rw [h5] at h3
    omega
  have h6 : 0 ≤ p ∧ p < 1048576 := by unfold enc at h2; omega
  refine ⟨h6.1, h6.2, fun k h7 h8 => ?_⟩
  unfold dg
  rw [yshr_up (a := 5 * n) (b := 5 * k) (by omega) (by omega) (by omega) h, yand_z]
theorem ab1 {p n : Int} (h0 : 0 ≤ p) (h1 : p < 1048576) (hn : 0 ≤ n) (h4 : n ≤ 4) (h : ∀ k : Int, n ≤ k → k < 4 → dg p k = 0) : yshr p (5 * n) = 0 := by
  obtain ⟨d0, d1, d2, d3⟩ := dg_n h0 h1
  rw [yshr_div h0 (by omega) (by omega) (by omega)]
  rcases (show n = 0 ∨ n = 1 ∨ n = 2 ∨ n = 3 ∨ n = 4 by omega) with rfl | rfl | rfl | rfl | rfl
  · have c0 : ((2 ^ (5 * 0 : Int).toNat : Nat) : Int) = 1 := by decide
    rw [c0]
    have := h 0 (by decide) (by decide)
    have := h 1 (by decide) (by decide)
    have := h 2 (by decide) (by decide)
    have := h 3 (by decide) (by decide)
    omega
  · have c0 : ((2 ^ (5 * 1 : Int).toNat : Nat) : Int) = 32 := by decide
    rw [c0]
    have := h 1 (by decide) (by decide)
    have := h 2 (by decide) (by decide)
    have := h 3 (by decide) (by decide)
    omega
  · have c0 : ((2 ^ (5 * 2 : Int).toNat : Nat) : Int) = 1024 := by decide
    rw [c0]
    have := h 2 (by decide) (by decide)
    have := h 3 (by decide) (by decide)
    omega
  · have c0 : ((2 ^ (5 * 3 : Int).toNat : Nat) : Int) = 32768 := by decide
    rw [c0]
    have := h 3 (by decide) (by decide)
    omega
  · have c0 : ((2 ^ (5 * 4 : Int).toNat : Nat) : Int) = 1048576 := by decide
    rw [c0]
    omega
theorem hm_0 {p : Int} : ∀ k : Int, 0 ≤ k → k < 0 → dg p k ≠ 0 := fun k h1 h2 => absurd h1 (by omega)
theorem hm_s {p n : Int} (h : ∀ k : Int, 0 ≤ k → k < n → dg p k ≠ 0) (hn : dg p n ≠ 0) : ∀ k : Int, 0 ≤ k → k < n + 1 → dg p k ≠ 0 := by
  intro k h1 h2
  by_cases e : k = n
  · rw [e]; exact hn
  · exact h k h1 (by omega)
theorem pk_y {p n N : Int} (hr : -2147483648 ≤ p ∧ p ≤ 2147483647) (h0 : 0 ≤ n) (h4 : n ≤ 4) (ha : ∀ k : Int, 0 ≤ k → k < n → kdC N (dg p k)) (hz : yshr p (5 * n) = 0) : pkC N p := by
  obtain ⟨a1, a2, a3⟩ := ab0 hr h0 h4 hz
  exact ⟨a1, a2, n, h0, h4, ha, a3⟩
theorem pk_q {p n N : Int} (h : hMn p n) (h0 : 0 ≤ n) (h4 : n ≤ 4) (hp : pkC N p) : 0 ≤ p ∧ p < 1048576 ∧ (∀ k : Int, 0 ≤ k → k < n → kdC N (dg p k)) ∧ (∀ k : Int, n ≤ k → k < 4 → dg p k = 0) := by
  obtain ⟨a1, a2, q, q0, q4, b1, b2⟩ := hp
  have e : q = n := by
    rcases Int.lt_trichotomy q n with h5 | h5 | h5
    · exact absurd (b2 q (Int.le_refl _) (by omega)) (h.1 q q0 h5)
    · exact h5
    · have h6 := h.2 (by omega)
      have h7 := (b1 n h0 h5).1
      omega
  subst e
  exact ⟨a1, a2, b1, b2⟩
theorem pk_nk {p n N k : Int} (h : hMn p n) (h0 : 0 ≤ n) (h4 : n ≤ 4) (k0 : 0 ≤ k) (kn : k < n) (hk : ¬ kdC N (dg p k)) : ¬ pkC N p := fun hp => hk ((pk_q h h0 h4 hp).2.2.1 k k0 kn)
theorem pk_nz {p n N k : Int} (h : hMn p n) (h0 : 0 ≤ n) (h4 : n ≤ 4) (k0 : n ≤ k) (kn : k < 4) (hk : dg p k ≠ 0) : ¬ pkC N p := fun hp => hk ((pk_q h h0 h4 hp).2.2.2 k k0 kn)
theorem pk_na {p n N : Int} (h : hMn p n) (h0 : 0 ≤ n) (h4 : n ≤ 4) (hz : yshr p (5 * n) ≠ 0) : ¬ pkC N p := fun hp => by
  obtain ⟨a1, a2, -, a4⟩ := pk_q h h0 h4 hp
  exact hz (ab1 a1 a2 h0 h4 a4)
theorem kd_0 {p N : Int} : ∀ k : Int, 0 ≤ k → k < 0 → kdC N (dg p k) := fun k h1 h2 => absurd h1 (by omega)
theorem kd_s {p n N : Int} (h : ∀ k : Int, 0 ≤ k → k < n → kdC N (dg p k)) (hn : kdC N (dg p n)) : ∀ k : Int, 0 ≤ k → k < n + 1 → kdC N (dg p k) := by
  intro k h1 h2
  by_cases e : k = n
  · rw [e]; exact hn
  · exact h k h1 (by omega)
/-- the model's way -/
def pkM (p n N k : Int) : Prop := ∀ q : Int, 0 ≤ q → q < k → (q < n → kdC N (dg p q)) ∧ (n ≤ q → dg p q = 0)
theorem pkM_0 {p n N : Int} : pkM p n N 0 := fun q h1 h2 => absurd h1 (by omega)
theorem pkM_s {p n N k : Int} (h : pkM p n N k) (h1 : k < n → kdC N (dg p k)) (h2 : n ≤ k → dg p k = 0) : pkM p n N (k + 1) := by
  intro q q0 q1
  by_cases e : q = k
  · rw [e]; exact ⟨h1, h2⟩
  · exact h q q0 (by omega)
theorem pkM_y {p n N : Int} (h0 : 0 ≤ p) (h1 : p < 1048576) (hn : 0 ≤ n) (h4 : n ≤ 4) (h : pkM p n N 4) : pkC N p :=
  ⟨h0, h1, n, hn, h4, fun k k0 k1 => (h k k0 (by omega)).1 k1, fun k k0 k1 => (h k (by omega) k1).2 k0⟩
/-! methods, on both sides -/
def RMe (S : yS) : Prop := S.f 9 8 = S.f 43 10 ∧ ∀ j : Nat, S.a 52 j = S.a 10 j ∧ S.a 53 j = S.a 11 j ∧ S.a 54 j = S.a 12 j ∧ S.a 55 j = S.a 13 j ∧ S.a 56 j = S.a 14 j
theorem RMex : yX [(9, 8), (43, 10)] [10, 11, 12, 13, 14, 52, 53, 54, 55, 56] RMe := by
  intro S S' hf ha h
  refine ⟨?_, fun j => ?_⟩
  · rw [hf 9 8 rfl, hf 43 10 rfl]; exact h.1
  · rw [ha 10 rfl, ha 11 rfl, ha 12 rfl, ha 13 rfl, ha 14 rfl, ha 52 rfl, ha 53 rfl, ha 54 rfl, ha 55 rfl, ha 56 rfl]
    exact h.2 j
def flC (S : yS) (t fl : Int) : Prop := 0 ≤ fl ∧ fl ≤ 63 ∧ (yand fl 7 = 0 ∨ yand fl 7 = 1 ∨ yand fl 7 = 2 ∨ yand fl 7 = 4) ∧ (S.a 2 t.toNat ≠ 0 → yand fl (-33) = 1) ∧ (S.a 2 t.toNat = 0 → yand fl 32 = 0 ∨ (yand (S.a 3 t.toNat) 4 ≠ 0 ∧ yand fl 28 = 0))
def nsC (S : yS) (n t w p b : Int) : Prop := ∀ m : Nat, (m : Int) < n → ¬ (S.a 10 m = t ∧ S.a 11 m = w ∧ S.a 13 m = p ∧ S.a 14 m = b)
theorem nsC_0 {S : yS} {t w p b : Int} : nsC S 0 t w p b := fun m h => absurd h (by omega)
theorem nsC_s {S : yS} {n t w p b : Int} (h : nsC S n t w p b) (h0 : 0 ≤ n) (hn : ¬ (S.a 10 n.toNat = t ∧ S.a 11 n.toNat = w ∧ S.a 13 n.toNat = p ∧ S.a 14 n.toNat = b)) : nsC S (n + 1) t w p b := by
  intro m hm
  by_cases e : m = n.toNat
  · rw [e]; exact hn
  · exact h m (by omega)
def mbC (S : yS) (t w fl p b : Int) : Prop := (4 ≤ t ∧ t < S.f 1 7) ∧ (0 ≤ w ∧ w ≤ 10) ∧ flC S t fl ∧ pkC (S.f 1 7) p ∧ (b = 0 ∨ kdC (S.f 1 7) b) ∧ (w = 10 → S.a 2 t.toNat = 0 ∧ yand fl (-8) = 0 ∧ b = 0) ∧ nsC S (S.f 9 8) t w p b
def nsM (S : yS) (n t w p b : Int) : Prop := ∀ m : Nat, (m : Int) < n → ¬ (S.a 52 m = t ∧ S.a 53 m = w ∧ S.a 55 m = p ∧ S.a 56 m = b)
theorem nsM_0 {S : yS} {t w p b : Int} : nsM S 0 t w p b := fun m h => absurd h (by omega)
theorem nsM_s {S : yS} {n t w p b : Int} (h : nsM S n t w p b) (h0 : 0 ≤ n) (hn : ¬ (S.a 52 n.toNat = t ∧ S.a 53 n.toNat = w ∧ S.a 55 n.toNat = p ∧ S.a 56 n.toNat = b)) : nsM S (n + 1) t w p b := by
  intro m hm
  by_cases e : m = n.toNat
  · rw [e]; exact hn
  · exact h m (by omega)
def fmM (S : yS) (t w fl b : Int) : Prop := (yand fl 7 = 0 ∨ yand fl 7 = 1 ∨ yand fl 7 = 2 ∨ yand fl 7 = 4) ∧ (w = 10 → S.a 44 t.toNat = 0 ∧ fl ≤ 7 ∧ b = 0) ∧ (0 < yand fl 32 → yand fl 28 ≤ 0 ∧ (S.a 44 t.toNat ≠ 0 ∨ S.a 47 t.toNat ≠ 0)) ∧ (S.a 44 t.toNat ≠ 0 → fl = 1 ∨ fl = 33)
def mbM (S : yS) (t w fl p b : Int) : Prop := (4 ≤ t ∧ t < S.f 43 1) ∧ (0 ≤ w ∧ w ≤ 10) ∧ (0 ≤ fl ∧ fl ≤ 63) ∧ pkC (S.f 43 1) p ∧ (0 ≤ b ∧ (0 < b → kdC (S.f 43 1) b)) ∧ fmM S t w fl b ∧ nsM S (S.f 43 10) t w p b
def flT (k : Nat) : Bool := decide ((yand (k : Int) (-33) = 1 ↔ (k : Int) = 1 ∨ (k : Int) = 33) ∧ (yand (k : Int) (-8) = 0 ↔ (k : Int) ≤ 7) ∧ ((k : Int) = 1 → yand (k : Int) 32 = 0) ∧ ((k : Int) = 33 → yand (k : Int) 28 = 0) ∧ 0 ≤ yand (k : Int) 28 ∧ 0 ≤ yand (k : Int) 32)
theorem flT_all : (List.range 64).all flT = true := by decide +kernel
theorem flT_of {fl : Int} (h0 : 0 ≤ fl) (h1 : fl ≤ 63) : (yand fl (-33) = 1 ↔ fl = 1 ∨ fl = 33) ∧ (yand fl (-8) = 0 ↔ fl ≤ 7) ∧ (fl = 1 → yand fl 32 = 0) ∧ (fl = 33 → yand fl 28 = 0) ∧ 0 ≤ yand fl 28 ∧ 0 ≤ yand fl 32 := by
  have h := List.all_eq_true.mp flT_all fl.toNat (List.mem_range.mpr (by omega))
  have h := of_decide_eq_true h
  rw [show ((fl.toNat : Nat) : Int) = fl by omega] at h
  exact h
theorem mbC_M {S S1 : yS} {t w fl p b : Int} (h : RT S) (hm : RMe S) (e1 : S1.f 43 1 = S.f 43 1) (e2 : ∀ j, S1.a 44 j = S.a 44 j) (e3 : ∀ j, S1.a 47 j = S.a 47 j) (e4 : S1.f 43 10 = S.f 43 10) (e5 : ∀ j, S1.a 52 j = S.a 52 j) (e6 : ∀ j, S1.a 53 j = S.a 53 j) (e7 : ∀ j, S1.a 55 j = S.a 55 j) (e8 : ∀ j, S1.a 56 j = S.a 56 j) : mbC S t w fl p b ↔ mbM S1 t w fl p b := by
  obtain ⟨h1, -, h4⟩ := h
  obtain ⟨m1, m2⟩ := hm
  obtain ⟨g1, -, -, g4, -⟩ := h4 t.toNat
  have hns : nsC S (S.f 9 8) t w p b ↔ nsM S1 (S1.f 43 10) t w p b := by
    unfold nsC nsM
    constructor
    · intro q m hm
      rw [e5, e6, e7, e8, (m2 m).1, (m2 m).2.1, (m2 m).2.2.2.1, (m2 m).2.2.2.2]
      exact q m (by omega)
    · intro q m hm
      have := q m (by omega)
      rw [e5, e6, e7, e8, (m2 m).1, (m2 m).2.1, (m2 m).2.2.2.1, (m2 m).2.2.2.2] at this
      exact this
  unfold mbC mbM
  rw [e1, ← h1, hns]
  constructor
  · rintro ⟨a1, a2, ⟨f1, f2, f3, f4, f5⟩, a4, a5, a6, a7⟩
    obtain ⟨t1, t2, t3, t4, t5, t6⟩ := flT_of f1 f2
    refine ⟨a1, a2, ⟨f1, f2⟩, a4, ⟨?_, ?_⟩, ⟨f3, ?_, ?_, ?_⟩, a7⟩
    · rcases a5 with q | q
      · omega
      · have := q.1; omega
    · intro hb
      rcases a5 with q | q
      · omega
      · exact q
    · intro hw
      obtain ⟨c1, c2, c3⟩ := a6 hw
      exact ⟨by rw [e2, g1]; exact c1, t2.mp c2, c3⟩
    · intro h32
      rw [e2, e3, g1]
      by_cases hi : S.a 2 t.toNat = 0
      · rcases f5 hi with q | ⟨q1, q2⟩
        · omega
        · exact ⟨by omega, Or.inr (by omega)⟩
      · have c1 := t1.mp (f4 hi)
        rcases c1 with c1 | c1
        · have := t3 c1; omega
        · have := t4 c1; exact ⟨by omega, Or.inl hi⟩
    · intro hi
      rw [e2, g1] at hi
      exact t1.mp (f4 hi)
  · rintro ⟨a1, a2, ⟨f1, f2⟩, a4, ⟨a5, a5b⟩, ⟨f3, f6, f7, f8⟩, a7⟩
    obtain ⟨t1, t2, t3, t4, t5, t6⟩ := flT_of f1 f2
    refine ⟨a1, a2, ⟨f1, f2, f3, ?_, ?_⟩, a4, ?_, ?_, a7⟩
    · intro hi
      exact t1.mpr (f8 (by rw [e2, g1]; exact hi))
    · intro hi
      by_cases h32 : yand fl 32 = 0
      · exact Or.inl h32
      · obtain ⟨q1, q2⟩ := f7 (by omega)
        rw [e2, e3, g1] at q2
        rcases q2 with q2 | q2
        · exact absurd hi q2
        · exact Or.inr ⟨by omega, by omega⟩
    · by_cases hb : b = 0
      · exact Or.inl hb
      · exact Or.inr (a5b (by omega))
    · intro hw
      obtain ⟨c1, c2, c3⟩ := f6 hw
      rw [e2, g1] at c1
      exact ⟨c1, t2.mpr c2, c3⟩
def cMe (S S1 : yS) (t w fl p b : Int) : Prop := S1.f 9 8 = S.f 9 8 + 1 ∧ (∀ j, S1.a 10 j = (ysa S 10 (S.f 9 8).toNat t).a 10 j) ∧ (∀ j, S1.a 11 j = (ysa S 11 (S.f 9 8).toNat w).a 11 j) ∧ (∀ j, S1.a 12 j = (ysa S 12 (S.f 9 8).toNat fl).a 12 j) ∧ (∀ j, S1.a 13 j = (ysa S 13 (S.f 9 8).toNat p).a 13 j) ∧ (∀ j, S1.a 14 j = (ysa S 14 (S.f 9 8).toNat b).a 14 j)
theorem cMe81 {S S1 : yS} {t w fl p b z : Int} {j : Nat} (h : cMe S S1 t w fl p b) : cMe S (ysa S1 81 j z) t w fl p b := h
def mMe (S S1 : yS) (t w fl p b : Int) : Prop := S1.f 43 10 = S.f 43 10 + 1 ∧ (∀ j, S1.a 52 j = (ysa S 52 (S.f 43 10).toNat t).a 52 j) ∧ (∀ j, S1.a 53 j = (ysa S 53 (S.f 43 10).toNat w).a 53 j) ∧ (∀ j, S1.a 54 j = (ysa S 54 (S.f 43 10).toNat fl).a 54 j) ∧ (∀ j, S1.a 55 j = (ysa S 55 (S.f 43 10).toNat p).a 55 j) ∧ (∀ j, S1.a 56 j = (ysa S 56 (S.f 43 10).toNat b).a 56 j)
def sMe (S S1 : yS) : Prop := S1.f 43 10 = S.f 43 10 ∧ ∀ j, S1.a 52 j = S.a 52 j ∧ S1.a 53 j = S.a 53 j ∧ S1.a 54 j = S.a 54 j ∧ S1.a 55 j = S.a 55 j ∧ S1.a 56 j = S.a 56 j
def hMe (S S1 : yS) (t w fl p b z : Int) : Prop := (z = 0 ∧ mbC S t w fl p b ∧ S.f 9 8 ≤ 59 ∧ S1.a 81 (0 : Int).toNat = S.f 9 8 ∧ cMe S S1 t w fl p b) ∨ (z = 1 ∧ ¬ mbC S t w fl p b ∧ S1.f = S.f ∧ S1.a = S.a) ∨ (z = 2 ∧ mbC S t w fl p b ∧ 60 ≤ S.f 9 8 ∧ S1.f = S.f ∧ S1.a = S.a)
def mMeQ (S S1 : yS) (t w fl p b z : Int) : Prop := (S1.f 43 0 = 0 ∧ mbM S t w fl p b ∧ S.f 43 10 ≤ 59 ∧ z = S.f 43 10 ∧ mMe S S1 t w fl p b) ∨ (S1.f 43 0 = 1 ∧ ¬ mbM S t w fl p b ∧ sMe S S1) ∨ (S1.f 43 0 = 2 ∧ mbM S t w fl p b ∧ S.f 43 10 = 60 ∧ sMe S S1)
theorem RMe_method {S S1 S2 : yS} {t w fl p b k z : Int} {MF1 MF2 : List (Nat × Nat)} {MA1 MA2 : List Nat} (h : RT S) (hm : RMe S) (hC : hMe S S1 t w fl p b k) (hF1 : yFr MF1 MA1 S S1) (s1 : ydj2 [(43, 10), (43, 1)] MF1 = true) (s2 : ydj1 [52, 53, 54, 55, 56, 44, 47] MA1 = true) (hM : mMeQ S1 S2 t w fl p b z) (hF2 : yFr MF2 MA2 S1 S2) (s3 : ydj2 [(9, 8)] MF2 = true) (s4 : ydj1 [10, 11, 12, 13, 14] MA2 = true) : RMe S2 ∧ S2.f 43 0 = k ∧ (k = 0 → S1.a 81 (0 : Int).toNat = z) := by
  have f1 : S1.f 43 10 = S.f 43 10 := hF1.f (ydj2_of s1 rfl)
  have f0 : S1.f 43 1 = S.f 43 1 := hF1.f (ydj2_of s1 rfl)
  have a52 : ∀ j, S1.a 52 j = S.a 52 j := fun j => hF1.a (ydj1_of s2 rfl) j
  have a53 : ∀ j, S1.a 53 j = S.a 53 j := fun j => hF1.a (ydj1_of s2 rfl) j
  have a54 : ∀ j, S1.a 54 j = S.a 54 j := fun j => hF1.a (ydj1_of s2 rfl) j
  have a55 : ∀ j, S1.a 55 j = S.a 55 j := fun j => hF1.a (ydj1_of s2 rfl) j
  have a56 : ∀ j, S1.a 56 j = S.a 56 j := fun j => hF1.a (ydj1_of s2 rfl) j
  have a44 : ∀ j, S1.a 44 j = S.a 44 j := fun j => hF1.a (ydj1_of s2 rfl) j
  have a47 : ∀ j, S1.a 47 j = S.a 47 j := fun j => hF1.a (ydj1_of s2 rfl) j
  have f2 : S2.f 9 8 = S1.f 9 8 := hF2.f (ydj2_of s3 rfl)
  have b0 : ∀ j, S2.a 10 j = S1.a 10 j := fun j => hF2.a (ydj1_of s4 rfl) j
  have b1 : ∀ j, S2.a 11 j = S1.a 11 j := fun j => hF2.a (ydj1_of s4 rfl) j
  have b2 : ∀ j, S2.a 12 j = S1.a 12 j := fun j => hF2.a (ydj1_of s4 rfl) j
  have b3 : ∀ j, S2.a 13 j = S1.a 13 j := fun j => hF2.a (ydj1_of s4 rfl) j
  have b4 : ∀ j, S2.a 14 j = S1.a 14 j := fun j => hF2.a (ydj1_of s4 rfl) j
  have hcm := mbC_M (t := t) (w := w) (fl := fl) (p := p) (b := b) h hm f0 a44 a47 f1 a52 a53 a55 a56
  obtain ⟨h1, h4⟩ := hm
  have same : S1.f = S.f → S1.a = S.a → sMe S1 S2 → RMe S2 := by
    intro q1 q2 q3
    obtain ⟨q3, q4⟩ := q3
    refine ⟨by rw [f2, q3, q1]; exact h1, fun j => ?_⟩
    obtain ⟨r1, r2, r3, r4, r5⟩ := q4 j
    rw [b0, b1, b2, b3, b4, r1, r2, r3, r4, r5, q2]
    exact h4 j
  rcases hC with ⟨rfl, c1, c2, c3, c4⟩ | ⟨rfl, c1, c2, c3⟩ | ⟨rfl, c1, c2, c3, c4⟩
  · rcases hM with ⟨m1, m2, m3, m4, m5⟩ | ⟨m1, m2, m3⟩ | ⟨m1, m2, m3, m4⟩
    · refine ⟨?_, m1, fun _ => by omega⟩
      obtain ⟨t1, t2, t3, t4, t5, t6⟩ := c4
      obtain ⟨v1, v2, v3, v4, v5, v6⟩ := m5
      have en : (S1.f 43 10).toNat = (S.f 9 8).toNat := by rw [f1, h1]
      rw [en] at v2 v3 v4 v5 v6
      refine ⟨by omega, fun j => ?_⟩
      rw [b0, b1, b2, b3, b4, v2, v3, v4, v5, v6, t2, t3, t4, t5, t6]
      by_cases hj : j = (S.f 9 8).toNat
      · subst hj
        rw [ysa_eq, ysa_eq, ysa_eq, ysa_eq, ysa_eq, ysa_eq, ysa_eq, ysa_eq, ysa_eq, ysa_eq]
        exact ⟨rfl, rfl, rfl, rfl, rfl⟩
      · rw [ysa_ne (Or.inr hj), ysa_ne (Or.inr hj), ysa_ne (Or.inr hj), ysa_ne (Or.inr hj), ysa_ne (Or.inr hj), ysa_ne (Or.inr hj), ysa_ne (Or.inr hj), ysa_ne (Or.inr hj), ysa_ne (Or.inr hj), ysa_ne (Or.inr hj), a52, a53, a54, a55, a56]
        exact h4 j
    · exact absurd (hcm.mp c1) m2
    · exfalso; omega
  · rcases hM with ⟨m1, m2, m3, m4, m5⟩ | ⟨m1, m2, m3⟩ | ⟨m1, m2, m3, m4⟩
    · exact absurd (hcm.mpr m2) c1
    · exact ⟨same c2 c3 m3, m1, fun h => absurd h (by decide)⟩
    · exact absurd (hcm.mpr m2) c1
  · rcases hM with ⟨m1, m2, m3, m4, m5⟩ | ⟨m1, m2, m3⟩ | ⟨m1, m2, m3, m4⟩
    · exfalso; omega
    · exact absurd (hcm.mp c1) m2
    · exact ⟨same c3 c4 m4, m1, fun h => absurd h (by decide)⟩
/-! how many bits -/
def bc1 (x : Int) : Int := x - yand (yshr x 1) 1431655765
def bc2 (y : Int) : Int := yand y 858993459 + yand (yshr y 2) 858993459
def bc3 (y : Int) : Int := yand (y + yshr y 4) 252645135
def bc4 (y : Int) : Int := y + yshr y 8
def bc5 (y : Int) : Int := y + yshr y 16
def bcI (x : Int) : Int := yand (bc5 (bc4 (bc3 (bc2 (bc1 x))))) 63
def bcT (k : Nat) : Bool := decide (bcI (k : Int) ≤ 1 ↔ ((k : Int) = 0 ∨ (k : Int) = 1 ∨ (k : Int) = 2 ∨ (k : Int) = 4))
theorem bcT_all : (List.range 8).all bcT = true := by decide +kernel
theorem bcI_7 {x : Int} (h0 : 0 ≤ x) (h1 : x ≤ 7) : bcI x ≤ 1 ↔ (x = 0 ∨ x = 1 ∨ x = 2 ∨ x = 4) := by
  have h := List.all_eq_true.mp bcT_all x.toNat (List.mem_range.mpr (by omega))
  have h := of_decide_eq_true h
  rw [show ((x.toNat : Nat) : Int) = x by omega] at h
  exact h

/-! bits -/
def bt (x y : Int) : Prop := yand (yshr x y) 1 ≠ 0
theorem bt_iff {x y : Int} (h0 : 0 ≤ y) (h1 : y < 32) : bt x y ↔ (enc x).testBit y.toNat = true := by
  have e1 : enc y = y.toNat := by
    have := enc_nat h0 (by omega : y < 4294967296)
    omega
  have e2 : enc (yshr x y) = enc x >>> y.toNat := by
    unfold yshr
    rw [enc_dec (yshr_lt x y), e1]
    rfl
  have e3 : enc 1 = 1 := rfl
  have e4 : Nat.land (enc (yshr x y)) (enc 1) = 1 &&& (enc x >>> y.toNat) := by
    rw [e2, e3]
    exact Nat.and_comm _ _
  have hlt : 1 &&& (enc x >>> y.toNat) ≤ 1 := Nat.and_le_left
  unfold bt yand
  rw [e4]
  constructor
  · intro h
    show (1 &&& (enc x >>> y.toNat) != 0) = true
    rw [bne_iff_ne]
    intro h9
    rw [h9] at h
    exact h rfl
  · intro h h9
    have h : (1 &&& (enc x >>> y.toNat) != 0) = true := h
    rw [bne_iff_ne] at h
    exact h (dec_zero (Nat.lt_of_le_of_lt hlt (by decide)) h9)
theorem bt_or {a b y : Int} (h0 : 0 ≤ y) (h1 : y < 32) : bt (yor a b) y ↔ bt a y ∨ bt b y := by
  have e : enc (yor a b) = enc a ||| enc b := by
    unfold yor
    rw [enc_dec (yor_lt a b)]
    rfl
  rw [bt_iff h0 h1, bt_iff h0 h1, bt_iff h0 h1, e, Nat.testBit_or, Bool.or_eq_true]
theorem bt_shl {n y : Int} (n0 : 0 ≤ n) (n1 : n < 32) (h0 : 0 ≤ y) (h1 : y < 32) : bt (yshl 1 n) y ↔ y = n := by
  have e1 : enc n = n.toNat := by
    have := enc_nat n0 (by omega : n < 4294967296)
    omega
  have e2 : Nat.shiftLeft (enc 1) (enc n) = 2 ^ n.toNat := by
    have e3 : enc 1 = 1 := rfl
    rw [e1, e3]
    show 1 <<< n.toNat = 2 ^ n.toNat
    rw [Nat.shiftLeft_eq, Nat.one_mul]
  have hlt : 2 ^ n.toNat < 4294967296 := Nat.lt_of_lt_of_le (Nat.pow_lt_pow_right (by decide) (by omega : n.toNat < 32)) (by decide)
  have e : enc (yshl 1 n) = 2 ^ n.toNat := by
    unfold yshl
    rw [e2, enc_dec hlt]
  rw [bt_iff h0 h1, e]
  by_cases h : n.toNat = y.toNat
  · rw [h, Nat.testBit_two_pow_self]
    exact ⟨fun _ => by omega, fun _ => rfl⟩
  · rw [Nat.testBit_two_pow_of_ne h]
    exact ⟨fun h9 => (by cases h9), fun h9 => absurd h9 (by omega)⟩
/-! who is below whom, by the class's rows and by the other's -/
def egC (S : yS) (x y : Int) : Prop := (0 ≤ x ∧ x < S.f 1 7) ∧ ((1 ≤ x ∧ y = S.a 5 x.toNat) ∨ ∃ i : Int, 0 ≤ i ∧ i < S.a 7 x.toNat ∧ y = S.a 8 (4 * x + i).toNat)
def rcC (S : yS) (x y : Int) : Prop := ∀ P : Int → Prop, P x → (∀ u v, P u → egC S u v → P v) → P y
def egM (S : yS) (x y : Int) : Prop := (0 ≤ x ∧ x < S.f 43 1) ∧ ((0 ≤ S.a 49 x.toNat ∧ y = S.a 49 x.toNat) ∨ ∃ i : Int, 0 ≤ i ∧ i < S.a 51 x.toNat ∧ y = S.a 50 (4 * x + i).toNat)
def rcM (S : yS) (x y : Int) : Prop := ∀ P : Int → Prop, P x → P 0 → (∀ u v, P u → egM S u v → P v) → P y
theorem rcC_refl {S : yS} {x : Int} : rcC S x x := fun P h _ => h
theorem rcC_step {S : yS} {x u v : Int} (h : rcC S x u) (e : egC S u v) : rcC S x v := fun P p q => q u v (h P p q) e
theorem rcC_trans {S : yS} {x y z : Int} (h : rcC S x y) (h2 : rcC S y z) : rcC S x z := fun P p q => h2 P (h P p q) q
theorem rcC_mono {S S1 : yS} {x y : Int} (e : ∀ u v, egC S u v → egC S1 u v) (h : rcC S x y) : rcC S1 x y := fun P p q => h P p (fun u v pu huv => q u v pu (e u v huv))
theorem rcM_refl {S : yS} {x : Int} : rcM S x x := fun P h _ _ => h
theorem rcM_zero {S : yS} {x : Int} : rcM S x 0 := fun P _ h _ => h
theorem rcM_step {S : yS} {x u v : Int} (h : rcM S x u) (e : egM S u v) : rcM S x v := fun P p p0 q => q u v (h P p p0 q) e
/-- the class's rows name types, and parents are older -/
def FC (S : yS) : Prop := (∀ x : Int, 1 ≤ x → x < S.f 1 7 → 0 ≤ S.a 5 x.toNat ∧ S.a 5 x.toNat < x) ∧ (∀ x i : Int, 0 ≤ x → x < S.f 1 7 → 0 ≤ i → i < S.a 7 x.toNat → 0 ≤ S.a 8 (4 * x + i).toNat ∧ S.a 8 (4 * x + i).toNat < S.f 1 7) ∧ (∀ x : Int, S.f 1 7 ≤ x → S.a 7 x.toNat = 0)
/-- the bits say who is below whom -/
def SU (S : yS) : Prop := ∀ x y : Int, 0 ≤ x → x < S.f 1 7 → 0 ≤ y → y ≤ 19 → (bt (S.a 6 x.toNat) y ↔ rcC S x y)
def RF (S : yS) : Prop := (∀ j : Nat, S.a 51 j = S.a 7 j) ∧ (∀ j : Nat, S.a 50 j = S.a 8 j)
def B2 (S : yS) : Prop := (∀ j : Nat, S.a 2 j = 0 ∨ S.a 2 j = 1) ∧ (∀ j : Nat, j < 4 → S.a 2 j = 0)
def RS (S : yS) : Prop := FC S ∧ SU S ∧ RF S ∧ B2 S
theorem RSx : yX [(1, 7)] [2, 5, 6, 7, 8, 50, 51] RS := by
  intro S S' hf ha h
  have e := hf 1 7 rfl
  have e2 : S'.a 2 = S.a 2 := funext (fun j => ha 2 rfl j)
  have e5 : S'.a 5 = S.a 5 := funext (fun j => ha 5 rfl j)
  have e6 : S'.a 6 = S.a 6 := funext (fun j => ha 6 rfl j)
  have e7 : S'.a 7 = S.a 7 := funext (fun j => ha 7 rfl j)
  have e8 : S'.a 8 = S.a 8 := funext (fun j => ha 8 rfl j)
  have e50 : S'.a 50 = S.a 50 := funext (fun j => ha 50 rfl j)
  have e51 : S'.a 51 = S.a 51 := funext (fun j => ha 51 rfl j)
  unfold RS FC SU RF B2 rcC egC at h ⊢
  rw [e, e2, e5, e6, e7, e8, e50, e51]
  exact h
theorem rc_zero {S : yS} (h : FC S) : ∀ (n : Nat) (x : Int), 0 ≤ x → x < S.f 1 7 → x < n → rcC S x 0 := by
  intro n
  induction n with
  | zero => intro x h0 h1 h3; exact absurd h3 (by omega)
  | succ n ih =>
    intro x h0 h1 h3
    by_cases e : x = 0
    · subst e; exact rcC_refl
    · obtain ⟨p0, p1⟩ := h.1 x (by omega) h1
      exact rcC_trans (rcC_step rcC_refl ⟨⟨h0, h1⟩, Or.inl ⟨by omega, rfl⟩⟩) (ih _ p0 (by omega) (by omega))
theorem rcC_M {S S1 : yS} {t o : Int} (h : RT S) (hs : RS S) (h3 : ∀ j : Nat, S.a 49 j < j) (h0 : 0 ≤ t) (h1 : t < S.f 1 7) (e1 : S1.f 43 1 = S.f 43 1) (e49 : ∀ j, S1.a 49 j = S.a 49 j) (e50 : ∀ j, S1.a 50 j = S.a 50 j) (e51 : ∀ j, S1.a 51 j = S.a 51 j) : rcC S t o ↔ rcM S1 t o := by
  obtain ⟨h7, -, hr⟩ := h
  obtain ⟨hf, -, ⟨r7, r8⟩, ⟨b2, -⟩⟩ := hs
  constructor
  · intro hc P pt p0 pe
    refine hc P pt (fun u v pu huv => ?_)
    obtain ⟨⟨u0, u1⟩, huv⟩ := huv
    obtain ⟨-, -, -, -, -, g6, g7⟩ := hr u.toNat
    rcases huv with ⟨v0, v1⟩ | ⟨i, i0, i1, v1⟩
    · obtain ⟨q0, q1⟩ := hf.1 u v0 u1
      rcases b2 u.toNat with b0 | b1
      · have g := g7 b0
        refine pe u v pu ⟨⟨u0, by omega⟩, Or.inl ⟨?_, ?_⟩⟩
        · rw [e49]; omega
        · rw [e49, v1]; omega
      · rw [v1, (g6 b1).2]; exact p0
    · refine pe u v pu ⟨⟨u0, by omega⟩, Or.inr ⟨i, i0, ?_, ?_⟩⟩
      · rw [e51, r7]; exact i1
      · rw [e50, r8]; exact v1
  · intro hm
    refine hm (rcC S t) rcC_refl (rc_zero hf (t.toNat + 1) t h0 h1 (by omega)) (fun u v pu huv => rcC_step pu ?_)
    obtain ⟨⟨u0, u1⟩, huv⟩ := huv
    obtain ⟨-, -, -, -, -, g6, g7⟩ := hr u.toNat
    rcases huv with ⟨v0, v1⟩ | ⟨i, i0, i1, v1⟩
    · rw [e49] at v0 v1
      have q := h3 u.toNat
      rcases b2 u.toNat with b0 | b1
      · have g := g7 b0
        exact ⟨⟨u0, by omega⟩, Or.inl ⟨by omega, by omega⟩⟩
      · have g := (g6 b1).1
        exact absurd v0 (by omega)
    · rw [e51, r7] at i1
      rw [e50, r8] at v1
      exact ⟨⟨u0, by omega⟩, Or.inr ⟨i, i0, i1, v1⟩⟩
/-- the other's rows name types, and parents are older -/
def FM (S : yS) : Prop := (∀ x : Int, 0 ≤ x → x < S.f 43 1 → S.a 49 x.toNat < x) ∧ (∀ x i : Int, 0 ≤ x → x < S.f 43 1 → 0 ≤ i → i < S.a 51 x.toNat → 0 ≤ S.a 50 (4 * x + i).toNat ∧ S.a 50 (4 * x + i).toNat < S.f 43 1)
theorem FM_of {S S1 : yS} (h : RT S) (hs : RS S) (h3 : ∀ j : Nat, S.a 49 j < j) (e1 : S1.f 43 1 = S.f 43 1) (e49 : ∀ j, S1.a 49 j = S.a 49 j) (e50 : ∀ j, S1.a 50 j = S.a 50 j) (e51 : ∀ j, S1.a 51 j = S.a 51 j) : FM S1 := by
  obtain ⟨h7, -, -⟩ := h
  obtain ⟨hf, -, ⟨r7, r8⟩, -⟩ := hs
  refine ⟨fun x x0 x1 => ?_, fun x i x0 x1 i0 i1 => ?_⟩
  · rw [e49]
    have := h3 x.toNat
    omega
  · rw [e51, r7] at i1
    rw [e50, r8, e1]
    have := hf.2.1 x i x0 (by omega) i0 i1
    omega
/-! how the other finds out: its row of marks -/
def cn (S : yS) : Nat → Nat
  | 0 => 0
  | n + 1 => cn S n + (if S.a 68 n = 0 then 0 else 1)
theorem cn_le (S : yS) : ∀ n, cn S n ≤ n := by
  intro n
  induction n with
  | zero => exact Nat.le_refl 0
  | succ n ih =>
    show cn S n + (if S.a 68 n = 0 then 0 else 1) ≤ n + 1
    split <;> omega
theorem cn_set {S : yS} {v : Nat} : ∀ n, cn S n ≤ cn (ysa S 68 v 1) n ∧ (S.a 68 v = 0 → v < n → cn S n + 1 ≤ cn (ysa S 68 v 1) n) := by
  intro n
  induction n with
  | zero => exact ⟨Nat.le_refl 0, fun _ h => absurd h (by omega)⟩
  | succ n ih =>
    have e1 : cn S (n + 1) = cn S n + (if S.a 68 n = 0 then 0 else 1) := rfl
    have e2 : cn (ysa S 68 v 1) (n + 1) = cn (ysa S 68 v 1) n + (if (ysa S 68 v 1).a 68 n = 0 then 0 else 1) := rfl
    rw [e1, e2]
    by_cases e : n = v
    · subst e
      rw [ysa_eq, if_neg (by decide : ¬ (1 : Int) = 0)]
      refine ⟨?_, fun h _ => ?_⟩
      · have := ih.1
        split <;> omega
      · rw [if_pos h]
        have := ih.1
        omega
    · rw [ysa_ne (Or.inr e)]
      refine ⟨?_, fun h h2 => ?_⟩
      · have := ih.1
        omega
      · have := ih.2 h (by omega)
        omega
def UC (S0 : yS) (t : Int) : Prop := FM S0 ∧ 0 ≤ t ∧ t < S0.f 43 1
def uSnd (S S0 : yS) (t : Int) : Prop := ∀ j : Nat, (j : Int) < S0.f 43 1 → S.a 68 j ≠ 0 → rcM S0 t j
def uCl (S S0 : yS) : Prop := ∀ u v : Int, S.a 68 u.toNat ≠ 0 → egM S0 u v → S.a 68 v.toNat ≠ 0
def uP (S S0 : yS) (k : Int) : Prop := ∀ u v : Int, u < k → S.a 68 u.toNat ≠ 0 → egM S0 u v → S.a 68 v.toNat ≠ 0
def uQ (S S0 : yS) (k j : Int) : Prop := (0 ≤ S0.a 49 k.toNat → S.a 68 (S0.a 49 k.toNat).toNat ≠ 0) ∧ ∀ i : Int, 0 ≤ i → i < j → S.a 68 (S0.a 50 (4 * k + i).toNat).toNat ≠ 0
def uB (S : yS) (t : Int) : Prop := S.a 68 t.toNat ≠ 0 ∧ S.a 68 0 ≠ 0
def uIn (S : yS) (k t : Int) : Prop := ∀ j : Nat, (j : Int) < k → (S.a 68 j ≠ 0 ↔ (j : Int) = t)
def I26 (S S0 : yS) (t r : Int) : Prop := UC S0 t → uSnd S S0 t ∧ uB S t ∧ (uCl S S0 ∨ r + 1 ≤ cn S (S0.f 43 1).toNat)
def I32 (S S0 : yS) (t r k : Int) : Prop := UC S0 t → uSnd S S0 t ∧ uB S t ∧ (uCl S S0 ∨ r + 2 ≤ cn S (S0.f 43 1).toNat ∨ (r + 1 ≤ cn S (S0.f 43 1).toNat ∧ uP S S0 k))
def I55 (S S0 : yS) (t r k j : Int) : Prop := UC S0 t → uSnd S S0 t ∧ uB S t ∧ S.a 68 k.toNat ≠ 0 ∧ (uCl S S0 ∨ r + 2 ≤ cn S (S0.f 43 1).toNat ∨ (r + 1 ≤ cn S (S0.f 43 1).toNat ∧ uP S S0 k ∧ uQ S S0 k j))
theorem uIn_0 {S : yS} {t : Int} : uIn S 0 t := fun j h => absurd h (by omega)
theorem uIn_s {S : yS} {k t x : Int} (h : uIn S k t) (k0 : 0 ≤ k) (hx : x ≠ 0 ↔ k = t) : uIn (ysa S 68 k.toNat x) (k + 1) t := by
  intro j hj
  by_cases e : j = k.toNat
  · subst e
    rw [ysa_eq, hx]
    omega
  · rw [ysa_ne (Or.inr e)]
    exact h j (by omega)
theorem m_set {S : yS} {v j : Nat} : (ysa S 68 v 1).a 68 j ≠ 0 ↔ (S.a 68 j ≠ 0 ∨ j = v) := by
  by_cases e : j = v
  · subst e
    rw [ysa_eq]
    exact ⟨fun _ => Or.inr rfl, fun _ => by decide⟩
  · rw [ysa_ne (Or.inr e)]
    exact ⟨fun h => Or.inl h, fun h => h.resolve_right e⟩
theorem cn_pos {S : yS} {v : Nat} (h : S.a 68 v ≠ 0) : ∀ n, v < n → 1 ≤ cn S n := by
  intro n
  induction n with
  | zero => intro h; exact absurd h (by omega)
  | succ n ih =>
    intro hv
    show 1 ≤ cn S n + (if S.a 68 n = 0 then 0 else 1)
    by_cases e : v = n
    · subst e; rw [if_neg h]; omega
    · have := ih (by omega); omega
theorem I26_0 {S S0 : yS} {k t : Int} (h : uIn S k t) (hk : S0.f 43 1 ≤ k) : I26 (ysa S 68 (0 : Int).toNat 1) S0 t 0 := by
  intro hu
  obtain ⟨-, t0, t1⟩ := hu
  have hb : (ysa S 68 (0 : Int).toNat 1).a 68 t.toNat ≠ 0 := m_set.mpr (Or.inl ((h t.toNat (by omega)).mpr (by omega)))
  refine ⟨fun j hj hm => ?_, ⟨hb, m_set.mpr (Or.inr rfl)⟩, Or.inr ?_⟩
  · rcases m_set.mp hm with h9 | h9
    · rw [(h j (by omega)).mp h9]; exact rcM_refl
    · subst h9; exact rcM_zero
  · have := cn_pos hb (S0.f 43 1).toNat (by omega)
    omega
theorem I32_0 {S S0 : yS} {t r : Int} (h : I26 S S0 t r) : I32 S S0 t r 0 := by
  intro hu
  obtain ⟨a, b, c⟩ := h hu
  refine ⟨a, b, ?_⟩
  rcases c with c | c
  · exact Or.inl c
  · exact Or.inr (Or.inr ⟨c, fun u v hu9 _ e => absurd hu9 (by have := e.1.1; omega)⟩)
theorem I26_s {S S0 : yS} {t r k : Int} (h : I32 S S0 t r k) (hk : S0.f 43 1 ≤ k) : I26 S S0 t (r + 1) := by
  intro hu
  obtain ⟨a, b, c⟩ := h hu
  refine ⟨a, b, ?_⟩
  rcases c with c | c | ⟨-, c⟩
  · exact Or.inl c
  · exact Or.inr (by omega)
  · exact Or.inl (fun u v hm e => c u v (by have := e.1.2; omega) hm e)
theorem I32_n {S S0 : yS} {t r k : Int} (h : I32 S S0 t r k) (hm : S.a 68 k.toNat = 0) : I32 S S0 t r (k + 1) := by
  intro hu
  obtain ⟨a, b, c⟩ := h hu
  refine ⟨a, b, ?_⟩
  rcases c with c | c | ⟨d, c⟩
  · exact Or.inl c
  · exact Or.inr (Or.inl c)
  · refine Or.inr (Or.inr ⟨d, fun u v hk hv e => ?_⟩)
    by_cases e9 : u = k
    · subst e9; exact absurd hm hv
    · exact c u v (by omega) hv e
theorem I55_0 {S S0 : yS} {t r k : Int} (h : I32 S S0 t r k) (hm : S.a 68 k.toNat ≠ 0) (hp : S0.a 49 k.toNat < 0) : I55 S S0 t r k 0 := by
  intro hu
  obtain ⟨a, b, c⟩ := h hu
  refine ⟨a, b, hm, ?_⟩
  rcases c with c | c | ⟨d, c⟩
  · exact Or.inl c
  · exact Or.inr (Or.inl c)
  · exact Or.inr (Or.inr ⟨d, c, fun h9 => absurd h9 (by omega), fun i i0 i1 => absurd i1 (by omega)⟩)
/-- a mark is set at the end of an edge from k -/
theorem u_set {S S0 : yS} {t r k v : Int} {Q : yS → Prop} (hu : UC S0 t) (a : uSnd S S0 t) (b : uB S t) (hm : S.a 68 k.toNat ≠ 0) (k0 : 0 ≤ k) (k1 : k < S0.f 43 1) (e : egM S0 k v) (v0 : 0 ≤ v) (v1 : v < S0.f 43 1) (hQ : (∀ j : Nat, S.a 68 j ≠ 0 ↔ (ysa S 68 v.toNat 1).a 68 j ≠ 0) → Q S → Q (ysa S 68 v.toNat 1)) (c : uCl S S0 ∨ r + 2 ≤ cn S (S0.f 43 1).toNat ∨ (r + 1 ≤ cn S (S0.f 43 1).toNat ∧ uP S S0 k ∧ Q S)) :
    uSnd (ysa S 68 v.toNat 1) S0 t ∧ uB (ysa S 68 v.toNat 1) t ∧ (ysa S 68 v.toNat 1).a 68 k.toNat ≠ 0 ∧ (uCl (ysa S 68 v.toNat 1) S0 ∨ r + 2 ≤ cn (ysa S 68 v.toNat 1) (S0.f 43 1).toNat ∨ (r + 1 ≤ cn (ysa S 68 v.toNat 1) (S0.f 43 1).toNat ∧ uP (ysa S 68 v.toNat 1) S0 k ∧ Q (ysa S 68 v.toNat 1))) := by
  have hc := cn_set (S := S) (v := v.toNat) (S0.f 43 1).toNat
  refine ⟨fun j hj h9 => ?_, ⟨m_set.mpr (Or.inl b.1), m_set.mpr (Or.inl b.2)⟩, m_set.mpr (Or.inl hm), ?_⟩
  · rcases m_set.mp h9 with h9 | h9
    · exact a j hj h9
    · have h8 : (j : Int) = v := by omega
      have h7 := a k.toNat (by omega) hm
      rw [show ((k.toNat : Nat) : Int) = k by omega] at h7
      rw [h8]
      exact rcM_step h7 e
  · by_cases hv : S.a 68 v.toNat = 0
    · rcases c with c | c | ⟨d, c, q⟩
      · exact absurd hv (c k v hm e)
      · exact Or.inr (Or.inl (by have := hc.1; omega))
      · exact Or.inr (Or.inl (by have := hc.2 hv (by omega); omega))
    · have hs : ∀ j : Nat, S.a 68 j ≠ 0 ↔ (ysa S 68 v.toNat 1).a 68 j ≠ 0 := by
        intro j
        rw [m_set]
        exact ⟨fun h => Or.inl h, fun h => by
          rcases h with h | h
          · exact h
          · rw [h]; exact hv⟩
      rcases c with c | c | ⟨d, c, q⟩
      · exact Or.inl (fun u w h1 h2 => (hs _).mp (c u w ((hs _).mpr h1) h2))
      · exact Or.inr (Or.inl (by have := hc.1; omega))
      · exact Or.inr (Or.inr ⟨by have := hc.1; omega, fun u w h0 h1 h2 => (hs _).mp (c u w h0 ((hs _).mpr h1) h2), hQ hs q⟩)
theorem I55_p {S S0 : yS} {t r k v : Int} (h : I32 S S0 t r k) (hm : S.a 68 k.toNat ≠ 0) (k0 : 0 ≤ k) (k1 : k < S0.f 43 1) (hv : v = S0.a 49 k.toNat) (v0 : 0 ≤ v) : I55 (ysa S 68 v.toNat 1) S0 t r k 0 := by
  intro hu
  obtain ⟨a, b, c⟩ := h hu
  have e : egM S0 k v := ⟨⟨k0, k1⟩, Or.inl ⟨by omega, hv⟩⟩
  have v1 : v < S0.f 43 1 := by have := hu.1.1 k k0 k1; omega
  have h9 := u_set (r := r) (Q := fun _ => True) hu a b hm k0 k1 e v0 v1 (fun _ _ => trivial) (by
    rcases c with c | c | ⟨d, c⟩
    · exact Or.inl c
    · exact Or.inr (Or.inl c)
    · exact Or.inr (Or.inr ⟨d, c, trivial⟩))
  obtain ⟨a2, b2, m2, c2⟩ := h9
  refine ⟨a2, b2, m2, ?_⟩
  rcases c2 with c2 | c2 | ⟨d2, c2, -⟩
  · exact Or.inl c2
  · exact Or.inr (Or.inl c2)
  · refine Or.inr (Or.inr ⟨d2, c2, fun _ => ?_, fun i i0 i1 => absurd i1 (by omega)⟩)
    rw [← hv]
    exact m_set.mpr (Or.inr rfl)
theorem I55_s {S S0 : yS} {t r k j v : Int} (h : I55 S S0 t r k j) (k0 : 0 ≤ k) (k1 : k < S0.f 43 1) (j0 : 0 ≤ j) (j1 : j < S0.a 51 k.toNat) (hv : v = S0.a 50 (4 * k + j).toNat) : I55 (ysa S 68 v.toNat 1) S0 t r k (j + 1) := by
  intro hu
  obtain ⟨a, b, hm, c⟩ := h hu
  have e : egM S0 k v := ⟨⟨k0, k1⟩, Or.inr ⟨j, j0, j1, hv⟩⟩
  have v1 := hu.1.2 k j k0 k1 j0 j1
  rw [← hv] at v1
  have h9 := u_set (r := r) (Q := fun T => uQ T S0 k j) hu a b hm k0 k1 e v1.1 v1.2 (fun hs q => ⟨fun h8 => (hs _).mp (q.1 h8), fun i i0 i1 => (hs _).mp (q.2 i i0 i1)⟩) c
  obtain ⟨a2, b2, m2, c2⟩ := h9
  refine ⟨a2, b2, m2, ?_⟩
  rcases c2 with c2 | c2 | ⟨d2, c2, q1, q2⟩
  · exact Or.inl c2
  · exact Or.inr (Or.inl c2)
  · refine Or.inr (Or.inr ⟨d2, c2, q1, fun i i0 i1 => ?_⟩)
    by_cases e9 : i = j
    · subst e9
      rw [← hv]
      exact m_set.mpr (Or.inr rfl)
    · exact q2 i i0 (by omega)
theorem I32_s {S S0 : yS} {t r k j : Int} (h : I55 S S0 t r k j) (hj : S0.a 51 k.toNat ≤ j) : I32 S S0 t r (k + 1) := by
  intro hu
  obtain ⟨a, b, hm, c⟩ := h hu
  refine ⟨a, b, ?_⟩
  rcases c with c | c | ⟨d, c, q1, q2⟩
  · exact Or.inl c
  · exact Or.inr (Or.inl c)
  · refine Or.inr (Or.inr ⟨d, fun u v hk hv e => ?_⟩)
    by_cases e9 : u = k
    · subst e9
      obtain ⟨-, e⟩ := e
      rcases e with ⟨e0, e1⟩ | ⟨i, i0, i1, e1⟩
      · rw [e1]; exact q1 e0
      · rw [e1]; exact q2 i i0 (by omega)
    · exact c u v (by omega) hv e
theorem I26_end {S S0 : yS} {t r o : Int} (h : I26 S S0 t r) (hr : S0.f 43 1 ≤ r) (hf : FM S0) (t0 : 0 ≤ t) (t1 : t < S0.f 43 1) (o0 : 0 ≤ o) (o1 : o < S0.f 43 1) : S.a 68 o.toNat ≠ 0 ↔ rcM S0 t o := by
  obtain ⟨a, b, c⟩ := h ⟨hf, t0, t1⟩
  have c : uCl S S0 := by
    rcases c with c | c
    · exact c
    · have := cn_le S (S0.f 43 1).toNat
      omega
  constructor
  · intro hm
    have := a o.toNat (by omega) hm
    rwa [show ((o.toNat : Nat) : Int) = o by omega] at this
  · intro hm
    exact hm (fun y => S.a 68 y.toNat ≠ 0) b.1 b.2 (fun u v hu e => c u v hu e)
/-! a type is added -/
def c6T (S S1 : yS) (up : Int) : Prop := ∀ j, S1.a 6 j = (ysa S 6 (S.f 1 7).toNat (yor (yshl 1 (S.f 1 7)) (S.a 6 up.toNat))).a 6 j
theorem rk {A B : yS} {c k : Nat} {z : Int} (h : ysa A c k z = B) (hc : 6 ≠ c) (j : Nat) : B.a 6 j = A.a 6 j := by
  rw [← h]
  exact ysa_ne (Or.inl hc)
theorem rkf {A B : yS} {c k : Nat} {z : Int} (h : ysf A c k z = B) (j : Nat) : B.a 6 j = A.a 6 j := by
  rw [← h]
  rfl
theorem c6_of2 {S S1 S2 S3 : yS} {n up : Nat} {x y : Int} (e0 : ∀ j, S1.a 6 j = S.a 6 j) (h1 : ysa S1 6 n x = S2) (h2 : ysa S2 6 n y = S3) (hy : y = yor (S2.a 6 n) (S2.a 6 up)) (h : up ≠ n) (j : Nat) : S3.a 6 j = (ysa S 6 n (yor x (S.a 6 up))).a 6 j := by
  have a1 : S2.a 6 n = x := by rw [← h1]; exact ysa_eq
  have a2 : S2.a 6 up = S.a 6 up := by rw [← h1, ysa_ne (Or.inr h), e0]
  rw [← h2]
  by_cases e : j = n
  · subst e; rw [ysa_eq, ysa_eq, hy, a1, a2]
  · rw [ysa_ne (Or.inr e), ysa_ne (Or.inr e), ← h1, ysa_ne (Or.inr e), e0]
theorem RSC_type {S S1 : yS} {b fl p up : Int} (hf : FC S) (hs : SU S) (hb : B2 S) (n4 : 4 ≤ S.f 1 7) (n19 : S.f 1 7 ≤ 19) (b01 : b = 0 ∨ b = 1) (u0 : 0 ≤ up) (u1 : up < S.f 1 7) (hc : cTy S S1 b fl p up) (h6 : c6T S S1 up) (e7 : ∀ j, S1.a 7 j = S.a 7 j) (e8 : ∀ j, S1.a 8 j = S.a 8 j) : FC S1 ∧ SU S1 ∧ B2 S1 := by
  obtain ⟨c1, c2, -, -, c5⟩ := hc
  have r5 : ∀ x : Int, 0 ≤ x → x < S.f 1 7 → S1.a 5 x.toNat = S.a 5 x.toNat := fun x x0 x1 => by rw [c5, ysa_ne (Or.inr (by omega))]
  have r5n : S1.a 5 (S.f 1 7).toNat = up := by rw [c5, ysa_eq]
  have r6 : ∀ x : Int, 0 ≤ x → x < S.f 1 7 → S1.a 6 x.toNat = S.a 6 x.toNat := fun x x0 x1 => by rw [h6, ysa_ne (Or.inr (by omega))]
  have r6n : S1.a 6 (S.f 1 7).toNat = yor (yshl 1 (S.f 1 7)) (S.a 6 up.toNat) := by rw [h6, ysa_eq]
  have r7n : S1.a 7 (S.f 1 7).toNat = 0 := by rw [e7]; exact hf.2.2 _ (Int.le_refl _)
  have eg : ∀ u v, egC S u v → egC S1 u v := by
    rintro u v ⟨⟨w0, w1⟩, h⟩
    refine ⟨⟨w0, by omega⟩, ?_⟩
    rcases h with ⟨a, bb⟩ | ⟨i, i0, i1, bb⟩
    · exact Or.inl ⟨a, by rw [r5 u w0 w1]; exact bb⟩
    · exact Or.inr ⟨i, i0, by rw [e7]; exact i1, by rw [e8]; exact bb⟩
  have ge : ∀ u v, egC S1 u v → u ≠ S.f 1 7 → egC S u v := by
    rintro u v ⟨⟨w0, w1⟩, h⟩ hne
    have w2 : u < S.f 1 7 := by omega
    refine ⟨⟨w0, w2⟩, ?_⟩
    rcases h with ⟨a, bb⟩ | ⟨i, i0, i1, bb⟩
    · rw [r5 u w0 w2] at bb
      exact Or.inl ⟨a, bb⟩
    · rw [e7] at i1
      rw [e8] at bb
      exact Or.inr ⟨i, i0, i1, bb⟩
  have gn : ∀ v, egC S1 (S.f 1 7) v → v = up := by
    rintro v ⟨-, h⟩
    rcases h with ⟨-, bb⟩ | ⟨i, i0, i1, -⟩
    · rw [bb, r5n]
    · rw [r7n] at i1
      omega
  have rgv : ∀ u v, egC S u v → 0 ≤ v ∧ v < S.f 1 7 := by
    rintro u v ⟨⟨w0, w1⟩, h⟩
    rcases h with ⟨a, bb⟩ | ⟨i, i0, i1, bb⟩
    · have := hf.1 u a w1
      omega
    · have := hf.2.1 u i w0 w1 i0 i1
      omega
  have old : ∀ x y, 0 ≤ x → x < S.f 1 7 → (rcC S1 x y ↔ rcC S x y) := by
    intro x y x0 x1
    refine ⟨fun h => ?_, rcC_mono eg⟩
    have h9 := h (fun y => rcC S x y ∧ y < S.f 1 7) ⟨rcC_refl, x1⟩ (fun u v pu e => by
      have e9 := ge u v e (by have := pu.2; omega)
      exact ⟨rcC_step pu.1 e9, (rgv u v e9).2⟩)
    exact h9.1
  have new : ∀ y, rcC S1 (S.f 1 7) y ↔ (y = S.f 1 7 ∨ rcC S up y) := by
    intro y
    constructor
    · intro h
      have h9 := h (fun y => y = S.f 1 7 ∨ (rcC S up y ∧ y < S.f 1 7)) (Or.inl rfl) (fun u v pu e => by
        rcases pu with pu | ⟨pu, pl⟩
        · rw [pu] at e
          rw [gn v e]
          exact Or.inr ⟨rcC_refl, u1⟩
        · have e9 := ge u v e (by omega)
          exact Or.inr ⟨rcC_step pu e9, (rgv u v e9).2⟩)
      rcases h9 with h9 | h9
      · exact Or.inl h9
      · exact Or.inr h9.1
    · rintro (h | h)
      · rw [h]; exact rcC_refl
      · exact rcC_trans (rcC_step rcC_refl ⟨⟨by omega, by omega⟩, Or.inl ⟨by omega, r5n.symm⟩⟩) (rcC_mono eg h)
  refine ⟨⟨?_, ?_, ?_⟩, ?_, ?_, ?_⟩
  · intro x x1 x2
    by_cases e : x = S.f 1 7
    · rw [e, r5n]; omega
    · rw [r5 x (by omega) (by omega)]; exact hf.1 x x1 (by omega)
  · intro x i x0 x1 i0 i1
    by_cases e : x = S.f 1 7
    · rw [e, r7n] at i1; omega
    · rw [e7] at i1
      rw [e8]
      have := hf.2.1 x i x0 (by omega) i0 i1
      omega
  · intro x hx
    rw [e7]; exact hf.2.2 x (by omega)
  · intro x y x0 x1 y0 y1
    by_cases e : x = S.f 1 7
    · rw [e, r6n, new, bt_or y0 (by omega), bt_shl (by omega) (by omega) y0 (by omega), hs up y u0 u1 y0 y1]
    · rw [r6 x x0 (by omega), old x y x0 (by omega)]
      exact hs x y x0 (by omega) y0 y1
  · intro j
    rw [c2]
    by_cases e : j = (S.f 1 7).toNat
    · rw [e, ysa_eq]; exact b01
    · rw [ysa_ne (Or.inr e)]; exact hb.1 j
  · intro j hj
    rw [c2, ysa_ne (Or.inr (by omega))]; exact hb.2 j hj
theorem RS_type {S S1 : yS} {b fl p up k : Int} {MF1 : List (Nat × Nat)} {MA1 : List Nat} (h : RS S) (n4 : 4 ≤ S.f 1 7) (hb : b = 0 ∨ b = 1) (hC : hTy S S1 b fl p up k) (h6 : k = 0 → c6T S S1 up) (hF1 : yFr MF1 MA1 S S1) (s2 : ydj1 [7, 8, 50, 51] MA1 = true) : RS S1 := by
  have a7 : ∀ j, S1.a 7 j = S.a 7 j := fun j => hF1.a (ydj1_of s2 rfl) j
  have a8 : ∀ j, S1.a 8 j = S.a 8 j := fun j => hF1.a (ydj1_of s2 rfl) j
  have a50 : ∀ j, S1.a 50 j = S.a 50 j := fun j => hF1.a (ydj1_of s2 rfl) j
  have a51 : ∀ j, S1.a 51 j = S.a 51 j := fun j => hF1.a (ydj1_of s2 rfl) j
  have same : S1.f = S.f → S1.a = S.a → RS S1 := by
    intro q1 q2
    unfold RS FC SU RF B2 rcC egC at h ⊢
    rw [q1, q2]
    exact h
  rcases hC with ⟨rfl, c1, c2, c3, c4⟩ | ⟨rfl, c1, c2, c3⟩ | ⟨rfl, c1, c2, c3, c4⟩
  · obtain ⟨hf, hs, ⟨r7, r8⟩, hb2⟩ := h
    obtain ⟨-, -, -, -, -, -, u0, u1, -⟩ := c1
    obtain ⟨d1, d2, d3⟩ := RSC_type hf hs hb2 n4 c2 hb u0 u1 c4 (h6 rfl) a7 a8
    exact ⟨d1, d2, ⟨fun j => by rw [a51, a7]; exact r7 j, fun j => by rw [a50, a8]; exact r8 j⟩, d3⟩
  · exact same c2 c3
  · exact same c3 c4
/-! an interface is added -/
def imC (S : yS) (t f : Int) : Prop := (4 ≤ t ∧ t < S.f 1 7) ∧ (4 ≤ f ∧ f < S.f 1 7) ∧ S.a 2 f.toNat ≠ 0 ∧ (∀ i : Int, 0 ≤ i → i < S.a 7 t.toNat → S.a 8 (4 * t + i).toNat ≠ f) ∧ S.a 7 t.toNat ≤ 3 ∧ ¬ bt (S.a 6 f.toNat) t
def c6F (S S1 : yS) (t f n : Int) : Prop := ∀ x : Nat, ((x : Int) < n → bt (S.a 6 x) t → S1.a 6 x = yor (S.a 6 x) (S.a 6 f.toNat)) ∧ (¬ ((x : Int) < n ∧ bt (S.a 6 x) t) → S1.a 6 x = S.a 6 x)
def cIf (S S1 : yS) (t f : Int) : Prop := (∀ j, S1.a 7 j = (ysa S 7 t.toNat (S.a 7 t.toNat + 1)).a 7 j) ∧ (∀ j, S1.a 8 j = (ysa S 8 (t * 4 + S.a 7 t.toNat).toNat f).a 8 j)
def cIm (S S1 : yS) (t f : Int) : Prop := cIf S S1 t f ∧ c6F S S1 t f (S.f 1 7)
theorem c6F_0 {S S1 : yS} {t f : Int} (h : ∀ j, S1.a 6 j = S.a 6 j) : c6F S S1 t f 0 := fun x => ⟨fun h9 => absurd h9 (by omega), fun _ => h x⟩
theorem c6F_n {S S1 : yS} {t f k : Int} (h : c6F S S1 t f k) (k0 : 0 ≤ k) (hb : ¬ bt (S1.a 6 k.toNat) t) : c6F S S1 t f (k + 1) := by
  have hk : ¬ bt (S.a 6 k.toNat) t := by rw [(h k.toNat).2 (fun q => absurd q.1 (by omega))] at hb; exact hb
  intro x
  by_cases e : x = k.toNat
  · subst e
    exact ⟨fun _ h9 => absurd h9 hk, fun _ => (h k.toNat).2 (fun q => absurd q.1 (by omega))⟩
  · exact ⟨fun h8 h9 => (h x).1 (by omega) h9, fun h9 => (h x).2 (fun q => h9 ⟨by omega, q.2⟩)⟩
theorem c6F_s {S S1 : yS} {t f k : Int} (h : c6F S S1 t f k) (k0 : 0 ≤ k) (hf : ¬ bt (S.a 6 f.toNat) t) (hb : bt (S1.a 6 k.toNat) t) : c6F S (ysa S1 6 k.toNat (yor (S1.a 6 k.toNat) (S1.a 6 f.toNat))) t f (k + 1) := by
  have e1 : S1.a 6 k.toNat = S.a 6 k.toNat := (h k.toNat).2 (fun q => absurd q.1 (by omega))
  have e2 : S1.a 6 f.toNat = S.a 6 f.toNat := (h f.toNat).2 (fun q => hf q.2)
  rw [e1, e2]
  rw [e1] at hb
  intro x
  by_cases e : x = k.toNat
  · subst e
    rw [ysa_eq]
    exact ⟨fun _ _ => rfl, fun h9 => absurd ⟨by omega, hb⟩ h9⟩
  · rw [ysa_ne (Or.inr e)]
    exact ⟨fun h8 h9 => (h x).1 (by omega) h9, fun h9 => (h x).2 (fun q => h9 ⟨by omega, q.2⟩)⟩
theorem RSC_impl {S S1 : yS} {t f : Int} (hf : FC S) (hs : SU S) (hb : B2 S) (a7 : ∀ j, 0 ≤ S.a 7 j ∧ S.a 7 j ≤ 4) (n20 : S.f 1 7 ≤ 20) (hi : imC S t f) (hc : cIm S S1 t f) (e1 : S1.f 1 7 = S.f 1 7) (e2 : ∀ j, S1.a 2 j = S.a 2 j) (e5 : ∀ j, S1.a 5 j = S.a 5 j) : FC S1 ∧ SU S1 ∧ B2 S1 := by
  obtain ⟨⟨t4, tn⟩, ⟨f4, fn⟩, -, -, t3, nb⟩ := hi
  obtain ⟨⟨c7, c8⟩, c6⟩ := hc
  have r7 : ∀ x : Int, 0 ≤ x → x ≠ t → S1.a 7 x.toNat = S.a 7 x.toNat := fun x x0 hx => by rw [c7, ysa_ne (Or.inr (by omega))]
  have r7t : S1.a 7 t.toNat = S.a 7 t.toNat + 1 := by rw [c7, ysa_eq]
  have r8 : ∀ x i : Int, 0 ≤ x → 0 ≤ i → i < S.a 7 x.toNat → S1.a 8 (4 * x + i).toNat = S.a 8 (4 * x + i).toNat := by
    intro x i x0 i0 i1
    have q1 := a7 x.toNat
    have q2 := a7 t.toNat
    have hne : (4 * x + i).toNat ≠ (t * 4 + S.a 7 t.toNat).toNat := by
      intro h9
      by_cases e : x = t
      · rw [e] at i1 h9; omega
      · omega
    rw [c8, ysa_ne (Or.inr hne)]
  have et : (4 * t + S.a 7 t.toNat).toNat = (t * 4 + S.a 7 t.toNat).toNat := congrArg Int.toNat (by omega)
  have r8t : S1.a 8 (4 * t + S.a 7 t.toNat).toNat = f := by rw [et, c8, ysa_eq]
  have eg : ∀ u v, egC S u v → egC S1 u v := by
    rintro u v ⟨⟨w0, w1⟩, h⟩
    refine ⟨⟨w0, by omega⟩, ?_⟩
    rcases h with ⟨a, bb⟩ | ⟨i, i0, i1, bb⟩
    · exact Or.inl ⟨a, by rw [e5]; exact bb⟩
    · refine Or.inr ⟨i, i0, ?_, by rw [r8 u i w0 i0 i1]; exact bb⟩
      by_cases e : u = t
      · rw [e, r7t]
        rw [e] at i1
        omega
      · rw [r7 u w0 e]; exact i1
  have etf : egC S1 t f := ⟨⟨by omega, by omega⟩, Or.inr ⟨S.a 7 t.toNat, (a7 _).1, by omega, r8t.symm⟩⟩
  have ge : ∀ u v, egC S1 u v → egC S u v ∨ (u = t ∧ v = f) := by
    rintro u v ⟨⟨w0, w1⟩, h⟩
    rw [e1] at w1
    rcases h with ⟨a, bb⟩ | ⟨i, i0, i1, bb⟩
    · rw [e5] at bb
      exact Or.inl ⟨⟨w0, w1⟩, Or.inl ⟨a, bb⟩⟩
    · by_cases e : u = t
      · rw [e, r7t] at i1
        by_cases e9 : i = S.a 7 t.toNat
        · rw [e, e9, r8t] at bb
          exact Or.inr ⟨e, bb⟩
        · have i2 : i < S.a 7 u.toNat := by rw [e]; omega
          rw [r8 u i w0 i0 i2] at bb
          exact Or.inl ⟨⟨w0, w1⟩, Or.inr ⟨i, i0, i2, bb⟩⟩
      · rw [r7 u w0 e] at i1
        rw [r8 u i w0 i0 i1] at bb
        exact Or.inl ⟨⟨w0, w1⟩, Or.inr ⟨i, i0, i1, bb⟩⟩
  have rc : ∀ x y, rcC S1 x y ↔ (rcC S x y ∨ (rcC S x t ∧ rcC S f y)) := by
    intro x y
    constructor
    · intro h
      refine h (fun y => rcC S x y ∨ (rcC S x t ∧ rcC S f y)) (Or.inl rcC_refl) (fun u v pu e => ?_)
      rcases ge u v e with e | ⟨eu, ev⟩
      · rcases pu with pu | ⟨p1, p2⟩
        · exact Or.inl (rcC_step pu e)
        · exact Or.inr ⟨p1, rcC_step p2 e⟩
      · rw [ev]
        rcases pu with pu | ⟨p1, p2⟩
        · rw [eu] at pu
          exact Or.inr ⟨pu, rcC_refl⟩
        · exact Or.inr ⟨p1, rcC_refl⟩
    · rintro (h | ⟨h1, h2⟩)
      · exact rcC_mono eg h
      · exact rcC_trans (rcC_step (rcC_mono eg h1) etf) (rcC_mono eg h2)
  refine ⟨⟨?_, ?_, ?_⟩, ?_, ?_⟩
  · intro x x1 x2
    rw [e5]
    exact hf.1 x x1 (by omega)
  · intro x i x0 x1 i0 i1
    rw [e1] at x1 ⊢
    by_cases e : x = t
    · rw [e, r7t] at i1
      by_cases e9 : i = S.a 7 t.toNat
      · rw [e, e9, r8t]; omega
      · have i2 : i < S.a 7 x.toNat := by rw [e]; omega
        rw [r8 x i x0 i0 i2]
        exact hf.2.1 x i x0 x1 i0 i2
    · rw [r7 x x0 e] at i1
      rw [r8 x i x0 i0 i1]
      exact hf.2.1 x i x0 x1 i0 i1
  · intro x hx
    rw [r7 x (by omega) (by omega)]
    exact hf.2.2 x (by omega)
  · intro x y x0 x1 y0 y1
    rw [e1] at x1
    have q := c6 x.toNat
    have hx := hs x t x0 x1 (by omega) (by omega)
    have hxy := hs x y x0 x1 y0 y1
    have hfy := hs f y (by omega) fn y0 y1
    by_cases hbt : bt (S.a 6 x.toNat) t
    · rw [q.1 (by omega) hbt, bt_or y0 (by omega), rc, hxy, hfy]
      have := hx.mp hbt
      constructor
      · rintro (h | h)
        · exact Or.inl h
        · exact Or.inr ⟨this, h⟩
      · rintro (h | ⟨-, h⟩)
        · exact Or.inl h
        · exact Or.inr h
    · rw [q.2 (fun h9 => hbt h9.2), rc, hxy]
      constructor
      · exact Or.inl
      · rintro (h | ⟨h, -⟩)
        · exact h
        · exact absurd (hx.mpr h) hbt
  · exact ⟨fun j => by rw [e2]; exact hb.1 j, fun j hj => by rw [e2]; exact hb.2 j hj⟩
/-! the other's way -/
def imM (S : yS) (t f : Int) : Prop := (3 < t ∧ t < S.f 43 1) ∧ (0 ≤ f ∧ f < S.f 43 1) ∧ S.a 44 f.toNat ≠ 0 ∧ S.a 51 t.toNat ≤ 3 ∧ ¬ rcM S f t ∧ (∀ i : Int, 0 ≤ i → i < S.a 51 t.toNat → S.a 50 (4 * t + i).toNat ≠ f)
def mIm (S S1 : yS) (t f : Int) : Prop := (∀ j, S1.a 51 j = (ysa S 51 t.toNat (S.a 51 t.toNat + 1)).a 51 j) ∧ (∀ j, S1.a 50 j = (ysa S 50 (4 * t + S.a 51 t.toNat).toNat f).a 50 j)
def sIm (S S1 : yS) : Prop := ∀ j, S1.a 51 j = S.a 51 j ∧ S1.a 50 j = S.a 50 j
def mImQ (S S1 : yS) (t f : Int) : Prop := FM S → (S1.f 43 0 = 0 ∧ imM S t f ∧ mIm S S1 t f) ∨ (S1.f 43 0 = 1 ∧ ¬ imM S t f ∧ sIm S S1)
def hIm (S S1 : yS) (t f z : Int) : Prop := (z = 0 ∧ imC S t f ∧ cIm S S1 t f) ∨ (z = 1 ∧ ¬ imC S t f ∧ S1.f = S.f ∧ S1.a = S.a)
theorem imC_M {S S1 : yS} {t f : Int} (h : RT S) (hs : RS S) (h3 : ∀ j : Nat, S.a 49 j < j) (n20 : S.f 1 7 ≤ 20) (e1 : S1.f 43 1 = S.f 43 1) (e44 : ∀ j, S1.a 44 j = S.a 44 j) (e49 : ∀ j, S1.a 49 j = S.a 49 j) (e50 : ∀ j, S1.a 50 j = S.a 50 j) (e51 : ∀ j, S1.a 51 j = S.a 51 j) : imC S t f ↔ imM S1 t f := by
  have hrc : ∀ x y, 0 ≤ x → x < S.f 1 7 → 0 ≤ y → y ≤ 19 → (bt (S.a 6 x.toNat) y ↔ rcM S1 x y) := fun x y x0 x1 y0 y1 => (hs.2.1 x y x0 x1 y0 y1).trans (rcC_M h hs h3 x0 x1 e1 e49 e50 e51)
  obtain ⟨h7, -, hr⟩ := h
  obtain ⟨hf, -, ⟨r7, r8⟩, hb2⟩ := hs
  have g1 := (hr f.toNat).1
  unfold imC imM
  rw [e1, e44, e51, r7, g1, ← h7]
  constructor
  · rintro ⟨a1, a2, a3, a4, a5, a6⟩
    refine ⟨⟨by omega, a1.2⟩, ⟨by omega, a2.2⟩, a3, a5, fun q => a6 ((hrc f t (by omega) a2.2 (by omega) (by omega)).mpr q), fun i i0 i1 => ?_⟩
    rw [e50, r8]
    exact a4 i i0 i1
  · rintro ⟨a1, a2, a3, a5, a6, a4⟩
    have f4 : 4 ≤ f := by
      rcases Int.lt_or_le f 4 with h9 | h9
      · exact absurd (hb2.2 f.toNat (by omega)) a3
      · exact h9
    refine ⟨⟨by omega, a1.2⟩, ⟨f4, a2.2⟩, a3, fun i i0 i1 => ?_, a5, fun q => a6 ((hrc f t a2.1 a2.2 (by omega) (by omega)).mp q)⟩
    have := a4 i i0 i1
    rw [e50, r8] at this
    exact this
theorem RS_impl {S S1 S2 : yS} {t f k : Int} {MF1 MF2 : List (Nat × Nat)} {MA1 MA2 : List Nat} (h : RT S) (hs : RS S) (h3 : ∀ j : Nat, S.a 49 j < j) (a7 : ∀ j, 0 ≤ S.a 7 j ∧ S.a 7 j ≤ 4) (n20 : S.f 1 7 ≤ 20) (hC : hIm S S1 t f k) (hF1 : yFr MF1 MA1 S S1) (s1 : ydj2 [(43, 1), (1, 7)] MF1 = true) (s2 : ydj1 [2, 5, 44, 49, 50, 51] MA1 = true) (hM : mImQ S1 S2 t f) (hF2 : yFr MF2 MA2 S1 S2) (s3 : ydj2 [(1, 7)] MF2 = true) (s4 : ydj1 [2, 5, 6, 7, 8] MA2 = true) : RS S2 ∧ S2.f 43 0 = k := by
  have f1 : S1.f 43 1 = S.f 43 1 := hF1.f (ydj2_of s1 rfl)
  have f0 : S1.f 1 7 = S.f 1 7 := hF1.f (ydj2_of s1 rfl)
  have a2 : ∀ j, S1.a 2 j = S.a 2 j := fun j => hF1.a (ydj1_of s2 rfl) j
  have a5 : ∀ j, S1.a 5 j = S.a 5 j := fun j => hF1.a (ydj1_of s2 rfl) j
  have a44 : ∀ j, S1.a 44 j = S.a 44 j := fun j => hF1.a (ydj1_of s2 rfl) j
  have a49 : ∀ j, S1.a 49 j = S.a 49 j := fun j => hF1.a (ydj1_of s2 rfl) j
  have a50 : ∀ j, S1.a 50 j = S.a 50 j := fun j => hF1.a (ydj1_of s2 rfl) j
  have a51 : ∀ j, S1.a 51 j = S.a 51 j := fun j => hF1.a (ydj1_of s2 rfl) j
  have g0 : S2.f 1 7 = S1.f 1 7 := hF2.f (ydj2_of s3 rfl)
  have b2 : ∀ j, S2.a 2 j = S1.a 2 j := fun j => hF2.a (ydj1_of s4 rfl) j
  have b5 : ∀ j, S2.a 5 j = S1.a 5 j := fun j => hF2.a (ydj1_of s4 rfl) j
  have b6 : ∀ j, S2.a 6 j = S1.a 6 j := fun j => hF2.a (ydj1_of s4 rfl) j
  have b7 : ∀ j, S2.a 7 j = S1.a 7 j := fun j => hF2.a (ydj1_of s4 rfl) j
  have b8 : ∀ j, S2.a 8 j = S1.a 8 j := fun j => hF2.a (ydj1_of s4 rfl) j
  have hm := hM (FM_of h hs h3 f1 a49 a50 a51)
  have hcm := imC_M (t := t) (f := f) h hs h3 n20 f1 a44 a49 a50 a51
  rcases hC with ⟨rfl, c1, c2⟩ | ⟨rfl, c1, c2, c3⟩
  · rcases hm with ⟨m1, m2, m3⟩ | ⟨m1, m2, m3⟩
    · refine ⟨?_, m1⟩
      obtain ⟨hf, hu, ⟨r7, r8⟩, hb2⟩ := hs
      obtain ⟨⟨c7, c8⟩, c6⟩ := c2
      obtain ⟨m51, m50⟩ := m3
      have c9 : cIm S S2 t f := ⟨⟨fun j => by rw [b7]; exact c7 j, fun j => by rw [b8]; exact c8 j⟩, fun x => by rw [b6]; exact c6 x⟩
      obtain ⟨d1, d2, d3⟩ := RSC_impl hf hu hb2 a7 n20 c1 c9 (by rw [g0, f0]) (fun j => by rw [b2, a2]) (fun j => by rw [b5, a5])
      have et : (4 * t + S1.a 51 t.toNat).toNat = (t * 4 + S.a 7 t.toNat).toNat := by
        rw [a51, r7]
        exact congrArg Int.toNat (by omega)
      refine ⟨d1, d2, ⟨fun j => ?_, fun j => ?_⟩, d3⟩
      · rw [m51, b7, c7]
        by_cases e : j = t.toNat
        · rw [e, ysa_eq, ysa_eq, a51, r7]
        · rw [ysa_ne (Or.inr e), ysa_ne (Or.inr e), a51, r7]
      · rw [m50, b8, c8, et]
        by_cases e : j = (t * 4 + S.a 7 t.toNat).toNat
        · rw [e, ysa_eq, ysa_eq]
        · rw [ysa_ne (Or.inr e), ysa_ne (Or.inr e), a50, r8]
    · exact absurd (hcm.mp c1) m2
  · rcases hm with ⟨m1, m2, m3⟩ | ⟨m1, m2, m3⟩
    · exact absurd (hcm.mpr m2) c1
    · refine ⟨?_, m1⟩
      have e0 : S2.f 1 7 = S.f 1 7 := by rw [g0, f0]
      have e2 : S2.a 2 = S.a 2 := funext (fun j => by rw [b2, a2])
      have e5 : S2.a 5 = S.a 5 := funext (fun j => by rw [b5, a5])
      have e6 : S2.a 6 = S.a 6 := funext (fun j => by rw [b6, c3])
      have e7 : S2.a 7 = S.a 7 := funext (fun j => by rw [b7, c3])
      have e8 : S2.a 8 = S.a 8 := funext (fun j => by rw [b8, c3])
      have e50 : S2.a 50 = S.a 50 := funext (fun j => by rw [(m3 j).2, a50])
      have e51 : S2.a 51 = S.a 51 := funext (fun j => by rw [(m3 j).1, a51])
      unfold RS FC SU RF B2 rcC egC at hs ⊢
      rw [e0, e2, e5, e6, e7, e8, e50, e51]
      exact hs
/-! the question itself -/
theorem RS_sub {S S1 : yS} {t o z w : Int} (h : RT S) (hs : RS S) (h3 : ∀ j : Nat, S.a 49 j < j) (n20 : S.f 1 7 ≤ 20) (hz : z = 1 ↔ (0 ≤ t ∧ t < S.f 1 7 ∧ 0 ≤ o ∧ o < S.f 1 7 ∧ bt (S.a 6 t.toNat) o)) (hw : FM S1 → (w = 1 ↔ (0 ≤ t ∧ t < S1.f 43 1 ∧ 0 ≤ o ∧ o < S1.f 43 1 ∧ rcM S1 t o))) (e1 : S1.f 43 1 = S.f 43 1) (e49 : ∀ j, S1.a 49 j = S.a 49 j) (e50 : ∀ j, S1.a 50 j = S.a 50 j) (e51 : ∀ j, S1.a 51 j = S.a 51 j) : z = 1 ↔ w = 1 := by
  have hw := hw (FM_of h hs h3 e1 e49 e50 e51)
  have h7 := h.1
  rw [hz, hw, e1, ← h7]
  constructor
  · rintro ⟨a1, a2, a3, a4, a5⟩
    exact ⟨a1, a2, a3, a4, ((hs.2.1 t o a1 a2 a3 (by omega)).trans (rcC_M h hs h3 a1 a2 e1 e49 e50 e51)).mp a5⟩
  · rintro ⟨a1, a2, a3, a4, a5⟩
    exact ⟨a1, a2, a3, a4, ((hs.2.1 t o a1 a2 a3 (by omega)).trans (rcC_M h hs h3 a1 a2 e1 e49 e50 e51)).mpr a5⟩
theorem nf_0 {X : Int → Int} {f : Int} : ∀ i : Int, 0 ≤ i → i < 0 → X i ≠ f := fun i h1 h2 => absurd h1 (by omega)
theorem nf_s {S : yS} {b : Nat} {t f j : Int} (h : ∀ i : Int, 0 ≤ i → i < j → S.a b (4 * t + i).toNat ≠ f) (hj : S.a b (4 * t + j).toNat ≠ f) : ∀ i : Int, 0 ≤ i → i < j + 1 → S.a b (4 * t + i).toNat ≠ f := by
  intro i i0 i1
  by_cases e : i = j
  · rw [e]; exact hj
  · exact h i i0 (by omega)
/-- the other's first questions hold, and the first j interfaces are others -/
def imP (S : yS) (t f j : Int) : Prop := (3 < t ∧ t < S.f 43 1) ∧ (0 ≤ f ∧ f < S.f 43 1) ∧ S.a 44 f.toNat ≠ 0 ∧ S.a 51 t.toNat ≤ 3 ∧ ¬ rcM S f t ∧ (∀ i : Int, 0 ≤ i → i < j → S.a 50 (4 * t + i).toNat ≠ f)
theorem imP_s {S : yS} {t f j : Int} (h : imP S t f j) (hj : S.a 50 (4 * t + j).toNat ≠ f) : imP S t f (j + 1) := ⟨h.1, h.2.1, h.2.2.1, h.2.2.2.1, h.2.2.2.2.1, nf_s h.2.2.2.2.2 hj⟩
theorem imP_end {S : yS} {t f j : Int} (h : imP S t f j) (hj : S.a 51 t.toNat ≤ j) : imM S t f := ⟨h.1, h.2.1, h.2.2.1, h.2.2.2.1, h.2.2.2.2.1, fun i i0 i1 => h.2.2.2.2.2 i i0 (by omega)⟩
theorem mIm_of {S0 S : yS} {t f : Int} (h : sIm S0 S) : mIm S0 (ysa (ysa (ysf S 43 0 0) 50 (4 * t + S.a 51 t.toNat).toNat f) 51 t.toNat (S.a 51 t.toNat + 1)) t f := by
  refine ⟨fun j => ?_, fun j => ?_⟩
  · show (ysa S 51 t.toNat (S.a 51 t.toNat + 1)).a 51 j = _
    rw [(h t.toNat).1]
    by_cases e : j = t.toNat
    · rw [e, ysa_eq, ysa_eq]
    · rw [ysa_ne (Or.inr e), ysa_ne (Or.inr e), (h j).1]
  · show (ysa S 50 (4 * t + S.a 51 t.toNat).toNat f).a 50 j = _
    rw [(h t.toNat).1]
    by_cases e : j = (4 * t + S0.a 51 t.toNat).toNat
    · rw [e, ysa_eq, ysa_eq]
    · rw [ysa_ne (Or.inr e), ysa_ne (Or.inr e), (h j).2]
theorem sIm_set {S0 S : yS} {z : Int} (h : sIm S0 S) : sIm S0 (ysf S 43 0 z) := h

/-! what a method throws, on both sides -/
def RTh (S : yS) : Prop := ∀ j : Nat, S.a 58 j = S.a 15 j ∧ S.a 57 j = S.a 16 j
theorem RThx : yX [] [15, 16, 57, 58] RTh := by
  intro S S' hf ha h j
  rw [ha 15 rfl, ha 16 rfl, ha 57 rfl, ha 58 rfl]
  exact h j
def thC (S : yS) (m t : Int) : Prop := (4 ≤ m ∧ m < S.f 9 8) ∧ (0 ≤ t ∧ t < S.f 1 7) ∧ bt (S.a 6 t.toNat) 1 ∧ S.a 15 m.toNat ≤ 2 ∧ (∀ i : Int, 0 ≤ i → i < S.a 15 m.toNat → S.a 16 (3 * m + i).toNat ≠ t)
def thM (S : yS) (m t : Int) : Prop := (3 < m ∧ m < S.f 43 10) ∧ (0 ≤ t ∧ t < S.f 43 1) ∧ rcM S t 1 ∧ S.a 58 m.toNat ≤ 2 ∧ (∀ i : Int, 0 ≤ i → i < S.a 58 m.toNat → S.a 57 (3 * m + i).toNat ≠ t)
def cTh (S S1 : yS) (m t : Int) : Prop := (∀ j, S1.a 15 j = (ysa S 15 m.toNat (S.a 15 m.toNat + 1)).a 15 j) ∧ (∀ j, S1.a 16 j = (ysa S 16 (m * 3 + S.a 15 m.toNat).toNat t).a 16 j)
def mTh (S S1 : yS) (m t : Int) : Prop := (∀ j, S1.a 58 j = (ysa S 58 m.toNat (S.a 58 m.toNat + 1)).a 58 j) ∧ (∀ j, S1.a 57 j = (ysa S 57 (3 * m + S.a 58 m.toNat).toNat t).a 57 j)
def sTh (S S1 : yS) : Prop := ∀ j, S1.a 58 j = S.a 58 j ∧ S1.a 57 j = S.a 57 j
def mThQ (S S1 : yS) (m t : Int) : Prop := FM S → (S1.f 43 0 = 0 ∧ thM S m t ∧ mTh S S1 m t) ∨ (S1.f 43 0 = 1 ∧ ¬ thM S m t ∧ sTh S S1)
def hTh (S S1 : yS) (m t z : Int) : Prop := (z = 0 ∧ thC S m t ∧ cTh S S1 m t) ∨ (z = 1 ∧ ¬ thC S m t ∧ S1.f = S.f ∧ S1.a = S.a)
theorem n3_0 {X : Int → Int} {f : Int} : ∀ i : Int, 0 ≤ i → i < 0 → X i ≠ f := fun i h1 h2 => absurd h1 (by omega)
theorem n3_s {S : yS} {b : Nat} {t f j : Int} (h : ∀ i : Int, 0 ≤ i → i < j → S.a b (3 * t + i).toNat ≠ f) (hj : S.a b (3 * t + j).toNat ≠ f) : ∀ i : Int, 0 ≤ i → i < j + 1 → S.a b (3 * t + i).toNat ≠ f := by
  intro i i0 i1
  by_cases e : i = j
  · rw [e]; exact hj
  · exact h i i0 (by omega)
def thP (S : yS) (m t j : Int) : Prop := (3 < m ∧ m < S.f 43 10) ∧ (0 ≤ t ∧ t < S.f 43 1) ∧ rcM S t 1 ∧ S.a 58 m.toNat ≤ 2 ∧ (∀ i : Int, 0 ≤ i → i < j → S.a 57 (3 * m + i).toNat ≠ t)
theorem thP_s {S : yS} {m t j : Int} (h : thP S m t j) (hj : S.a 57 (3 * m + j).toNat ≠ t) : thP S m t (j + 1) := ⟨h.1, h.2.1, h.2.2.1, h.2.2.2.1, n3_s h.2.2.2.2 hj⟩
theorem thP_end {S : yS} {m t j : Int} (h : thP S m t j) (hj : S.a 58 m.toNat ≤ j) : thM S m t := ⟨h.1, h.2.1, h.2.2.1, h.2.2.2.1, fun i i0 i1 => h.2.2.2.2 i i0 (by omega)⟩
theorem mTh_of {S0 S : yS} {m t : Int} (h : sTh S0 S) : mTh S0 (ysa (ysa (ysf S 43 0 0) 57 (3 * m + S.a 58 m.toNat).toNat t) 58 m.toNat (S.a 58 m.toNat + 1)) m t := by
  refine ⟨fun j => ?_, fun j => ?_⟩
  · show (ysa S 58 m.toNat (S.a 58 m.toNat + 1)).a 58 j = _
    rw [(h m.toNat).1]
    by_cases e : j = m.toNat
    · rw [e, ysa_eq, ysa_eq]
    · rw [ysa_ne (Or.inr e), ysa_ne (Or.inr e), (h j).1]
  · show (ysa S 57 (3 * m + S.a 58 m.toNat).toNat t).a 57 j = _
    rw [(h m.toNat).1]
    by_cases e : j = (3 * m + S0.a 58 m.toNat).toNat
    · rw [e, ysa_eq, ysa_eq]
    · rw [ysa_ne (Or.inr e), ysa_ne (Or.inr e), (h j).2]
theorem RTh_thr {S S1 S2 : yS} {m t k : Int} {MF1 MF2 : List (Nat × Nat)} {MA1 MA2 : List Nat} (h : RT S) (hs : RS S) (hme : RMe S) (ht : RTh S) (h3 : ∀ j : Nat, S.a 49 j < j) (hC : hTh S S1 m t k) (hF1 : yFr MF1 MA1 S S1) (s1 : ydj2 [(43, 1), (43, 10)] MF1 = true) (s2 : ydj1 [49, 50, 51, 57, 58] MA1 = true) (hM : mThQ S1 S2 m t) (hF2 : yFr MF2 MA2 S1 S2) (s4 : ydj1 [15, 16] MA2 = true) : RTh S2 ∧ S2.f 43 0 = k := by
  have f1 : S1.f 43 1 = S.f 43 1 := hF1.f (ydj2_of s1 rfl)
  have f10 : S1.f 43 10 = S.f 43 10 := hF1.f (ydj2_of s1 rfl)
  have a49 : ∀ j, S1.a 49 j = S.a 49 j := fun j => hF1.a (ydj1_of s2 rfl) j
  have a50 : ∀ j, S1.a 50 j = S.a 50 j := fun j => hF1.a (ydj1_of s2 rfl) j
  have a51 : ∀ j, S1.a 51 j = S.a 51 j := fun j => hF1.a (ydj1_of s2 rfl) j
  have a57 : ∀ j, S1.a 57 j = S.a 57 j := fun j => hF1.a (ydj1_of s2 rfl) j
  have a58 : ∀ j, S1.a 58 j = S.a 58 j := fun j => hF1.a (ydj1_of s2 rfl) j
  have b15 : ∀ j, S2.a 15 j = S1.a 15 j := fun j => hF2.a (ydj1_of s4 rfl) j
  have b16 : ∀ j, S2.a 16 j = S1.a 16 j := fun j => hF2.a (ydj1_of s4 rfl) j
  have hm := hM (FM_of h hs h3 f1 a49 a50 a51)
  have hcm : thC S m t ↔ thM S1 m t := by
    have hrc : 0 ≤ t → t < S.f 1 7 → (bt (S.a 6 t.toNat) 1 ↔ rcM S1 t 1) := fun a b => (hs.2.1 t 1 a b (by decide) (by decide)).trans (rcC_M h hs h3 a b f1 a49 a50 a51)
    unfold thC thM
    rw [f1, f10, ← h.1, ← hme.1, a58, (ht m.toNat).1]
    constructor
    · rintro ⟨c1, c2, c3, c4, c5⟩
      exact ⟨⟨by omega, c1.2⟩, c2, (hrc c2.1 c2.2).mp c3, c4, fun i i0 i1 => by rw [a57, (ht _).2]; exact c5 i i0 i1⟩
    · rintro ⟨c1, c2, c3, c4, c5⟩
      refine ⟨⟨by omega, c1.2⟩, c2, (hrc c2.1 c2.2).mpr c3, c4, fun i i0 i1 => ?_⟩
      have := c5 i i0 i1
      rw [a57, (ht _).2] at this
      exact this
  rcases hC with ⟨rfl, c1, c2⟩ | ⟨rfl, c1, c2, c3⟩
  · rcases hm with ⟨m1, m2, m3⟩ | ⟨m1, m2, m3⟩
    · refine ⟨fun j => ?_, m1⟩
      obtain ⟨c7, c8⟩ := c2
      obtain ⟨m58, m57⟩ := m3
      have et : (3 * m + S1.a 58 m.toNat).toNat = (m * 3 + S.a 15 m.toNat).toNat := by
        rw [a58, (ht m.toNat).1]
        exact congrArg Int.toNat (by omega)
      refine ⟨?_, ?_⟩
      · rw [m58, b15, c7]
        by_cases e : j = m.toNat
        · rw [e, ysa_eq, ysa_eq, a58, (ht m.toNat).1]
        · rw [ysa_ne (Or.inr e), ysa_ne (Or.inr e), a58, (ht j).1]
      · rw [m57, b16, c8, et]
        by_cases e : j = (m * 3 + S.a 15 m.toNat).toNat
        · rw [e, ysa_eq, ysa_eq]
        · rw [ysa_ne (Or.inr e), ysa_ne (Or.inr e), a57, (ht j).2]
    · exact absurd (hcm.mp c1) m2
  · rcases hm with ⟨m1, m2, m3⟩ | ⟨m1, m2, m3⟩
    · exact absurd (hcm.mpr m2) c1
    · refine ⟨fun j => ?_, m1⟩
      rw [(m3 j).1, (m3 j).2, b15, b16, c3]
      exact ht j

end XNC
