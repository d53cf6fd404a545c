set_option linter.unusedVariables false
noncomputable section XNC
section
variable {P : xP} {G : xk} {ly : List yc} {C i i1 : Nat} {L L1 : List (Option xv)} {st st1 : List xv} {S S1 : yS} {d : Nat} {Q : Nat × xv → yS → Prop}
/-! longs -/
theorem enl_add (x y : Int) : (enl x + enl y) % 18446744073709551616 = enl (x + y) := by unfold enl; omega
theorem enl_mul (x y : Int) : enl x * enl y % 18446744073709551616 = enl (x * y) := by
  unfold enl
  have hx : 0 ≤ x % 18446744073709551616 := Int.emod_nonneg _ (by decide)
  have hy : 0 ≤ y % 18446744073709551616 := Int.emod_nonneg _ (by decide)
  apply Int.ofNat_inj.mp
  have h0 : 0 ≤ (x * y) % 18446744073709551616 := Int.emod_nonneg _ (by decide)
  rw [Int.natCast_emod, Int.natCast_mul, Int.toNat_of_nonneg hx, Int.toNat_of_nonneg hy, Int.toNat_of_nonneg h0]
  exact (Int.mul_emod x y 18446744073709551616).symm
theorem ylbin {u : Nat} {x y q : xv} (h : yq C i 23 u 0 0 = true) (hu : u ≤ 5) (hz : ∀ (α : Type) (f : xv → Option α), xlb G u x y f = f q) (k : yT P G ly C (i + 1) L (q :: st) S d Q) : yT P G ly C i L (y :: x :: st) S d Q := by
  obtain ⟨h1, h2, h3, h4⟩ := yq_of h
  refine yT_same (fun hp lv ih _ _ => ?_) k
  rw [xstep_eq, h1, xdisp_23]
  have e : u = 0 ∨ u = 1 ∨ u = 2 ∨ u = 3 ∨ u = 4 ∨ u = 5 := by omega
  rcases e with rfl | rfl | rfl | rfl | rfl | rfl <;> (simp only [xh23, xf_eq, h2, hz])
def dcl (n : Nat) : Int := if n < 9223372036854775808 then (n : Int) else (n : Int) - 18446744073709551616
theorem enl_dcl {n : Nat} (h : n < 18446744073709551616) : enl (dcl n) = n := by unfold enl dcl; split <;> omega
theorem dcl_rl {n : Nat} (h : n < 18446744073709551616) : Rl (dcl n) := by unfold Rl dcl; split <;> omega
def yland (x y : Int) : Int := dcl (Nat.land (enl x) (enl y))
def ylor (x y : Int) : Int := dcl (Nat.lor (enl x) (enl y))
theorem yland_lt (x y : Int) : Nat.land (enl x) (enl y) < 18446744073709551616 := Nat.lt_of_le_of_lt Nat.and_le_left (enl_lt x)
theorem ylor_lt (x y : Int) : Nat.lor (enl x) (enl y) < 18446744073709551616 := Nat.or_lt_two_pow (n := 64) (enl_lt x) (enl_lt y)
theorem yland_rl (x y : Int) : Rl (yland x y) := dcl_rl (yland_lt x y)
theorem ylor_rl (x y : Int) : Rl (ylor x y) := dcl_rl (ylor_lt x y)
theorem yland_c {x y : Int} (h : 0 ≤ y) (h2 : y < 9223372036854775808) : 0 ≤ yland x y ∧ yland x y ≤ y := by
  have h3 : Nat.land (enl x) (enl y) ≤ enl y := Nat.and_le_right
  have h4 : (enl y : Int) = y := by unfold enl; omega
  unfold yland dcl
  split <;> omega
theorem r_land {x y : Int} (h : yq C i 23 0 0 0 = true) (k : yT P G ly C (i + 1) L (vl (yland x y) :: st) S d Q) : yT P G ly C i L (vl y :: vl x :: st) S d Q := by
  refine ylbin h (by decide) (fun α f => ?_) k
  show xpv 1 (Nat.land (enl x) (enl y)) f = _
  simp only [xpv, xf_eq, vl, yland, enl_dcl (yland_lt x y)]
theorem r_lor {x y : Int} (h : yq C i 23 2 0 0 = true) (k : yT P G ly C (i + 1) L (vl (ylor x y) :: st) S d Q) : yT P G ly C i L (vl y :: vl x :: st) S d Q := by
  refine ylbin h (by decide) (fun α f => ?_) k
  show xpv 1 (Nat.lor (enl x) (enl y)) f = _
  simp only [xpv, xf_eq, vl, ylor, enl_dcl (ylor_lt x y)]
theorem r_ladd {x y : Int} (h : yq C i 23 3 0 0 = true) (k : yT P G ly C (i + 1) L (vl (x + y) :: st) S d Q) : yT P G ly C i L (vl y :: vl x :: st) S d Q := by
  refine ylbin h (by decide) (fun α f => ?_) k
  show xpv 1 ((enl x + enl y) % xL) f = _
  simp only [xpv, xf_eq, vl, xL, enl_add]
theorem r_lmul {x y : Int} (h : yq C i 23 4 0 0 = true) (k : yT P G ly C (i + 1) L (vl (x * y) :: st) S d Q) : yT P G ly C i L (vl y :: vl x :: st) S d Q := by
  refine ylbin h (by decide) (fun α f => ?_) k
  show xpv 1 (enl x * enl y % xL) f = _
  simp only [xpv, xf_eq, vl, xL, enl_mul]
theorem enl_sub' (x y : Int) : (enl x + (xL - enl y % xL)) % xL = enl (x - y) := by
  have hL : xL = 18446744073709551616 := rfl
  rw [hL]; unfold enl; omega
theorem xlb_5 {α : Type} (a b : Nat) (f : xv → Option α) : xlb G 5 (1, a) (1, b) f = f (1, (a + (xL - b % xL)) % xL) := by
  unfold xlb
  unfold xpv
  exact xf_eq _ _
theorem r_lsub {x y : Int} (h : yq C i 23 5 0 0 = true) (k : yT P G ly C (i + 1) L (vl (x - y) :: st) S d Q) : yT P G ly C i L (vl y :: vl x :: st) S d Q := by
  refine ylbin h (by decide) (fun α f => ?_) k
  unfold vl
  rw [xlb_5, enl_sub']
theorem xlb_1 {α : Type} (a : Nat) (f : xv → Option α) : xlb G 1 (1, a) (0, 32) f = f (1, a * 4294967296 % xL) := by
  unfold xlb
  unfold xpv
  simp only [ybeqT, cond_true, xf_eq]
theorem enl_32 (x : Int) : enl x * 4294967296 % xL = enl (x * 4294967296) := by
  have hL : xL = 18446744073709551616 := rfl
  rw [hL]; unfold enl; omega
theorem r_lshl {x : Int} (h : yq C i 23 1 0 0 = true) (k : yT P G ly C (i + 1) L (vl (x * 4294967296) :: st) S d Q) : yT P G ly C i L (vi 32 :: vl x :: st) S d Q := by
  refine ylbin h (by decide) (fun α f => ?_) k
  have e : enc 32 = 32 := by unfold enc; omega
  unfold vl vi
  rw [e, xlb_1, enl_32]
/-- a long that is no long: the one that it stands for -/
def ysl (z : Int) : Int := (z + 9223372036854775808) % 18446744073709551616 - 9223372036854775808
theorem ysl_rl (z : Int) : Rl (ysl z) := by unfold Rl ysl; omega
theorem vl_sl (z : Int) : vl z = vl (ysl z) := by unfold vl enl ysl; congr 1; omega
theorem xlv_vl (z : Int) : xlv G (vl z) = some (xbl (enl z), xbl (enl z)) := by simp only [xlv, vl, xf_eq]
theorem xh23_9 {R r : Nat} {ih : xrec} {lv : xl} {hp : xh} {bc bs : Nat} {x y : xv} {p q : Nat} (h2 : xru R = 9) (e1 : xlv G x = some (p, p)) (e2 : xlv G y = some (q, q)) :
    (p < q → xh23 P G ih C R r lv (y :: x :: st) hp bc bs d = ih C r lv ((0, 4294967295) :: st) hp bc bs d) ∧ (q < p → xh23 P G ih C R r lv (y :: x :: st) hp bc bs d = ih C r lv ((0, 1) :: st) hp bc bs d) ∧ (p = q → xh23 P G ih C R r lv (y :: x :: st) hp bc bs d = ih C r lv ((0, 0) :: st) hp bc bs d) := by
  refine ⟨fun h => ?_, fun h => ?_, fun h => ?_⟩
  · simp only [xh23, xf_eq, h2, e1, e2, yblt h, cond_true]
  · simp only [xh23, xf_eq, h2, e1, e2, ybltF (Nat.le_of_lt h), yblt h, cond_true, cond_false]
  · subst h
    simp only [xh23, xf_eq, h2, e1, e2, ybltF (Nat.le_refl p), cond_false, ybeqT, Bool.and_true, cond_true]
theorem r_lcmp {x y : Int} (h : yq C i 23 9 0 0 = true) (hx : Rl x) (hy : Rl y) (k1 : x < y → yT P G ly C (i + 1) L (vi (-1) :: st) S d Q) (k2 : x = y → yT P G ly C (i + 1) L (vi 0 :: st) S d Q) (k3 : x > y → yT P G ly C (i + 1) L (vi 1 :: st) S d Q) : yT P G ly C i L (vl y :: vl x :: st) S d Q := by
  obtain ⟨h1, h2, h3, h4⟩ := yq_of h
  have ex := xbl_enl hx
  have ey := xbl_enl hy
  rcases Int.lt_trichotomy x y with hc | hc | hc
  · refine yT_same (fun hp lv ih _ _ => ?_) (k1 hc)
    rw [xstep_eq, h1, xdisp_23]
    exact (xh23_9 h2 (xlv_vl x) (xlv_vl y)).1 (by omega)
  · refine yT_same (fun hp lv ih _ _ => ?_) (k2 hc)
    rw [xstep_eq, h1, xdisp_23]
    exact (xh23_9 h2 (xlv_vl x) (xlv_vl y)).2.2 (by omega)
  · refine yT_same (fun hp lv ih _ _ => ?_) (k3 hc)
    rw [xstep_eq, h1, xdisp_23]
    exact (xh23_9 h2 (xlv_vl x) (xlv_vl y)).2.1 (by omega)
theorem r_laload {b n : Nat} {z : Int} (h : yq C i 14 11 0 0 = true) (hb : ly[b]? = some (.a 11 n)) (hn : n < 1048576) (h0 : 0 ≤ z) (hz : z < n) (k : Rl (S.a b z.toNat) → yT P G ly C (i + 1) L (vl (S.a b z.toNat) :: st) S d Q) : yT P G ly C i L (vi z :: (2, b) :: st) S d Q := by
  obtain ⟨h1, h2, h3, h4⟩ := yq_of h
  have ez : enc z = z.toNat := by have := enc_nat h0 (by omega : z < 4294967296); omega
  intro hp lv hr hl
  obtain ⟨N, e1, e2⟩ := hr.1 b _ hb
  refine yT_same (fun hp lv ih hr hl => ?_) (k (e2 z.toNat (by omega)).2) hp lv hr hl
  obtain ⟨N, e1, e2⟩ := hr.1 b _ hb
  have e3 := (e2 z.toNat (by omega)).1
  rw [xstep_eq, h1, xdisp_14]
  simp only [xh14, xf_eq, h2, vi, xnth_eq', e1, ez, ybeqT, yblt (show z.toNat < n by omega), yblt hn, Bool.and_true, cond_true, xpv, vl]
  simp only [ywid, yen] at e3
  simp only [show Nat.beq 11 11 = true from rfl, cond_true] at e3
  rw [e3]
/-! strings, the script, words -/
theorem r_str {v : Nat} (h : yq C i 21 0 v 0 = true) (k : yT P G ly C (i + 1) L ((6, v) :: st) S d Q) : yT P G ly C i L st S d Q := by
  obtain ⟨h1, h2, h3, h4⟩ := yq_of h
  refine yT_same (fun hp lv ih _ _ => ?_) k
  rw [xstep_eq, h1, xdisp_21]
  simp only [xh21, xf_eq, h3]
theorem r_word {v w : Nat} (h : yq C i 20 0 v w = true) (k : yT P G ly C (i + 1) L ((v, w) :: st) S d Q) : yT P G ly C i L st S d Q := by
  obtain ⟨h1, h2, h3, h4⟩ := yq_of h
  refine yT_same (fun hp lv ih _ _ => ?_) k
  rw [xstep_eq, h1, xdisp_20]
  simp only [xh20, xf_eq, h3, h4]
theorem r_strV {a : Nat} {l : List xv} (h : yq C i 10 0 0 100 = true) (ha : 1 ≤ a) (hl : P.2.1[a]? = some l) (k : yT P G ly C (i + 1) L ((7, a) :: st) S d Q) : yT P G ly C i L ((6, a) :: st) S d Q := by
  obtain ⟨h1, h2, h3, h4⟩ := yq_of h
  refine yT_same (fun hp lv ih _ _ => ?_) k
  rw [xstep_eq, h1, xdisp_10]
  simp only [xh10, xf_eq, h3, h4, xnth_eq', hl, yble ha, ybeqT, Bool.and_true, cond_true]
theorem r_strC {a : Nat} {l : List xv} (h : yq C i 10 0 1 100 = true) (ha : 1 ≤ a) (hl : P.2.1[a]? = some l) (k : yT P G ly C (i + 1) L (vi 0 :: st) S d Q) : yT P G ly C i L ((6, a) :: st) S d Q := by
  obtain ⟨h1, h2, h3, h4⟩ := yq_of h
  refine yT_same (fun hp lv ih _ _ => ?_) k
  rw [xstep_eq, h1, xdisp_10]
  simp only [xh10, xf_eq, h3, h4, xnth_eq', hl, yble ha, ybeqT, Bool.and_true, cond_true]
  rfl
theorem r_strN {a : Nat} {l : List xv} (h : yq C i 16 0 0 0 = true) (ha : 1 ≤ a) (hl : P.2.1[a]? = some l) (hn : l.length < 65536) (k : yT P G ly C (i + 1) L (vi l.length :: st) S d Q) : yT P G ly C i L ((7, a) :: st) S d Q := by
  obtain ⟨h1, h2, h3, h4⟩ := yq_of h
  refine yT_same (fun hp lv ih _ _ => ?_) k
  have e : enc (l.length : Int) = l.length := by unfold enc; omega
  rw [xstep_eq, h1, xdisp_16]
  simp only [xh16, xf_eq, xnth_eq', hl, yble ha, cond_true, xpv, vi, e]
theorem r_strA {a : Nat} {l : List xv} {z q : Int} (h : yq C i 14 8 0 0 = true) (ha : 1 ≤ a) (hl : P.2.1[a]? = some l) (h0 : 0 ≤ z) (hz : z < 65536) (hq : l[z.toNat]? = some (vi q)) (k : yT P G ly C (i + 1) L (vi q :: st) S d Q) : yT P G ly C i L (vi z :: (7, a) :: st) S d Q := by
  obtain ⟨h1, h2, h3, h4⟩ := yq_of h
  have ez : enc z = z.toNat := by have := enc_nat h0 (by omega : z < 4294967296); omega
  refine yT_same (fun hp lv ih _ _ => ?_) k
  rw [xstep_eq, h1, xdisp_14]
  unfold vi at hq ⊢
  simp only [xh14, xf_eq, h2, xnth_eq', hl, ez, hq, yble ha, ybeqT, Bool.and_true, cond_true]
/-- the script -/
def ySc (G : xk) (n : Nat) (sc : Nat → Int) : Prop := (G.1.1 = 32 ∧ G.1.2 = n) ∧ n < 65536 ∧ ∀ j, j < n → Rg (sc j) ∧ ∃ b : Nat, (b : Int) = sc j + 2147483648 ∧ G.2.1[j]? = some (b, b)
theorem r_scN {n : Nat} {sc : Nat → Int} (hG : ySc G n sc) (h : yq C i 16 0 0 0 = true) (k : yT P G ly C (i + 1) L (vi n :: st) S d Q) : yT P G ly C i L ((6, 0) :: st) S d Q := by
  obtain ⟨h1, h2, h3, h4⟩ := yq_of h
  refine yT_same (fun hp lv ih _ _ => ?_) k
  have hn := hG.2.1
  have e : enc (n : Int) = n := by unfold enc; omega
  rw [xstep_eq, h1, xdisp_16]
  simp only [xh16, hG.1.1, hG.1.2, vi, e]
  rfl
theorem r_scA {n : Nat} {sc : Nat → Int} {z : Int} (hG : ySc G n sc) (h : yq C i 14 10 0 0 = true) (h0 : 0 ≤ z) (hz : z < n) (k : Rg (sc z.toNat) → yT P G ly C (i + 1) L (vi (sc z.toNat) :: st) S d Q) : yT P G ly C i L (vi z :: (6, 0) :: st) S d Q := by
  obtain ⟨h1, h2, h3, h4⟩ := yq_of h
  have hn := hG.2.1
  have ez : enc z = z.toNat := by have := enc_nat h0 (by omega : z < 4294967296); omega
  obtain ⟨hr, b, eb, e2⟩ := hG.2.2 z.toNat (by omega)
  refine yT_same (fun hp lv ih _ _ => ?_) (k hr)
  have e3 : (b + 2147483648) % xM = enc (sc z.toNat) := by unfold Rg at hr; unfold enc xM; omega
  rw [xstep_eq, h1, xdisp_14]
  simp only [xh14, xf_eq, h2, vi, ez, hG.1.2, yblt (show z.toNat < n by omega), ybeqT, Bool.and_true, cond_true, xld, xnth_eq', e2, xpv, e3]
theorem r_switch {u v : Nat} {z : Int} {l : List Nat} (h : yq C i 26 u v 0 = true) (hl : P.2.2.1[u]? = some l) (h0 : 0 ≤ z) (hz : z < 65536) (k : yT P G ly C ((l[z.toNat]?).getD v) L st S d Q) : yT P G ly C i L (vi z :: st) S d Q := by
  obtain ⟨h1, h2, h3, h4⟩ := yq_of h
  have ez : enc z = z.toNat := by have := enc_nat h0 (by omega : z < 4294967296); omega
  refine yT_same (fun hp lv ih _ _ => ?_) k
  rw [xstep_eq, h1, xdisp_26]
  simp only [xh26, xf_eq, h2, h3, vi, ez, xnth_eq', hl]
  cases hq : l[z.toNat]? with
  | none => simp only [Option.getD_none, yblt (show z.toNat < 65536 by omega), cond_true]
  | some t => rfl
/-! rows that grow -/
theorem r_galoadI {k : Nat} {z : Int} (h : yq C i 14 (yG S k) 0 0 = true) (hk : yact S k) (hu : yG S k = 10 ∨ yG S k = 8) (h0 : 0 ≤ z) (hz : z < S.n k) (kk : yer (yG S k) (S.a (100 + k) z.toNat) → yT P G ly C (i + 1) L (vi (S.a (100 + k) z.toNat) :: st) S d Q) : yT P G ly C i L (vi z :: (2, S.p k) :: st) S d Q := by
  obtain ⟨h1, h2, h3, h4⟩ := yq_of h
  intro hp lv hr hl
  obtain ⟨⟨N, e1, e2⟩, -, hn⟩ := hr.2.1 k hk
  have ez : enc z = z.toNat := by have := enc_nat h0 (by omega : z < 4294967296); omega
  refine yT_same (fun hp lv ih hr hl => ?_) (kk (e2 z.toNat (by omega)).2) hp lv hr hl
  obtain ⟨⟨N, e1, e2⟩, -, hn⟩ := hr.2.1 k hk
  have e3 := (e2 z.toNat (by omega)).1
  rw [xstep_eq, h1, xdisp_14]
  generalize hgk : yG S k = u at *
  simp only [xh14, xf_eq, h2, vi, xnth_eq', e1, ez, ybeqT, yblt (show z.toNat < S.n k by omega), yblt hn, Bool.and_true, cond_true, xpv]
  rcases hu with rfl | rfl
  · simp only [ywid, yen] at e3
    simp only [show Nat.beq 10 11 = false from rfl, cond_false] at e3
    rw [e3]
    rfl
  · simp only [ywid, yen] at e3
    simp only [show Nat.beq 8 11 = false from rfl, cond_false] at e3
    rw [e3]
    rfl
theorem r_glen {k : Nat} (h : yq C i 16 0 0 0 = true) (hk : yact S k) (hu : yG S k = 10 ∨ yG S k = 8) (kk : S.n k < 1048576 → yT P G ly C (i + 1) L (vi (S.n k) :: st) S d Q) : yT P G ly C i L ((2, S.p k) :: st) S d Q := by
  obtain ⟨h1, h2, h3, h4⟩ := yq_of h
  intro hp lv hr hl
  obtain ⟨⟨N, e1, e2⟩, -, hn⟩ := hr.2.1 k hk
  refine yT_same (fun hp lv ih hr hl => ?_) (kk hn) hp lv hr hl
  obtain ⟨⟨N, e1, e2⟩, -, hn⟩ := hr.2.1 k hk
  have e : enc (S.n k : Int) = S.n k := by unfold enc; omega
  rw [xstep_eq, h1, xdisp_16]
  simp only [xh16, xnth_eq', e1, vi, e]
  rcases hu with hu | hu <;> (rw [hu]; rfl)
end
end XNC
