set_option linter.unusedVariables false
noncomputable section XNC
theorem ysg_fact (z : Int) : (-2147483648 ≤ ysg z ∧ ysg z < 2147483648) ∧ (-2147483648 ≤ z ∧ z < 2147483648 → ysg z = z) := by
  unfold ysg; omega
theorem yand_msk {n : Nat} (hn : n ≤ 31) {x : Int} (h0 : 0 ≤ x) (h1 : x < 2 ^ n) (c : Int) (hc : c = 2 ^ n - 1) : yand x c = x := by
  have hp : (2 : Nat) ^ n ≤ 2 ^ 31 := Nat.pow_le_pow_right (by decide) hn
  have hpi : ((2 : Int) ^ n) = (((2 : Nat) ^ n : Nat) : Int) := by simp
  have hpos : 1 ≤ (2 : Nat) ^ n := Nat.one_le_two_pow
  have e1 : (enc x : Int) = x := enc_nat h0 (by omega)
  have e2 : enc c = 2 ^ n - 1 := by
    have := enc_nat (z := c) (by omega) (by omega)
    omega
  have h3 : Nat.land (enc x) (enc c) = enc x := by
    rw [e2]
    show enc x &&& (2 ^ n - 1) = enc x
    rw [Nat.and_two_pow_sub_one_eq_mod]
    exact Nat.mod_eq_of_lt (by omega)
  unfold yand dec
  rw [h3]
  split <;> omega
theorem yand_255 (x : Int) : 0 ≤ x ∧ x ≤ 255 → yand x 255 = x := fun h => yand_msk (n := 8) (by decide) h.1 (by omega) _ (by decide)
theorem yshr_0 (x : Int) (h0 : 0 ≤ x) (h1 : x < 2147483648) : yshr x 0 = x := by
  have e1 : (enc x : Int) = x := enc_nat h0 (by omega)
  have e0 : enc 0 = 0 := rfl
  unfold yshr dec
  rw [e0]
  show (if enc x >>> 0 < _ then ((enc x >>> 0 : Nat) : Int) else _) = x
  rw [Nat.shiftRight_zero]
  split <;> omega
/-! strings -/
abbrev yStr (k : Nat) : Prop := 1 ≤ k ∧ k ≤ 72
def slen (k : Nat) : Int := (((xPr.2.1[k]?).getD []).length : Nat)
def ychk (l : List xv) : Bool := Nat.ble l.length 58 && l.all (fun c => Nat.beq c.1 0 && (Nat.ble 1 c.2 && Nat.ble c.2 127))
theorem ychk_all : ((List.range 73).all fun k => Nat.beq k 0 || (match xnth xPr.2.1 k with
  | some l => ychk l
  | none => false)) = true := by decide +kernel
theorem str_of {k : Nat} (h : yStr k) : ∃ l, xPr.2.1[k]? = some l ∧ ychk l = true := by
  have h1 := List.all_eq_true.mp ychk_all k (List.mem_range.mpr (by omega))
  rw [Bool.or_eq_true] at h1
  rcases h1 with h1 | h1
  · have := Nat.eq_of_beq_eq_true h1; omega
  · rw [xnth_eq'] at h1
    cases hl : xPr.2.1[k]? with
    | none => rw [hl] at h1; cases h1
    | some l => rw [hl] at h1; exact ⟨l, rfl, h1⟩
theorem slen_le {k : Nat} (h : yStr k) : 0 ≤ slen k ∧ slen k ≤ 58 := by
  obtain ⟨l, e1, e2⟩ := str_of h
  unfold ychk at e2
  rw [Bool.and_eq_true] at e2
  have := Nat.le_of_ble_eq_true e2.1
  unfold slen
  rw [e1, Option.getD_some]
  omega
section
variable {G : xk} {ly : List yc} {C i : Nat} {L : List (Option xv)} {st : List xv} {S : yS} {d : Nat} {Q : Nat × xv → yS → Prop}
theorem s_val {k : Nat} (h : yq C i 10 0 0 100 = true) (hs : yStr k) (kk : yT xPr G ly C (i + 1) L ((7, k) :: st) S d Q) : yT xPr G ly C i L ((6, k) :: st) S d Q := by
  obtain ⟨l, e1, e2⟩ := str_of hs
  exact r_strV h hs.1 e1 kk
theorem s_cod {k : Nat} (h : yq C i 10 0 1 100 = true) (hs : yStr k) (kk : yT xPr G ly C (i + 1) L (vi 0 :: st) S d Q) : yT xPr G ly C i L ((6, k) :: st) S d Q := by
  obtain ⟨l, e1, e2⟩ := str_of hs
  exact r_strC h hs.1 e1 kk
theorem s_len {k : Nat} (h : yq C i 16 0 0 0 = true) (hs : yStr k) (kk : yT xPr G ly C (i + 1) L (vi (slen k) :: st) S d Q) : yT xPr G ly C i L ((7, k) :: st) S d Q := by
  obtain ⟨l, e1, e2⟩ := str_of hs
  have h3 := slen_le hs
  have e : slen k = (l.length : Int) := by unfold slen; rw [e1, Option.getD_some]
  rw [e] at kk h3
  exact r_strN h hs.1 e1 (by omega) kk
theorem s_chr {k : Nat} {z : Int} (h : yq C i 14 8 0 0 = true) (hs : yStr k) (h0 : 0 ≤ z) (hz : z < slen k) (kk : ∀ q : Int, 1 ≤ q → q ≤ 127 → ((xPr.2.1[k]?).getD [])[z.toNat]? = some (vi q) → yT xPr G ly C (i + 1) L (vi q :: st) S d Q) : yT xPr G ly C i L (vi z :: (7, k) :: st) S d Q := by
  obtain ⟨l, e1, e2⟩ := str_of hs
  have h3 := slen_le hs
  have e : slen k = (l.length : Int) := by unfold slen; rw [e1, Option.getD_some]
  have hlt : z.toNat < l.length := by omega
  unfold ychk at e2
  rw [Bool.and_eq_true, List.all_eq_true] at e2
  have h4 := e2.2 l[z.toNat] (List.getElem_mem hlt)
  rw [Bool.and_eq_true, Bool.and_eq_true] at h4
  have a1 := Nat.eq_of_beq_eq_true h4.1
  have a2 := Nat.le_of_ble_eq_true h4.2.1
  have a3 := Nat.le_of_ble_eq_true h4.2.2
  have e5 : l[z.toNat]? = some (vi (l[z.toNat].2 : Int)) := by
    rw [List.getElem?_eq_getElem hlt]
    congr 1
    unfold vi enc
    apply Prod.ext
    · exact a1
    · show _ = (((l[z.toNat].2 : Nat) : Int) % 4294967296).toNat
      omega
  refine r_strA h hs.1 e1 h0 (by omega) e5 (kk _ (by omega) (by omega) ?_)
  rw [e1, Option.getD_some]
  exact e5
theorem yrcv_str {ly : List yc} {k : Nat} {r : List xv} (h : yStr k) : yrcv xPr ly 0 (100 % 65536) ((6, k) :: r) = true := by
  obtain ⟨l, e1, e2⟩ := str_of h
  show (Nat.beq (100 % 65536) 100 && (Nat.ble 1 k && (match xnth xPr.2.1 k with
      | some _ => true
      | none => false))) = true
  rw [xnth_eq', e1, yble h.1]
  rfl
theorem r_wordI {w : Nat} {z : Int} (h : yq C i 20 0 0 w = true) (hz : enc z = w) (k : yT xPr G ly C (i + 1) L (vi z :: st) S d Q) : yT xPr G ly C i L st S d Q := by
  refine r_word h ?_
  rw [← hz]
  exact k
theorem r_alen {b u n : Nat} (h : yq C i 16 0 0 0 = true) (hb : ly[b]? = some (.a u n)) (hn : (Nat.blt n 65536 && (Nat.beq u 10 || (Nat.beq u 8 || (Nat.beq u 4 || Nat.beq u 11)))) = true) (k : yT xPr G ly C (i + 1) L (vi (n : Int) :: st) S d Q) : yT xPr G ly C i L ((2, b) :: st) S d Q := by
  obtain ⟨h1, h2, h3, h4⟩ := yq_of h
  rw [Bool.and_eq_true, Nat.blt_eq] at hn
  refine yT_same (fun hp lv ih hr hl => ?_) k
  obtain ⟨N, e1, e2⟩ := hr.1 b _ hb
  have e : enc (n : Int) = n := by unfold enc; omega
  rw [xstep_eq, h1, xdisp_16]
  simp only [xh16, xnth_eq', e1, vi, e]
  have hu := hn.2
  rw [Bool.or_eq_true, Bool.or_eq_true, Bool.or_eq_true] at hu
  rcases hu with hu | hu | hu | hu <;> (have := Nat.eq_of_beq_eq_true hu; subst this; rfl)
end
end XNC
