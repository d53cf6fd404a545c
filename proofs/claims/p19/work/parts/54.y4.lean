set_option linter.unusedVariables false
noncomputable section XNC
section
variable {P : xP} {G : xk} {ly : List yc} {C i i1 : Nat} {L L1 : List (Option xv)} {st st1 : List xv} {S S1 : yS} {d : Nat} {Q : Nat × xv → yS → Prop}
/-! returns, throws -/
theorem yT_end {r : Nat × xv} (h : ∀ hp lv (ih : xrec), yRep ly S hp → yL L lv → xstep P G ih C i lv st hp S.bc S.bs d = some (r, hp, S.bc, S.bs)) (h2 : r.1 ≠ 2) (hq : Q r S) : yT P G ly C i L st S d Q := by
  intro hp lv hR hl
  refine ⟨1, r, hp, S, fun m hm => ?_, hR, fun e => absurd e h2, hq⟩
  obtain ⟨m, rfl⟩ : ∃ q, m = q + 1 := ⟨m - 1, by omega⟩
  rw [xrun_succ]
  exact h hp lv _ hR hl
theorem r_ret0 (h : yq C i 18 0 0 0 = true) (hq : Q (0, (0, 0)) S) : yT P G ly C i L [] S d Q := by
  obtain ⟨h1, h2, h3, h4⟩ := yq_of h
  refine yT_end (fun hp lv ih _ _ => ?_) (by decide) hq
  rw [xstep_eq, h1, xdisp_18]
  simp only [xh18, xf_eq, h2, ybeqT, cond_true]
theorem r_retI {z : Int} (h : yq C i 18 1 0 0 = true) (hq : Q (1, vi z) S) : yT P G ly C i L [vi z] S d Q := by
  obtain ⟨h1, h2, h3, h4⟩ := yq_of h
  refine yT_end (fun hp lv ih _ _ => ?_) (show (1 : Nat) ≠ 2 by decide) hq
  rw [xstep_eq, h1, xdisp_18]
  simp only [xh18, xf_eq, h2]
  rfl
theorem r_retL {z : Int} (h : yq C i 18 2 0 0 = true) (hq : Q (1, vl z) S) : yT P G ly C i L [vl z] S d Q := by
  obtain ⟨h1, h2, h3, h4⟩ := yq_of h
  refine yT_end (fun hp lv ih _ _ => ?_) (show (1 : Nat) ≠ 2 by decide) hq
  rw [xstep_eq, h1, xdisp_18]
  simp only [xh18, xf_eq, h2]
  rfl
theorem r_retA {b x : Nat} (h : yq C i 18 3 0 0 = true) (hb : xkd (b, x) = 2) (hq : Q (1, (b, x)) S) : yT P G ly C i L [(b, x)] S d Q := by
  obtain ⟨h1, h2, h3, h4⟩ := yq_of h
  refine yT_end (fun hp lv ih _ _ => ?_) (show (1 : Nat) ≠ 2 by decide) hq
  rw [xstep_eq, h1, xdisp_18]
  simp only [xh18, xf_eq, h2, hb]
  rfl
theorem r_retZ {z : Int} (h : yq C i 18 4 0 0 = true) (h0 : 0 ≤ z) (hz : z ≤ 1) (hq : Q (1, vi z) S) : yT P G ly C i L [vi z] S d Q := by
  obtain ⟨h1, h2, h3, h4⟩ := yq_of h
  have e := enc_nat h0 (by omega : z < 4294967296)
  refine yT_end (fun hp lv ih _ _ => ?_) (show (1 : Nat) ≠ 2 by decide) hq
  rw [xstep_eq, h1, xdisp_18]
  simp only [xh18, xf_eq, h2, vi]
  rw [yblt (show enc z < 2 by omega)]
  rfl
theorem r_retB {z : Int} (h : yq C i 18 5 0 0 = true) (h0 : 0 ≤ z) (hz : z < 128) (hq : Q (1, vi z) S) : yT P G ly C i L [vi z] S d Q := by
  obtain ⟨h1, h2, h3, h4⟩ := yq_of h
  have e := enc_nat h0 (by omega : z < 4294967296)
  refine yT_end (fun hp lv ih _ _ => ?_) (show (1 : Nat) ≠ 2 by decide) hq
  rw [xstep_eq, h1, xdisp_18]
  simp only [xh18, xf_eq, h2, vi]
  rw [yblt (show enc z < 128 by omega)]
  rfl
theorem r_retC {z : Int} (h : yq C i 18 6 0 0 = true) (h0 : 0 ≤ z) (hz : z < 65536) (hq : Q (1, vi z) S) : yT P G ly C i L [vi z] S d Q := by
  obtain ⟨h1, h2, h3, h4⟩ := yq_of h
  have e := enc_nat h0 (by omega : z < 4294967296)
  refine yT_end (fun hp lv ih _ _ => ?_) (show (1 : Nat) ≠ 2 by decide) hq
  rw [xstep_eq, h1, xdisp_18]
  simp only [xh18, xf_eq, h2, vi]
  rw [yblt (show enc z < 65536 by omega)]
  rfl
def ycost (S : yS) (c s : Nat) : yS := yS.mk S.f S.a S.p S.n (S.bc - c) (S.bs - s) S.t
theorem yget_app {α : Type} {l m : List α} {n : Nat} {x : α} (h : l[n]? = some x) : (l ++ m)[n]? = some x := by
  rw [List.getElem?_append_left (ylt h)]; exact h
theorem yarr_app {hp : xh} {c : xc} {b u n : Nat} {g : Nat → Int} (h : yarr hp b u n g) : yarr (hp ++ [c]) b u n g := by
  obtain ⟨N, e1, e2⟩ := h
  exact ⟨N, yget_app e1, e2⟩
theorem yRep_app {hp : xh} {c : xc} (hR : yRep ly S hp) : yRep ly S (hp ++ [c]) := by
  refine ⟨fun b c' hb => ?_, fun k hk => ?_, hR.2.2.1, by rw [List.length_append]; exact Nat.le_trans hR.2.2.2.1 (Nat.le_add_right _ _), hR.2.2.2.2⟩
  · have h := hR.1 b c' hb
    cases c' using yc.cs with
    | o c1 m1 ks1 =>
      obtain ⟨fs1, a1, a2, a3⟩ := h
      exact ⟨fs1, yget_app a1, a2, a3⟩
    | a u n => exact yarr_app h
    | x => trivial
  · obtain ⟨h1, h2, h3⟩ := hR.2.1 k hk
    exact ⟨yarr_app h1, h2, h3⟩
theorem yRep_cost {hp : xh} {c s : Nat} (hR : yRep ly S hp) : yRep ly (ycost S c s) hp := hR
theorem r_throw {v w : Nat} (h : yq C i 19 0 v w = true) (h0 : 1 ≤ S.bc) (hs : 6 ≤ S.bs) (hd : 6 ≤ d) (hl : st.length ≤ 8) (hq : ∀ a, Q (2, (v, a)) (ycost S 1 6)) : yT P G ly C i L st S d Q := by
  obtain ⟨h1, h2, h3, h4⟩ := yq_of h
  intro hp lv hR hL
  refine ⟨1, (2, (v, hp.length)), hp ++ [((v, 0), 0, [])], ycost S 1 6, fun m hm => ?_, yRep_app (yRep_cost hR), fun _ => ?_, hq _⟩
  · obtain ⟨m, rfl⟩ : ∃ q, m = q + 1 := ⟨m - 1, by omega⟩
    rw [xrun_succ, xstep_eq, h1, xdisp_19]
    simp only [xh19, xf_eq, h3, yble h0, yble hs, yble hd, yble hl, Bool.and_true, cond_true, xhpush_eq]
    rfl
  · show (hp ++ [((v, 0), 0, [])])[hp.length]? = some ((v, 0), 0, [])
    simp
/-! calls -/
def yargs : List xv → List (Option xv)
  | [] => []
  | v :: r => cond (Nat.beq (xcat v) 2) (some v :: none :: yargs r) (some v :: yargs r)
def xargl : List xv → Nat → xl × Nat
  | [], i => ([], i)
  | v :: r, i => ((i, v) :: (xargl r (i + xcat v)).1, (xargl r (i + xcat v)).2)
theorem xarg_eq {α : Type} (as : List xv) (i : Nat) (k : xl → Nat → α) : xarg as i k = k (xargl as i).1 (xargl as i).2 := by
  induction as generalizing i k with
  | nil => rfl
  | cons v r ih =>
    show xf (i + xcat v) (fun j => xarg r j (fun l n => k ((i, v) :: l) n)) = _
    rw [xf_eq, ih]
    rfl
theorem xcat_12 (v : xv) : xcat v = 1 ∨ xcat v = 2 := by
  unfold xcat
  split
  · exact Or.inr rfl
  · exact Or.inr rfl
  · exact Or.inl rfl
theorem xargl_at (as : List xv) (i : Nat) : ∀ (u : Nat) (x : xv), (yargs as)[u]? = some (some x) → xat (xargl as i).1 (i + u) = some x := by
  induction as generalizing i with
  | nil => intro u x h; cases h
  | cons v r ih =>
    intro u x h
    show xat ((i, v) :: (xargl r (i + xcat v)).1) (i + u) = some x
    rw [xat_cons]
    rcases xcat_12 v with hc | hc
    · have e : yargs (v :: r) = some v :: yargs r := by
        show cond (Nat.beq (xcat v) 2) _ _ = _
        rw [hc]; rfl
      rw [e] at h
      cases u with
      | zero =>
        have h : some (some v) = some (some x) := h
        cases h
        rw [Nat.add_zero, ybeqT]
      | succ u =>
        have h : (yargs r)[u]? = some (some x) := by simpa using h
        rw [ybeqF (by show i ≠ i + (u + 1); omega)]
        have := ih (i + xcat v) u x h
        rw [hc] at this ⊢
        rw [show i + (u + 1) = i + 1 + u by omega]
        exact this
    · have e : yargs (v :: r) = some v :: none :: yargs r := by
        show cond (Nat.beq (xcat v) 2) _ _ = _
        rw [hc]; rfl
      rw [e] at h
      cases u with
      | zero =>
        have h : some (some v) = some (some x) := h
        cases h
        rw [Nat.add_zero, ybeqT]
      | succ u =>
        cases u with
        | zero => cases h
        | succ u =>
          have h : (yargs r)[u]? = some (some x) := by simpa using h
          rw [ybeqF (by show i ≠ i + (u + 1 + 1); omega)]
          have := ih (i + xcat v) u x h
          rw [hc] at this ⊢
          rw [show i + (u + 1 + 1) = i + 2 + u by omega]
          exact this
def yasz (as : List xv) : Nat := (xargl as 0).2
/-- the receiver -/
def yrcv (P : xP) (ly : List yc) (f u : Nat) (as : List xv) : Bool := match f with
  | 0 => match as with
    | (2, a) :: _ => match ly[a]? with
      | some q => Sum.elim (fun q => Nat.beq q.1 u && Nat.blt u 100) (fun _ => false) q
      | none => false
    | (6, a) :: _ => Nat.beq u 100 && (Nat.ble 1 a && (match xnth P.2.1 a with
      | some _ => true
      | none => false))
    | _ => false
  | 2 => true
  | _ => match as with
    | (2, _) :: _ => true
    | _ => false
theorem yrcv_ok {hp : xh} {f u : Nat} {as : List xv} (hR : yRep ly S hp) (h : yrcv P ly f u as = true) : xrcv P.2.1 hp f u as = true := by
  unfold yrcv at h
  unfold xrcv
  split at h
  · split at h
    · rename_i a r
      split at h
      · rename_i q hc
        cases q using yc.cs with
        | o c m ks =>
          obtain ⟨fs, e1, -⟩ := hR.1 a _ hc
          simp only [xnth_eq', e1]
          exact h
        | a u n => cases h
        | x => cases h
      · cases h
    · exact h
    · cases h
  · rfl
  · rename_i hf0 hf2
    split at h
    · split
      · exact absurd rfl hf0
      · rfl
      · rfl
    · cases h
/-- what comes behind a call -/
def yback (P : xP) (G : xk) (ly : List yc) (C i u w : Nat) (L : List (Option xv)) (s : List xv) (d : Nat) (Q : Nat × xv → yS → Prop) (r : Nat × xv) (S' : yS) : Prop :=
  (r.1 = 0 ∧ yT P G ly C (i + 1) L s S' d Q) ∨ (r.1 = 1 ∧ yT P G ly C (i + 1) L (r.2 :: s) S' d Q) ∨
  (r.1 = 2 ∧ r.2.1 = u / 65536 % 65536 ∧ 1 ≤ w ∧ yT P G ly C w L [(2, r.2.2)] S' d Q) ∨
  (r.1 = 2 ∧ r.2.1 ≠ u / 65536 % 65536 ∧ r.2.1 = u / 4294967296 % 65536 ∧ 1 ≤ u / 281474976710656 ∧ yT P G ly C (u / 281474976710656) L [(2, r.2.2)] S' d Q)
theorem r_call {u v w b na C2 : Nat} {as s : List xv} {Q1 : Nat × xv → yS → Prop} (h : yq C i 17 u v w = true) (hb : Nat.beq (xrb (xrow C i)) b = true) (hP : xnth P.1 v = some (na, C2)) (hs : xtake (na % 256) st [] = some (as, s)) (hl : Nat.ble s.length 8 = true) (hrc : yrcv P ly b (u % 65536) as = true) (hn : Nat.ble (yasz as) (na / 256) = true)
    (callee : yT P G ly C2 0 (yargs as) [] S d Q1) (k : ∀ r S', Q1 r S' → yback P G ly C i u w L s (d + 1) Q r S') : yT P G ly C i L st S (d + 1) Q := by
  obtain ⟨h1, h2, h3, h4⟩ := yq_of h
  have hb := Nat.eq_of_beq_eq_true hb
  intro hp lv hR hL
  obtain ⟨n1, r, hp1, S', e1, hR1, hx1, hq1⟩ := callee hp (xargl as 0).1 hR (fun u x hu => by have := xargl_at as 0 u x hu; rwa [Nat.zero_add] at this)
  have hcall : ∀ m, n1 ≤ m → xrun P G (m + 1) C i lv st hp S.bc S.bs (d + 1) = (match r.1 with
      | 0 => xrun P G m C (i + 1) lv s hp1 S'.bc S'.bs (d + 1)
      | 1 => xrun P G m C (i + 1) lv (r.2 :: s) hp1 S'.bc S'.bs (d + 1)
      | _ => match xnth hp1 r.2.2 with
        | some ((k, _), _, _) => cond (Nat.beq k (u / 65536 % 65536) && (Nat.beq r.1 2 && Nat.ble 1 w)) (xrun P G m C w lv [(2, r.2.2)] hp1 S'.bc S'.bs (d + 1)) (cond (Nat.beq k (u / 4294967296 % 65536) && (Nat.beq r.1 2 && Nat.ble 1 (u / 281474976710656))) (xrun P G m C (u / 281474976710656) lv [(2, r.2.2)] hp1 S'.bc S'.bs (d + 1)) none)
        | none => none) := by
    intro m hm
    rw [xrun_succ, xstep_eq, h1, xdisp_17]
    simp only [xh17, xf_eq, h2, h3, h4, hb, hP, hs, hl, yrcv_ok hR hrc, Bool.and_true, cond_true, xarg_eq]
    rw [show (xargl as 0).2 = yasz as from rfl, hn, cond_true, e1 m hm]
    obtain ⟨o, x⟩ := r
    rfl
  rcases k r S' hq1 with ⟨h0, kk⟩ | ⟨h0, kk⟩ | ⟨h0, hc, hw, kk⟩ | ⟨h0, hne, hc, hw, kk⟩
  · obtain ⟨n2, r2, hp2, S2, e2, z⟩ := kk hp1 lv hR1 hL
    refine ⟨n1 + n2 + 1, r2, hp2, S2, fun m hm => ?_, z⟩
    obtain ⟨m, rfl⟩ : ∃ q, m = q + 1 := ⟨m - 1, by omega⟩
    rw [hcall m (by omega), h0]
    exact e2 m (by omega)
  · obtain ⟨n2, r2, hp2, S2, e2, z⟩ := kk hp1 lv hR1 hL
    refine ⟨n1 + n2 + 1, r2, hp2, S2, fun m hm => ?_, z⟩
    obtain ⟨m, rfl⟩ : ∃ q, m = q + 1 := ⟨m - 1, by omega⟩
    rw [hcall m (by omega), h0]
    exact e2 m (by omega)
  · obtain ⟨n2, r2, hp2, S2, e2, z⟩ := kk hp1 lv hR1 hL
    refine ⟨n1 + n2 + 1, r2, hp2, S2, fun m hm => ?_, z⟩
    obtain ⟨m, rfl⟩ : ∃ q, m = q + 1 := ⟨m - 1, by omega⟩
    rw [hcall m (by omega), h0]
    simp only [xnth_eq', hx1 h0, hc, ybeqT, yble hw, Bool.and_true, cond_true]
    exact e2 m (by omega)
  · obtain ⟨n2, r2, hp2, S2, e2, z⟩ := kk hp1 lv hR1 hL
    refine ⟨n1 + n2 + 1, r2, hp2, S2, fun m hm => ?_, z⟩
    obtain ⟨m, rfl⟩ : ∃ q, m = q + 1 := ⟨m - 1, by omega⟩
    rw [hcall m (by omega), h0]
    simp only [xnth_eq', hx1 h0, ybeqF hne, Bool.false_and, cond_false]
    rw [← hc, ybeqT, ybeqT, yble hw]
    exact e2 m (by omega)
end
end XNC
