set_option linter.unusedVariables false
noncomputable section XNC
section
variable {P : xP} {G : xk} {ly : List yc} {C i i1 : Nat} {L L1 : List (Option xv)} {st st1 : List xv} {S S1 : yS} {d : Nat} {Q : Nat × xv → yS → Prop}
theorem ylt {α : Type} {l : List α} {n : Nat} {x : α} (h : l[n]? = some x) : n < l.length := by
  rcases Nat.lt_or_ge n l.length with h1 | h1
  · exact h1
  · rw [List.getElem?_eq_none h1] at h; cases h
theorem yset_ne {α : Type} {l : List α} {n m : Nat} {x : α} (h : m ≠ n) : (l.set n x)[m]? = l[m]? := List.getElem?_set_ne (fun e => h e.symm)
theorem yset_eq {α : Type} {l : List α} {n : Nat} {x : α} (h : n < l.length) : (l.set n x)[n]? = some x := by
  rw [List.getElem?_set]; simp [h]
theorem ysf_ne {b w b' w' : Nat} {z : Int} (h : b' ≠ b ∨ w' ≠ w) : (ysf S b w z).f b' w' = S.f b' w' := by
  show cond (Nat.beq b' b && Nat.beq w' w) z (S.f b' w') = _
  rcases h with h | h
  · rw [ybeqF h]; rfl
  · rw [ybeqF h, Bool.and_false]; rfl
theorem ysf_eq {b w : Nat} {z : Int} : (ysf S b w z).f b w = z := by
  show cond (Nat.beq b b && Nat.beq w w) z (S.f b w) = _
  rw [ybeqT, ybeqT]; rfl
theorem yarr_other {hp : xh} {b b' u n : Nat} {c : xc} {g : Nat → Int} (hne : b ≠ b') (h : yarr hp b u n g) : yarr (hp.set b' c) b u n g := by
  obtain ⟨N, e1, e2⟩ := h
  exact ⟨N, by rw [yset_ne hne]; exact e1, e2⟩
theorem yfv_ne {b w b' w' : Nat} {z : Int} {k : yk} (h : b' ≠ b ∨ w' ≠ w) : yfv (ysf S b w z) b' w' k = yfv S b' w' k ∧ (yfr (ysf S b w z) b' w' k ↔ yfr S b' w' k) := by
  cases k using yk.cs with
  | i => exact ⟨congrArg vi (ysf_ne h), by show Rg _ ↔ Rg _; rw [ysf_ne h]⟩
  | l => exact ⟨congrArg vl (ysf_ne h), by show Rl _ ↔ Rl _; rw [ysf_ne h]⟩
  | r q => exact ⟨rfl, Iff.rfl⟩
  | g k => exact ⟨rfl, Iff.rfl⟩
theorem yRep_p {hp : xh} (hR : yRep ly S hp) {b k : Nat} {c : yc} (hb : ly[b]? = some c) (hc : c ≠ .x) (hk : yact S k) : S.p k ≠ b := by
  intro e
  obtain ⟨-, h, -⟩ := hR.2.1 k hk
  rcases h with h | h
  · rw [e, hb] at h; exact hc (Option.some.inj h)
  · have := ylt hb; omega
theorem yRep_setf {hp : xh} (hR : yRep ly S hp) {b v c m : Nat} {ks : List yk} {kk : yk} {z : Int} {x : xv} (hb : ly[b]? = some (.o c m ks)) (hk : ks[v]? = some kk) (hx : yfv (ysf S b v z) b v kk = x) (hr : yfr (ysf S b v z) b v kk) :
    ∃ fs, hp[b]? = some ((c, m), 0, fs) ∧ v < fs.length ∧ yRep ly (ysf S b v z) (hp.set b ((c, m), 0, fs.set v x)) := by
  obtain ⟨fs, e1, e2, e3⟩ := hR.1 b _ hb
  have hv : v < fs.length := by rw [e2]; exact ylt hk
  refine ⟨fs, e1, hv, ?_, ?_, hR.2.2.1, by rw [List.length_set]; exact hR.2.2.2.1, hR.2.2.2.2⟩
  · intro b' c' hb'
    by_cases hbb : b' = b
    · subst hbb
      rw [hb] at hb'
      cases c' using yc.cs with
      | a u9 n9 => exact absurd hb' (fun h => yc.o_a h)
      | x => exact absurd (Option.some.inj hb') yc.o_x
      | o c9 m9 ks9 =>
      obtain ⟨rfl, rfl, rfl⟩ := yc.o_inj hb'
      refine ⟨fs.set v x, yset_eq (ylt e1), by rw [List.length_set]; exact e2, fun w k hw => ?_⟩
      by_cases hwv : w = v
      · subst hwv
        rw [hk] at hw
        have hw := Option.some.inj hw
        subst hw
        exact ⟨by rw [yset_eq hv, hx], hr⟩
      · rw [yset_ne hwv]
        obtain ⟨q1, q2⟩ := e3 w k hw
        have q3 := yfv_ne (S := S) (z := z) (b := b') (b' := b') (w := v) (w' := w) (k := k) (Or.inr hwv)
        exact ⟨by rw [q3.1]; exact q1, q3.2.mpr q2⟩
    · have h := hR.1 b' c' hb'
      cases c' using yc.cs with
      | o c1 m1 ks1 =>
        obtain ⟨fs1, a1, a2, a3⟩ := h
        refine ⟨fs1, by rw [yset_ne hbb]; exact a1, a2, fun w k hw => ?_⟩
        obtain ⟨q1, q2⟩ := a3 w k hw
        have q3 := yfv_ne (S := S) (z := z) (b := b) (b' := b') (w := v) (w' := w) (k := k) (Or.inl hbb)
        exact ⟨by rw [q3.1]; exact q1, q3.2.mpr q2⟩
      | a u n => exact yarr_other hbb h
      | x => trivial
  · intro k hk
    obtain ⟨h1, h2, h3⟩ := hR.2.1 k hk
    exact ⟨yarr_other (yRep_p hR hb (by first | exact yc.o_x | exact yc.a_x) hk) h1, h2, h3⟩
theorem r_putf {u v w b m : Nat} {ks : List yk} {kk : yk} {z : Int} {x : xv} (h : yq C i 11 u v w = true) (hb : ly[b]? = some (.o w m ks)) (hk : ks[v]? = some kk) (hx : yfv (ysf S b v z) b v kk = x) (hr : yfr (ysf S b v z) b v kk) (hf : xfit u x = true) (k : yT P G ly C (i + 1) L st (ysf S b v z) d Q) : yT P G ly C i L (x :: (2, b) :: st) S d Q := by
  obtain ⟨h1, h2, h3, h4⟩ := yq_of h
  refine yT_of (fun hp lv hR hl => ?_) k
  obtain ⟨fs, e1, e2, e3⟩ := yRep_setf hR hb hk hx hr
  refine ⟨_, lv, e3, hl, fun ih => ?_⟩
  rw [xstep_eq, h1, xdisp_11]
  simp only [xh11, xf_eq, h2, h3, h4, xnth_eq', e1, ybeqT, hf, yblt e2, Bool.and_true, cond_true, xvset_eq, xhset_eq]
  rfl
/-- an int to a field -/
theorem r_putI {v w b m : Nat} {ks : List yk} {z : Int} (h : yq C i 11 0 v w = true) (hb : ly[b]? = some (.o w m ks)) (hk : ks[v]? = some .i) (hr : Rg z) (k : yT P G ly C (i + 1) L st (ysf S b v z) d Q) : yT P G ly C i L (vi z :: (2, b) :: st) S d Q :=
  r_putf h hb hk (congrArg vi ysf_eq) (by show Rg _; rw [ysf_eq]; exact hr) rfl k
theorem r_putL {v w b m : Nat} {ks : List yk} {z : Int} (h : yq C i 11 1 v w = true) (hb : ly[b]? = some (.o w m ks)) (hk : ks[v]? = some .l) (hr : Rl z) (k : yT P G ly C (i + 1) L st (ysf S b v z) d Q) : yT P G ly C i L (vl z :: (2, b) :: st) S d Q :=
  r_putf h hb hk (congrArg vl ysf_eq) (by show Rl _; rw [ysf_eq]; exact hr) rfl k
theorem r_putZ {v w b m : Nat} {ks : List yk} {z : Int} (h : yq C i 11 3 v w = true) (hb : ly[b]? = some (.o w m ks)) (hk : ks[v]? = some .i) (h0 : 0 ≤ z) (hz : z ≤ 1) (k : yT P G ly C (i + 1) L st (ysf S b v z) d Q) : yT P G ly C i L (vi z :: (2, b) :: st) S d Q :=
  r_putf h hb hk (congrArg vi ysf_eq) (by show Rg _; rw [ysf_eq]; constructor <;> omega) (by
    have e := enc_nat h0 (by omega : z < 4294967296)
    simp only [xfit, vi]
    rw [yblt (by omega)]
    rfl) k
/-! rows -/
theorem ywid_lt (u : Nat) (z : Int) : yen u z < 2 ^ (ywid u) := by
  unfold yen ywid
  cases Nat.beq u 11 with
  | true => exact enl_lt z
  | false => exact enc_lt z
theorem yarr_set {hp : xh} {b u n j : Nat} {g : Nat → Int} {z : Int} (h : yarr hp b u n g) (hj : j < n) (hz : yer u z) : ∃ N, hp[b]? = some ((1000 + u, n), N, []) ∧ yarr (hp.set b ((1000 + u, n), xs (ywid u) N j (yen u z), [])) b u n (fun j' => cond (Nat.beq j' j) z (g j')) := by
  obtain ⟨N, e1, e2⟩ := h
  refine ⟨N, e1, _, yset_eq (ylt e1), fun q hq => ?_⟩
  rw [xg_xs _ _ _ _ _ (ywid_lt u z)]
  by_cases hqj : q = j
  · subst hqj
    rw [if_pos rfl]
    simp only [ybeqT, cond_true]
    exact ⟨trivial, hz⟩
  · rw [if_neg hqj]
    simp only [ybeqF hqj, cond_false]
    exact e2 q hq
theorem yRep_seta {hp : xh} (hR : yRep ly S hp) {b u n j : Nat} {z : Int} (hb : ly[b]? = some (.a u n)) (hj : j < n) (hz : yer u z) :
    ∃ N, hp[b]? = some ((1000 + u, n), N, []) ∧ yRep ly (ysa S b j z) (hp.set b ((1000 + u, n), xs (ywid u) N j (yen u z), [])) := by
  obtain ⟨N, e1, e2⟩ := yarr_set (z := z) (hR.1 b _ hb) hj hz
  refine ⟨N, e1, ?_, ?_, hR.2.2.1, by rw [List.length_set]; exact hR.2.2.2.1, hR.2.2.2.2⟩
  · intro b' c' hb'
    by_cases hbb : b' = b
    · subst hbb
      rw [hb] at hb'
      cases c' using yc.cs with
      | o c9 m9 ks9 => exact absurd hb'.symm (fun h => yc.o_a h)
      | x => exact absurd (Option.some.inj hb') yc.a_x
      | a u9 n9 =>
      obtain ⟨rfl, rfl⟩ := yc.a_inj hb'
      have e : (ysa S b' j z).a b' = fun j' => cond (Nat.beq j' j) z (S.a b' j') := by
        funext j'
        show cond (Nat.beq b' b' && Nat.beq j' j) z (S.a b' j') = _
        rw [ybeqT, Bool.true_and]
      show yarr _ b' u n ((ysa S b' j z).a b')
      rw [e]
      exact e2
    · have h := hR.1 b' c' hb'
      cases c' using yc.cs with
      | o c1 m1 ks1 =>
        obtain ⟨fs1, a1, a2, a3⟩ := h
        exact ⟨fs1, by rw [yset_ne hbb]; exact a1, a2, a3⟩
      | a u' n' =>
        have e : (ysa S b j z).a b' = S.a b' := by
          funext j'
          show cond (Nat.beq b' b && Nat.beq j' j) z (S.a b' j') = _
          rw [ybeqF hbb]; rfl
        show yarr _ b' u' n' ((ysa S b j z).a b')
        rw [e]
        exact yarr_other hbb h
      | x => trivial
  · intro k hk
    obtain ⟨h1, h2, h3⟩ := hR.2.1 k hk
    have e : (ysa S b j z).a (100 + k) = S.a (100 + k) := by
      funext j'
      have hlt := ylt hb
      have := hR.2.2.2.2
      show cond (Nat.beq (100 + k) b && Nat.beq j' j) z (S.a (100 + k) j') = _
      rw [ybeqF (by omega)]; rfl
    refine ⟨?_, h2, h3⟩
    show yarr _ (S.p k) (yG S k) (S.n k) ((ysa S b j z).a (100 + k))
    rw [e]
    exact yarr_other (yRep_p hR hb (by first | exact yc.o_x | exact yc.a_x) hk) h1
theorem xh15_eq {R r u i2 n N : Nat} {ih : xrec} {lv : xl} {hp : xh} {bc bs b : Nat} {t x : Nat} {z2 : Nat} (h2 : xru R = u) (e1 : hp[b]? = some ((1000 + u, n), N, [])) (hi : i2 < n) (hn : n < 1048576)
    (hz : (u = 11 ∧ t = 1 ∧ z2 = x % xL) ∨ (u = 10 ∧ t = 0 ∧ z2 = x % xM) ∨ (u = 8 ∧ t = 0 ∧ z2 = cond (Nat.blt (x % 256) 128) (x % 256) (x % 256 + 4294967040)) ∨ (u = 4 ∧ t = 0 ∧ z2 = x % 2)) :
    xh15 P G ih C R r lv ((t, x) :: (0, i2) :: (2, b) :: st) hp bc bs d = ih C r lv st (hp.set b ((1000 + u, n), xs (ywid u) N i2 z2, [])) bc bs d := by
  rcases hz with ⟨rfl, rfl, rfl⟩ | ⟨rfl, rfl, rfl⟩ | ⟨rfl, rfl, rfl⟩ | ⟨rfl, rfl, rfl⟩ <;>
    (simp only [xh15, xf_eq, h2, xnth_eq', e1, ybeqT, yblt hi, yblt hn, Bool.and_true, cond_true, xhset_eq]; rfl)
theorem r_iastore {b n : Nat} {z q : Int} (h : yq C i 15 10 0 0 = true) (hb : ly[b]? = some (.a 10 n)) (hn : n < 1048576) (h0 : 0 ≤ z) (hz : z < n) (hr : Rg q) (k : yT P G ly C (i + 1) L st (ysa S b z.toNat q) d Q) : yT P G ly C i L (vi q :: vi z :: (2, b) :: st) S d Q := by
  obtain ⟨h1, h2, h3, h4⟩ := yq_of h
  have ez : enc z = z.toNat := by have := enc_nat h0 (by omega : z < 4294967296); omega
  refine yT_of (fun hp lv hR hl => ?_) k
  obtain ⟨N, e1, e2⟩ := yRep_seta (z := q) (j := z.toNat) hR hb (by omega) hr
  refine ⟨_, lv, e2, hl, fun ih => ?_⟩
  rw [xstep_eq, h1, xdisp_15]
  unfold vi
  rw [ez]
  exact xh15_eq h2 e1 (by omega) hn (Or.inr (Or.inl ⟨rfl, rfl, (Nat.mod_eq_of_lt (enc_lt q)).symm⟩))
theorem r_zastore {b n : Nat} {z q : Int} (h : yq C i 15 4 0 0 = true) (hb : ly[b]? = some (.a 4 n)) (hn : n < 1048576) (h0 : 0 ≤ z) (hz : z < n) (hq : 0 ≤ q) (hq2 : q ≤ 1) (k : yT P G ly C (i + 1) L st (ysa S b z.toNat q) d Q) : yT P G ly C i L (vi q :: vi z :: (2, b) :: st) S d Q := by
  obtain ⟨h1, h2, h3, h4⟩ := yq_of h
  have ez : enc z = z.toNat := by have := enc_nat h0 (by omega : z < 4294967296); omega
  have eq9 := enc_nat hq (by omega : q < 4294967296)
  refine yT_of (fun hp lv hR hl => ?_) k
  obtain ⟨N, e1, e2⟩ := yRep_seta (z := q) (j := z.toNat) hR hb (by omega) (show yer 4 q from ⟨hq, hq2⟩)
  refine ⟨_, lv, e2, hl, fun ih => ?_⟩
  rw [xstep_eq, h1, xdisp_15]
  unfold vi
  rw [ez]
  exact xh15_eq h2 e1 (by omega) hn (Or.inr (Or.inr (Or.inr ⟨rfl, rfl, (Nat.mod_eq_of_lt (show enc q < 2 by omega)).symm⟩)))
theorem r_lastore {b n : Nat} {z q : Int} (h : yq C i 15 11 0 0 = true) (hb : ly[b]? = some (.a 11 n)) (hn : n < 1048576) (h0 : 0 ≤ z) (hz : z < n) (hr : Rl q) (k : yT P G ly C (i + 1) L st (ysa S b z.toNat q) d Q) : yT P G ly C i L (vl q :: vi z :: (2, b) :: st) S d Q := by
  obtain ⟨h1, h2, h3, h4⟩ := yq_of h
  have ez : enc z = z.toNat := by have := enc_nat h0 (by omega : z < 4294967296); omega
  refine yT_of (fun hp lv hR hl => ?_) k
  obtain ⟨N, e1, e2⟩ := yRep_seta (z := q) (j := z.toNat) hR hb (by omega) hr
  refine ⟨_, lv, e2, hl, fun ih => ?_⟩
  rw [xstep_eq, h1, xdisp_15]
  unfold vi vl
  rw [ez]
  exact xh15_eq h2 e1 (by omega) hn (Or.inl ⟨rfl, rfl, (Nat.mod_eq_of_lt (enl_lt q)).symm⟩)
end
end XNC
