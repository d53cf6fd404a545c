set_option linter.unusedVariables false
noncomputable section XNC
/-! rows that grow: what is written, made, taken, copied -/
def ynew (S : yS) (q u m : Nat) : yS := yS.mk S.f (fun b j => cond (Nat.beq b 105) 0 (S.a b j)) (fun k => cond (Nat.beq k 5) q (S.p k)) (fun k => cond (Nat.beq k 5) m (cond (Nat.beq k 6) u (S.n k))) (S.bc - 1) (S.bs - m) true
def ytk (S : yS) (k : Nat) : yS := yS.mk S.f (fun b j => cond (Nat.beq b (100 + k)) (S.a 105 j) (S.a b j)) (fun q => cond (Nat.beq q k) (S.p 5) (S.p q)) (fun q => cond (Nat.beq q k) (S.n 5) (S.n q)) S.bc S.bs false
def ycp (S : yS) (k1 i0 k2 j0 m : Nat) : yS := yS.mk S.f (fun b j => cond (Nat.beq b (100 + k2) && (Nat.ble j0 j && Nat.blt j (j0 + m))) (S.a (100 + k1) (i0 + (j - j0))) (S.a b j)) S.p S.n S.bc S.bs S.t
section
variable {P : xP} {G : xk} {ly : List yc} {C i : Nat} {L : List (Option xv)} {st : List xv} {S : yS} {d : Nat} {Q : Nat × xv → yS → Prop}
theorem yG_k {S S' : yS} {k : Nat} (h : S'.n 6 = S.n 6) : yG S' k = yG S k := by
  unfold yG
  split <;> first | rfl | exact h
theorem yRep_gset {hp : xh} (hR : yRep ly S hp) {k j : Nat} {z : Int} (hk : yact S k) (hj : j < S.n k) (hz : yer (yG S k) z) :
    ∃ N, hp[S.p k]? = some ((1000 + yG S k, S.n k), N, []) ∧ yRep ly (ysa S (100 + k) j z) (hp.set (S.p k) ((1000 + yG S k, S.n k), xs (ywid (yG S k)) N j (yen (yG S k) z), [])) := by
  obtain ⟨h1, h2, h3⟩ := hR.2.1 k hk
  obtain ⟨N, e1, e2⟩ := yarr_set (z := z) h1 hj hz
  refine ⟨N, e1, ?_, ?_, hR.2.2.1, by rw [List.length_set]; exact hR.2.2.2.1, hR.2.2.2.2⟩
  · intro b' c' hb'
    have h := hR.1 b' c' hb'
    cases c' using yc.cs with
    | o c1 m1 ks1 =>
      have hne : b' ≠ S.p k := fun e => yRep_p hR hb' (by first | exact yc.o_x | exact yc.a_x) hk e.symm
      obtain ⟨fs1, a1, a2, a3⟩ := h
      exact ⟨fs1, by rw [yset_ne hne]; exact a1, a2, a3⟩
    | a u' n' =>
      have hne : b' ≠ S.p k := fun e => yRep_p hR hb' (by first | exact yc.o_x | exact yc.a_x) hk e.symm
      have hlt := ylt hb'
      have := hR.2.2.2.2
      have e : (ysa S (100 + k) j z).a b' = S.a b' := by
        funext j'
        exact ysa_ne (Or.inl (by omega))
      show yarr _ b' u' n' ((ysa S (100 + k) j z).a b')
      rw [e]
      exact yarr_other hne h
    | x => trivial
  · intro k' hk'
    obtain ⟨g1, g2, g3⟩ := hR.2.1 k' hk'
    refine ⟨?_, g2, g3⟩
    by_cases hkk : k' = k
    · subst hkk
      have e : (ysa S (100 + k') j z).a (100 + k') = fun j' => cond (Nat.beq j' j) z (S.a (100 + k') j') := by
        funext j'
        show cond (Nat.beq (100 + k') (100 + k') && Nat.beq j' j) z (S.a (100 + k') j') = _
        rw [ybeqT, Bool.true_and]
      show yarr _ (S.p k') (yG S k') (S.n k') ((ysa S (100 + k') j z).a (100 + k'))
      rw [e]
      exact e2
    · have hne : S.p k' ≠ S.p k := fun e => hkk (hR.2.2.1 k' k hk' hk e)
      have e : (ysa S (100 + k) j z).a (100 + k') = S.a (100 + k') := by
        funext j'
        exact ysa_ne (Or.inl (by omega))
      show yarr _ (S.p k') (yG S k') (S.n k') ((ysa S (100 + k) j z).a (100 + k'))
      rw [e]
      exact yarr_other hne g1
theorem g_bstore {k : Nat} {z q : Int} (h : yq C i 15 8 0 0 = true) (hk : yact S k) (hg : yG S k = 8) (h0 : 0 ≤ z) (hz : z < S.n k) (kk : yT P G ly C (i + 1) L st (ysa S (100 + k) z.toNat (yby q)) d Q) : yT P G ly C i L (vi q :: vi z :: (2, S.p k) :: st) S d Q := by
  obtain ⟨h1, h2, h3, h4⟩ := yq_of h
  intro hp lv hR hl
  have hn := (hR.2.1 k hk).2.2
  have ez : enc z = z.toNat := by have := enc_nat h0 (by omega : z < 4294967296); omega
  refine yT_of (fun hp lv hR hl => ?_) kk hp lv hR hl
  obtain ⟨N, e1, e2⟩ := yRep_gset (z := yby q) (j := z.toNat) hR hk (by omega) (by rw [hg]; exact yby_rg q)
  refine ⟨_, lv, e2, hl, fun ih => ?_⟩
  rw [hg] at e1 ⊢
  rw [xstep_eq, h1, xdisp_15]
  unfold vi
  rw [ez]
  refine xh15_eq h2 e1 (by omega) hn (Or.inr (Or.inr (Or.inl ⟨rfl, rfl, ?_⟩)))
  have e : ((enc q % 256 : Nat) : Int) = q % 256 := by unfold enc; omega
  show enc (yby q) = _
  cases hb : Nat.blt (enc q % 256) 128 with
  | true =>
    rw [Nat.blt_eq] at hb
    rw [cond_true]
    unfold enc at e hb ⊢
    unfold yby
    omega
  | false =>
    have hb2 : ¬ (enc q % 256 < 128) := fun h => by rw [← Nat.blt_eq, hb] at h; cases h
    rw [cond_false]
    unfold enc at e hb2 ⊢
    unfold yby
    omega
theorem g_istore {k : Nat} {z q : Int} (h : yq C i 15 10 0 0 = true) (hk : yact S k) (hg : yG S k = 10) (h0 : 0 ≤ z) (hz : z < S.n k) (hr : Rg q) (kk : yT P G ly C (i + 1) L st (ysa S (100 + k) z.toNat q) d Q) : yT P G ly C i L (vi q :: vi z :: (2, S.p k) :: st) S d Q := by
  obtain ⟨h1, h2, h3, h4⟩ := yq_of h
  intro hp lv hR hl
  have hn := (hR.2.1 k hk).2.2
  have ez : enc z = z.toNat := by have := enc_nat h0 (by omega : z < 4294967296); omega
  refine yT_of (fun hp lv hR hl => ?_) kk hp lv hR hl
  obtain ⟨N, e1, e2⟩ := yRep_gset (z := q) (j := z.toNat) hR hk (by omega) (by rw [hg]; exact hr)
  refine ⟨_, lv, e2, hl, fun ih => ?_⟩
  rw [hg] at e1 ⊢
  rw [xstep_eq, h1, xdisp_15]
  unfold vi
  rw [ez]
  exact xh15_eq h2 e1 (by omega) hn (Or.inr (Or.inl ⟨rfl, rfl, (Nat.mod_eq_of_lt (enc_lt q)).symm⟩))
def yg5k (q : yk) : Bool := Sum.elim (fun _ => true) (fun s => Sum.elim (fun _ => true) (fun k => Nat.blt k 5) s) q
def yg5 (ly : List yc) : Bool := ly.all (fun c => Sum.elim (fun q => q.2.2.all yg5k) (fun _ => true) c)
theorem yg5_of (h : yg5 ly = true) {b c m w k : Nat} {ks : List yk} (hb : ly[b]? = some (.o c m ks)) (hw : ks[w]? = some (.g k)) : k < 5 := by
  have h1 := List.all_eq_true.mp h _ (List.mem_of_getElem? hb)
  have h2 := List.all_eq_true.mp h1 _ (List.mem_of_getElem? hw)
  have h2 : Nat.blt k 5 = true := h2
  rw [Nat.blt_eq] at h2
  exact h2
theorem ynew_p {q u m k : Nat} (hk : k < 5) : (ynew S q u m).p k = S.p k := by
  show cond (Nat.beq k 5) q (S.p k) = _
  rw [ybeqF (by omega)]; rfl
theorem ynew_n {q u m k : Nat} (hk : k < 5) : (ynew S q u m).n k = S.n k := by
  show cond (Nat.beq k 5) m (cond (Nat.beq k 6) u (S.n k)) = _
  rw [ybeqF (by omega), ybeqF (by omega)]; rfl
theorem ynew_a {q u m b : Nat} (hb : b ≠ 105) : (ynew S q u m).a b = S.a b := by
  funext j
  show cond (Nat.beq b 105) 0 (S.a b j) = _
  rw [ybeqF hb]; rfl
theorem yG_lt {S S' : yS} {k : Nat} (hk : k < 5) : yG S' k = yG S k := by
  have e : k = 0 ∨ k = 1 ∨ k = 2 ∨ k = 3 ∨ k = 4 := by omega
  rcases e with rfl | rfl | rfl | rfl | rfl <;> rfl
theorem r_new {u : Nat} {z : Int} (hg5 : yg5 ly = true) (h : yq C i 13 u 0 0 = true) (hu : u = 8 ∨ u = 10) (h0 : 0 ≤ z) (hz : z < 1048576) (hc : 1 ≤ S.bc) (hs : z ≤ S.bs) (kk : ∀ q, yT P G ly C (i + 1) L ((2, q) :: st) (ynew S q u z.toNat) d Q) : yT P G ly C i L (vi z :: st) S d Q := by
  obtain ⟨h1, h2, h3, h4⟩ := yq_of h
  have ez : enc z = z.toNat := by have := enc_nat h0 (by omega : z < 4294967296); omega
  intro hp lv hR hl
  have hold : ∀ k, k < 5 → S.p k < hp.length := by
    intro k hk
    obtain ⟨⟨N, e1, -⟩, -⟩ := hR.2.1 k (Or.inl hk)
    exact ylt e1
  have hR2 : yRep ly (ynew S hp.length u z.toNat) (hp ++ [((1000 + u, z.toNat), 0, [])]) := by
    refine ⟨fun b c' hb => ?_, fun k hk => ?_, fun k j hk hj e => ?_, by rw [List.length_append]; exact Nat.le_trans hR.2.2.2.1 (Nat.le_add_right _ _), hR.2.2.2.2⟩
    · have h := hR.1 b c' hb
      have hlt := ylt hb
      have h100 := hR.2.2.2.2
      cases c' using yc.cs with
      | o c1 m1 ks1 =>
        obtain ⟨fs1, a1, a2, a3⟩ := h
        refine ⟨fs1, yget_app a1, a2, fun w k hw => ?_⟩
        obtain ⟨q1, q2⟩ := a3 w k hw
        cases k using yk.cs with
        | i => exact ⟨q1, q2⟩
        | l => exact ⟨q1, q2⟩
        | r b => exact ⟨q1, q2⟩
        | g k =>
          refine ⟨?_, trivial⟩
          rw [q1]
          show some (2, S.p k) = some (2, (ynew S hp.length u z.toNat).p k)
          rw [ynew_p (yg5_of hg5 hb hw)]
      | a u' n' =>
        show yarr _ b u' n' ((ynew S hp.length u z.toNat).a b)
        rw [ynew_a (by omega)]
        exact yarr_app h
      | x => trivial
    · rcases hk with hk | ⟨rfl, -⟩
      · obtain ⟨g1, g2, g3⟩ := hR.2.1 k (Or.inl hk)
        rw [ynew_p hk, ynew_n hk, yG_lt (S := S) hk, ynew_a (by omega)]
        exact ⟨yarr_app g1, g2, g3⟩
      · refine ⟨⟨0, ?_, fun j hj => ?_⟩, Or.inr hR.2.2.2.1, by show z.toNat < _; omega⟩
        · show (hp ++ [((1000 + u, z.toNat), 0, [])])[hp.length]? = some ((1000 + u, z.toNat), 0, [])
          simp
        · show xg (ywid u) 0 j = yen u 0 ∧ yer u 0
          rw [xg_zero]
          rcases hu with rfl | rfl
          · exact ⟨rfl, by show (-128 : Int) ≤ 0 ∧ (0 : Int) ≤ 127; decide⟩
          · exact ⟨rfl, by show Rg 0; decide⟩
    · have hp5 : (ynew S hp.length u z.toNat).p 5 = hp.length := rfl
      rcases hk with hk | ⟨rfl, -⟩
      · rcases hj with hj | ⟨rfl, -⟩
        · rw [ynew_p hk, ynew_p hj] at e
          exact hR.2.2.1 k j (Or.inl hk) (Or.inl hj) e
        · rw [ynew_p hk, hp5] at e
          have := hold k hk
          omega
      · rcases hj with hj | ⟨rfl, -⟩
        · rw [ynew_p hj, hp5] at e
          have := hold j hj
          omega
        · rfl
  obtain ⟨n, r, hp', S', e, z9⟩ := kk hp.length _ lv hR2 hl
  refine ⟨n + 1, r, hp', S', fun m hm => ?_, z9⟩
  obtain ⟨m, rfl⟩ : ∃ q, m = q + 1 := ⟨m - 1, by omega⟩
  rw [xrun_succ, xstep_eq, h1, xdisp_13]
  unfold vi
  rw [ez]
  simp only [xh13, xf_eq, h2, yble hc, yble (show z.toNat ≤ S.bs by omega), yblt (show z.toNat < 1048576 by omega), Bool.and_true, cond_true, xhpush_eq]
  exact e m (by omega)
/-! a new row goes to its field -/
def yuqk (k b v : Nat) (b' : Nat) : Nat → List yk → Bool
  | _, [] => true
  | w, q :: r => Sum.elim (fun _ => true) (fun s => Sum.elim (fun _ => true) (fun k' => !(Nat.beq k' k) || (Nat.beq b' b && Nat.beq w v)) s) q && yuqk k b v b' (w + 1) r
def yuq (k b v : Nat) : Nat → List yc → Bool
  | _, [] => true
  | b', c :: r => Sum.elim (fun q => yuqk k b v b' 0 q.2.2) (fun _ => true) c && yuq k b v (b' + 1) r
theorem yuqk_of {k b v b' : Nat} : ∀ (ks : List yk) (w0 : Nat), yuqk k b v b' w0 ks = true → ∀ w, ks[w]? = some (.g k) → b' = b ∧ w0 + w = v := by
  intro ks
  induction ks with
  | nil => intro w0 _ w hw; cases hw
  | cons q r ih =>
    intro w0 h w hw
    unfold yuqk at h
    rw [Bool.and_eq_true] at h
    cases w with
    | zero =>
      have hw : some q = some (.g k) := hw
      have hw := Option.some.inj hw
      subst hw
      have h1 : (!(Nat.beq k k) || (Nat.beq b' b && Nat.beq w0 v)) = true := h.1
      simp only [ybeqT, Bool.not_true, Bool.false_or, Bool.and_eq_true] at h1
      exact ⟨Nat.eq_of_beq_eq_true h1.1, Nat.eq_of_beq_eq_true h1.2⟩
    | succ w =>
      have := ih (w0 + 1) h.2 w (by simpa using hw)
      exact ⟨this.1, by omega⟩
theorem yuq_of {k b v : Nat} : ∀ (ly : List yc) (b0 : Nat), yuq k b v b0 ly = true → ∀ (b' c m w : Nat) (ks : List yk), ly[b']? = some (.o c m ks) → ks[w]? = some (.g k) → b0 + b' = b ∧ w = v := by
  intro ly
  induction ly with
  | nil => intro b0 _ b' c m w ks hb; cases hb
  | cons q r ih =>
    intro b0 h b' c m w ks hb hw
    unfold yuq at h
    rw [Bool.and_eq_true] at h
    cases b' with
    | zero =>
      have hb : some q = some (.o c m ks) := hb
      have hb := Option.some.inj hb
      subst hb
      have := yuqk_of ks 0 h.1 w hw
      exact ⟨by omega, by omega⟩
    | succ b' =>
      have := ih (b0 + 1) h.2 b' c m w ks (by simpa using hb) hw
      exact ⟨by omega, this.2⟩
theorem ytk_p {k q : Nat} (h : q ≠ k) : (ytk S k).p q = S.p q := by
  show cond (Nat.beq q k) (S.p 5) (S.p q) = _
  rw [ybeqF h]; rfl
theorem ytk_p1 {k : Nat} : (ytk S k).p k = S.p 5 := by
  show cond (Nat.beq k k) (S.p 5) (S.p k) = _
  rw [ybeqT]; rfl
theorem ytk_n {k q : Nat} (h : q ≠ k) : (ytk S k).n q = S.n q := by
  show cond (Nat.beq q k) (S.n 5) (S.n q) = _
  rw [ybeqF h]; rfl
theorem ytk_n1 {k : Nat} : (ytk S k).n k = S.n 5 := by
  show cond (Nat.beq k k) (S.n 5) (S.n k) = _
  rw [ybeqT]; rfl
theorem ytk_a {k b : Nat} (h : b ≠ 100 + k) : (ytk S k).a b = S.a b := by
  funext j
  show cond (Nat.beq b (100 + k)) (S.a 105 j) (S.a b j) = _
  rw [ybeqF h]; rfl
theorem ytk_a1 {k : Nat} : (ytk S k).a (100 + k) = S.a 105 := by
  funext j
  show cond (Nat.beq (100 + k) (100 + k)) (S.a 105 j) (S.a (100 + k) j) = _
  rw [ybeqT]; rfl
theorem r_take {v w b m k : Nat} {ks : List yk} (hg5 : yg5 ly = true) (hu : yuq k b v 0 ly = true) (h : yq C i 11 2 v w = true) (hb : ly[b]? = some (.o w m ks)) (hk : ks[v]? = some (.g k)) (ht : S.t = true) (hkd : yG S k = S.n 6) (kk : yT P G ly C (i + 1) L st (ytk S k) d Q) : yT P G ly C i L ((2, S.p 5) :: (2, b) :: st) S d Q := by
  obtain ⟨h1, h2, h3, h4⟩ := yq_of h
  have hk5 := yg5_of hg5 hb hk
  refine yT_of (fun hp lv hR hl => ?_) kk
  obtain ⟨fs, e1, e2, e3⟩ := hR.1 b _ hb
  have hv : v < fs.length := by rw [e2]; exact ylt hk
  have a5 : yact S 5 := Or.inr ⟨rfl, ht⟩
  refine ⟨hp.set b ((w, m), 0, fs.set v (2, S.p 5)), lv, ?_, hl, fun ih => ?_⟩
  · refine ⟨fun b' c' hb' => ?_, fun q hq => ?_, fun q j hq hj e => ?_, by rw [List.length_set]; exact hR.2.2.2.1, hR.2.2.2.2⟩
    · have h100 := hR.2.2.2.2
      have hlt := ylt hb'
      by_cases hbb : b' = b
      · subst hbb
        rw [hb] at hb'
        cases c' using yc.cs with
        | a u9 n9 => exact absurd hb' (fun h => yc.o_a h)
        | x => exact absurd (Option.some.inj hb') yc.o_x
        | o c9 m9 ks9 =>
        obtain ⟨rfl, rfl, rfl⟩ := yc.o_inj hb'
        refine ⟨fs.set v (2, S.p 5), yset_eq (ylt e1), by rw [List.length_set]; exact e2, fun w' k' hw' => ?_⟩
        by_cases hwv : w' = v
        · subst hwv
          rw [hk] at hw'
          have hw' := Option.some.inj hw'
          subst hw'
          refine ⟨?_, trivial⟩
          rw [yset_eq hv]
          show _ = some (2, (ytk S k).p k)
          rw [ytk_p1]
        · rw [yset_ne hwv]
          obtain ⟨q1, q2⟩ := e3 w' k' hw'
          cases k' using yk.cs with
          | i => exact ⟨q1, q2⟩
          | l => exact ⟨q1, q2⟩
          | r b => exact ⟨q1, q2⟩
          | g k' =>
            refine ⟨?_, trivial⟩
            have hne : k' ≠ k := fun e => by
              subst e
              exact hwv (yuq_of ly 0 hu _ _ _ _ _ hb hw').2
            show _ = some (2, (ytk S k).p k')
            rw [q1, ytk_p hne]
            rfl
      · have h := hR.1 b' c' hb'
        cases c' using yc.cs with
        | o c1 m1 ks1 =>
          obtain ⟨fs1, a1, a2, a3⟩ := h
          refine ⟨fs1, by rw [yset_ne hbb]; exact a1, a2, fun w' k' hw' => ?_⟩
          obtain ⟨q1, q2⟩ := a3 w' k' hw'
          cases k' using yk.cs with
          | i => exact ⟨q1, q2⟩
          | l => exact ⟨q1, q2⟩
          | r b => exact ⟨q1, q2⟩
          | g k' =>
            refine ⟨?_, trivial⟩
            have hne : k' ≠ k := fun e => by
              subst e
              have := (yuq_of ly 0 hu _ _ _ _ _ hb' hw').1
              omega
            show _ = some (2, (ytk S k).p k')
            rw [q1, ytk_p hne]
            rfl
        | a u n =>
          show yarr _ b' u n ((ytk S k).a b')
          rw [ytk_a (by omega)]
          exact yarr_other hbb h
        | x => trivial
    · have hq5 : q < 5 := by
        rcases hq with hq | ⟨-, hq⟩
        · exact hq
        · cases hq
      by_cases hqk : q = k
      · subst hqk
        obtain ⟨g1, g2, g3⟩ := hR.2.1 5 a5
        rw [ytk_p1, ytk_n1, ytk_a1, yG_lt (S := S) hq5, hkd]
        exact ⟨yarr_other (yRep_p hR hb (by first | exact yc.o_x | exact yc.a_x) a5) g1, g2, g3⟩
      · obtain ⟨g1, g2, g3⟩ := hR.2.1 q (Or.inl hq5)
        rw [ytk_p hqk, ytk_n hqk, ytk_a (by omega), yG_lt (S := S) hq5]
        exact ⟨yarr_other (yRep_p hR hb (by first | exact yc.o_x | exact yc.a_x) (Or.inl hq5)) g1, g2, g3⟩
    · have hq5 : q < 5 := by
        rcases hq with hq | ⟨-, hq⟩
        · exact hq
        · cases hq
      have hj5 : j < 5 := by
        rcases hj with hj | ⟨-, hj⟩
        · exact hj
        · cases hj
      by_cases hqk : q = k
      · by_cases hjk : j = k
        · omega
        · subst hqk
          rw [ytk_p1, ytk_p hjk] at e
          have := hR.2.2.1 5 j a5 (Or.inl hj5) e
          omega
      · by_cases hjk : j = k
        · subst hjk
          rw [ytk_p1, ytk_p hqk] at e
          have := hR.2.2.1 q 5 (Or.inl hq5) a5 e
          omega
        · rw [ytk_p hqk, ytk_p hjk] at e
          exact hR.2.2.1 q j (Or.inl hq5) (Or.inl hj5) e
  · rw [xstep_eq, h1, xdisp_11]
    simp only [xh11, xf_eq, h2, h3, h4, xnth_eq', e1, ybeqT, yblt hv, Bool.and_true, cond_true, xvset_eq, xhset_eq]
    rfl
/-! copies -/
theorem xg_xcp (N M i j : Nat) : ∀ (n q : Nat), xg 32 (xcp N M i j n) q = if j ≤ q ∧ q < j + n then xg 32 N (i + (q - j)) else xg 32 M q := by
  intro n
  induction n with
  | zero => intro q; rw [if_neg (by omega)]; rfl
  | succ n ih =>
    intro q
    show xg 32 (xs 32 (xcp N M i j n) (j + n) (xg 32 N (i + n))) q = _
    rw [xg_xs _ _ _ _ _ (xg_lt 32 N (i + n))]
    by_cases hq : q = j + n
    · rw [if_pos hq, if_pos (by omega)]
      congr 1
      omega
    · rw [if_neg hq, ih]
      by_cases h1 : j ≤ q ∧ q < j + n
      · rw [if_pos h1, if_pos (by omega)]
      · rw [if_neg h1, if_neg (by omega)]
theorem xby8_of {N i : Nat} {g : Nat → Int} : ∀ n, (∀ j, j < n → xg 32 N (i + j) = enc (g j) ∧ -128 ≤ g j ∧ g j ≤ 127) → xby8 N i n = true := by
  intro n
  induction n with
  | zero => intro _; rfl
  | succ n ih =>
    intro h
    show ((Nat.blt (xg 32 N (i + n)) 128 || Nat.ble 4294967168 (xg 32 N (i + n))) && xby8 N i n) = true
    rw [ih (fun j hj => h j (by omega)), Bool.and_true]
    obtain ⟨e, h1, h2⟩ := h n (by omega)
    rw [e]
    by_cases h0 : 0 ≤ g n
    · have := enc_nat h0 (by omega : g n < 4294967296)
      rw [yblt (by omega)]
      rfl
    · have : (enc (g n) : Int) = g n + 4294967296 := by unfold enc; omega
      rw [yble (show 4294967168 ≤ enc (g n) by omega), Bool.or_true]
theorem r_copy {k1 k2 : Nat} {z1 z2 m : Int} (h : yq C i 25 0 0 0 = true) (hk1 : yact S k1) (hk2 : yact S k2) (hne : k1 ≠ k2) (hd : 2 ≤ d) (hl : Nat.ble st.length 8 = true) (hkd : yG S k1 = yG S k2) (hg : yG S k1 = 8 ∨ yG S k1 = 10) (h1 : 0 ≤ z1) (h2 : 0 ≤ z2) (hm : 0 ≤ m) (e1 : z1 + m ≤ S.n k1) (e2 : z2 + m ≤ S.n k2)
    (kk : yT P G ly C (i + 1) L st (ycp S k1 z1.toNat k2 z2.toNat m.toNat) d Q) : yT P G ly C i L (vi m :: vi z2 :: (2, S.p k2) :: vi z1 :: (2, S.p k1) :: st) S d Q := by
  obtain ⟨r1, r2, r3, r4⟩ := yq_of h
  refine yT_of (fun hp lv hR hl2 => ?_) kk
  obtain ⟨⟨N1, a1, a2⟩, -, n1⟩ := hR.2.1 k1 hk1
  obtain ⟨⟨N2, b1, b2⟩, -, n2⟩ := hR.2.1 k2 hk2
  have ez1 : enc z1 = z1.toNat := by have := enc_nat h1 (by omega : z1 < 4294967296); omega
  have ez2 : enc z2 = z2.toNat := by have := enc_nat h2 (by omega : z2 < 4294967296); omega
  have em : enc m = m.toNat := by have := enc_nat hm (by omega : m < 4294967296); omega
  have hw : ywid (yG S k1) = 32 := by rcases hg with h | h <;> (rw [h]; rfl)
  have hen : ∀ z, yen (yG S k1) z = enc z := by intro z; rcases hg with h | h <;> (rw [h]; rfl)
  refine ⟨hp.set (S.p k2) ((1000 + yG S k2, S.n k2), xcp N1 N2 z1.toNat z2.toNat m.toNat, []), lv, ?_, hl2, fun ih => ?_⟩
  · have hc : ∀ b j, (ycp S k1 z1.toNat k2 z2.toNat m.toNat).a b j = if b = 100 + k2 ∧ (z2.toNat ≤ j ∧ j < z2.toNat + m.toNat) then S.a (100 + k1) (z1.toNat + (j - z2.toNat)) else S.a b j := by
      intro b j
      show cond (Nat.beq b (100 + k2) && (Nat.ble z2.toNat j && Nat.blt j (z2.toNat + m.toNat))) (S.a (100 + k1) (z1.toNat + (j - z2.toNat))) (S.a b j) = _
      by_cases hb : b = 100 + k2
      · subst hb
        rw [ybeqT, Bool.true_and]
        by_cases hj : z2.toNat ≤ j ∧ j < z2.toNat + m.toNat
        · rw [yble hj.1, yblt hj.2, if_pos ⟨rfl, hj⟩]; rfl
        · rw [if_neg (fun h => hj h.2)]
          by_cases hj1 : z2.toNat ≤ j
          · rw [ybltF (show z2.toNat + m.toNat ≤ j by omega), Bool.and_false]; rfl
          · rw [ybleF (show j < z2.toNat by omega)]; rfl
      · rw [ybeqF hb, if_neg (fun h => hb h.1)]; rfl
    refine ⟨fun b' c' hb' => ?_, fun k hk => ?_, hR.2.2.1, by rw [List.length_set]; exact hR.2.2.2.1, hR.2.2.2.2⟩
    · have h9 := hR.1 b' c' hb'
      have hlt := ylt hb'
      have h100 := hR.2.2.2.2
      cases c' using yc.cs with
      | o c1 m1 ks1 =>
        have hne : b' ≠ S.p k2 := fun e => yRep_p hR hb' (by first | exact yc.o_x | exact yc.a_x) hk2 e.symm
        obtain ⟨fs1, q1, q2, q3⟩ := h9
        exact ⟨fs1, by rw [yset_ne hne]; exact q1, q2, q3⟩
      | a u' n' =>
        have hne : b' ≠ S.p k2 := fun e => yRep_p hR hb' (by first | exact yc.o_x | exact yc.a_x) hk2 e.symm
        have e : (ycp S k1 z1.toNat k2 z2.toNat m.toNat).a b' = S.a b' := by
          funext j'
          rw [hc, if_neg (by omega)]
        show yarr _ b' u' n' ((ycp S k1 z1.toNat k2 z2.toNat m.toNat).a b')
        rw [e]
        exact yarr_other hne h9
      | x => trivial
    · obtain ⟨g1, g2, g3⟩ := hR.2.1 k hk
      refine ⟨?_, g2, g3⟩
      by_cases hkk : k = k2
      · subst hkk
        refine ⟨_, yset_eq (ylt b1), fun j hj => ?_⟩
        have hj : j < S.n k := hj
        show xg (ywid (yG S k)) _ j = yen (yG S k) ((ycp S k1 z1.toNat k z2.toNat m.toNat).a (100 + k) j) ∧ yer (yG S k) ((ycp S k1 z1.toNat k z2.toNat m.toNat).a (100 + k) j)
        rw [hc, ← hkd, hw, xg_xcp]
        by_cases hjj : z2.toNat ≤ j ∧ j < z2.toNat + m.toNat
        · rw [if_pos hjj, if_pos ⟨rfl, hjj⟩]
          have := a2 (z1.toNat + (j - z2.toNat)) (by omega)
          rw [hw] at this
          exact this
        · rw [if_neg hjj, if_neg (fun h => hjj h.2)]
          have := b2 j hj
          rw [← hkd, hw] at this
          exact this
      · have hne2 : S.p k ≠ S.p k2 := fun e => hkk (hR.2.2.1 k k2 hk hk2 e)
        have e : (ycp S k1 z1.toNat k2 z2.toNat m.toNat).a (100 + k) = S.a (100 + k) := by
          funext j'
          rw [hc, if_neg (by omega)]
        show yarr _ (S.p k) (yG S k) (S.n k) ((ycp S k1 z1.toNat k2 z2.toNat m.toNat).a (100 + k))
        rw [e]
        exact yarr_other hne2 g1
  · have hby : (Nat.beq (1000 + yG S k1) 1008 && (Nat.beq (1000 + yG S k2) 1008 && xby8 N1 z1.toNat m.toNat) || Nat.beq (1000 + yG S k1) 1010 && Nat.beq (1000 + yG S k2) 1010) = true := by
      rcases hg with hg | hg
      · rw [← hkd, hg]
        have : xby8 N1 z1.toNat m.toNat = true := xby8_of (g := fun j => S.a (100 + k1) (z1.toNat + j)) _ (fun j hj => by
          have h9 := a2 (z1.toNat + j) (by omega)
          rw [hg] at h9
          exact ⟨h9.1, h9.2.1, h9.2.2⟩)
        rw [this]
        rfl
      · rw [← hkd, hg]
        simp
    rw [xstep_eq, r1, xdisp_25]
    unfold vi
    rw [ez1, ez2, em]
    simp only [xh25, xf_eq, xnth_eq', a1, b1, yble hd, hl, hby, yble (show z1.toNat + m.toNat ≤ S.n k1 by omega), yble (show z2.toNat + m.toNat ≤ S.n k2 by omega), yblt n1, yblt n2, Bool.and_true, Bool.true_and, cond_true, xhset_eq]
    rfl
end
end XNC
