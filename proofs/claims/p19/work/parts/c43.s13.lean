noncomputable section XNC
/-! The state at the law's loop, as functions. -/
def zf (b w : Nat) : Int := match xnth xH13 b with
  | some (_, _, fs) => (match xnth fs w with
    | some (0, v) => dec v
    | some (1, v) => dcl v
    | _ => 0)
  | none => 0
def za (b j : Nat) : Int := match xnth xH13 b with
  | some ((c, _), N, _) => cond (Nat.beq c 1011) (dcl (xg 64 N j)) (dec (xg 32 N j))
  | none => 0
def zp : Nat → Nat
  | 0 => 32
  | 1 => 35
  | 2 => 38
  | 3 => 39
  | _ => 41
def zn : Nat → Nat
  | 0 => 512
  | 1 => 512
  | _ => 128
def z13 : yS := yS.mk zf za zp zn 600942 7189125 false
/-- a field as the layout has it -/
def zk (k : yk) (x : xv) : Bool := Sum.elim (fun q => cond q (Nat.beq x.1 1 && Nat.blt x.2 18446744073709551616) (Nat.beq x.1 0 && Nat.blt x.2 4294967296)) (fun s => Sum.elim (fun q => Nat.beq x.1 2 && Nat.beq x.2 q) (fun k => Nat.beq x.1 2 && Nat.beq x.2 (zp k)) s) k
def zks : List yk → List xv → Bool
  | [], [] => true
  | k :: r, x :: s => zk k x && zks r s
  | _, _ => false
def zc (b : Nat) (c : yc) : Bool := Sum.elim (fun q => match xnth xH13 b with
    | some ((c, m), N, fs) => Nat.beq c q.1 && (Nat.beq m q.2.1 && (Nat.beq N 0 && zks q.2.2 fs))
    | none => false) (fun s => match s with
    | none => true
    | some (u, n) => match xnth xH13 b with
      | some ((c, m), N, fs) => Nat.beq c (1000 + u) && (Nat.beq m n && ((match fs with
        | [] => true
        | _ => false) && (Nat.beq u 10 || (Nat.beq u 11 || (Nat.beq u 4 && Nat.ble N (N / 1) && (List.range n).all (fun i => Nat.ble (xg 32 N i) 1))))))
      | none => false) c
theorem zks_of : ∀ (ks : List yk) (fs : List xv), zks ks fs = true → fs.length = ks.length ∧ ∀ (w : Nat) (k : yk), ks[w]? = some k → ∃ x, fs[w]? = some x ∧ zk k x = true := by
  intro ks
  induction ks with
  | nil =>
    intro fs h
    cases fs with
    | nil => exact ⟨rfl, fun w k hk => by cases hk⟩
    | cons x s => cases h
  | cons k r ih =>
    intro fs h
    cases fs with
    | nil => cases h
    | cons x s =>
      have h : (zk k x && zks r s) = true := h
      rw [Bool.and_eq_true] at h
      obtain ⟨h1, h2⟩ := ih s h.2
      refine ⟨by rw [List.length_cons, List.length_cons, h1], fun w q hq => ?_⟩
      cases w with
      | zero =>
        have hq : some k = some q := by simpa using hq
        cases hq
        exact ⟨x, by simp, h.1⟩
      | succ w =>
        have hq : r[w]? = some q := by simpa using hq
        obtain ⟨y, h3, h4⟩ := h2 w q hq
        exact ⟨y, by simpa using h3, h4⟩
theorem zfv {b w : Nat} {k : yk} {c : Nat × Nat} {N : Nat} {fs : List xv} {x : xv} (hb : xH13[b]? = some (c, N, fs)) (hx : fs[w]? = some x) (h : zk k x = true) : x = yfv z13 b w k ∧ yfr z13 b w k := by
  obtain ⟨t, v⟩ := x
  have e : zf b w = (match (some (t, v) : Option xv) with
    | some (0, v) => dec v
    | some (1, v) => dcl v
    | _ => 0) := by
    unfold zf
    rw [xnth_eq', hb]
    simp only [xnth_eq', hx]
  cases k using yk.cs with
  | i =>
    have h : (Nat.beq t 0 && Nat.blt v 4294967296) = true := h
    rw [Bool.and_eq_true, Nat.blt_eq] at h
    have ht := Nat.eq_of_beq_eq_true h.1
    subst ht
    have e : zf b w = dec v := e
    refine ⟨?_, ?_⟩
    · show (0, v) = vi (zf b w)
      rw [e]
      unfold vi
      rw [enc_dec h.2]
    · show Rg (zf b w)
      rw [e]
      exact dec_rg h.2
  | l =>
    have h : (Nat.beq t 1 && Nat.blt v 18446744073709551616) = true := h
    rw [Bool.and_eq_true, Nat.blt_eq] at h
    have ht := Nat.eq_of_beq_eq_true h.1
    subst ht
    have e : zf b w = dcl v := e
    refine ⟨?_, ?_⟩
    · show (1, v) = vl (zf b w)
      rw [e]
      unfold vl
      rw [enl_dcl h.2]
    · show Rl (zf b w)
      rw [e]
      exact dcl_rl h.2
  | r q =>
    have h : (Nat.beq t 2 && Nat.beq v q) = true := h
    rw [Bool.and_eq_true] at h
    have ht := Nat.eq_of_beq_eq_true h.1
    have hv := Nat.eq_of_beq_eq_true h.2
    subst ht hv
    exact ⟨rfl, trivial⟩
  | g q =>
    have h : (Nat.beq t 2 && Nat.beq v (zp q)) = true := h
    rw [Bool.and_eq_true] at h
    have ht := Nat.eq_of_beq_eq_true h.1
    have hv := Nat.eq_of_beq_eq_true h.2
    subst ht hv
    exact ⟨rfl, trivial⟩
theorem zc_of {b : Nat} {c : yc} (h : zc b c = true) : ycell z13 xH13 b c := by
  cases c using yc.cs with
  | o c m ks =>
    have h : (match xnth xH13 b with
      | some ((c1, m1), N, fs) => Nat.beq c1 c && (Nat.beq m1 m && (Nat.beq N 0 && zks ks fs))
      | none => false) = true := h
    rw [xnth_eq'] at h
    cases hb : xH13[b]? with
    | none => rw [hb] at h; cases h
    | some q =>
      obtain ⟨⟨c1, m1⟩, N, fs⟩ := q
      rw [hb] at h
      simp only [Bool.and_eq_true] at h
      obtain ⟨g1, g2, g3, g4⟩ := h
      have g1 := Nat.eq_of_beq_eq_true g1
      have g2 := Nat.eq_of_beq_eq_true g2
      have g3 := Nat.eq_of_beq_eq_true g3
      subst g1 g2 g3
      obtain ⟨k1, k2⟩ := zks_of ks fs g4
      refine ⟨fs, hb, k1, fun w k hk => ?_⟩
      obtain ⟨x, h1, h2⟩ := k2 w k hk
      obtain ⟨h3, h4⟩ := zfv hb h1 h2
      exact ⟨by rw [h1, h3], h4⟩
  | a u n =>
    have h : (match xnth xH13 b with
      | some ((c, m), N, fs) => Nat.beq c (1000 + u) && (Nat.beq m n && ((match fs with
        | [] => true
        | _ => false) && (Nat.beq u 10 || (Nat.beq u 11 || (Nat.beq u 4 && Nat.ble N (N / 1) && (List.range n).all (fun i => Nat.ble (xg 32 N i) 1))))))
      | none => false) = true := h
    rw [xnth_eq'] at h
    cases hb : xH13[b]? with
    | none => rw [hb] at h; cases h
    | some q =>
      obtain ⟨⟨c1, m1⟩, N, fs⟩ := q
      rw [hb] at h
      simp only [Bool.and_eq_true] at h
      obtain ⟨g1, g2, g3, g4⟩ := h
      have g1 := Nat.eq_of_beq_eq_true g1
      have g2 := Nat.eq_of_beq_eq_true g2
      subst g1 g2
      have g3 : fs = [] := by
        cases fs with
        | nil => rfl
        | cons x s => cases g3
      subst g3
      have ea : ∀ j, za b j = cond (Nat.beq (1000 + u) 1011) (dcl (xg 64 N j)) (dec (xg 32 N j)) := by
        intro j
        unfold za
        rw [xnth_eq', hb]
      refine ⟨N, hb, fun i hi => ?_⟩
      show xg (ywid u) N i = yen u (za b i) ∧ yer u (za b i)
      rw [ea]
      rw [Bool.or_eq_true, Bool.or_eq_true] at g4
      rcases g4 with g | g | g
      · have g := Nat.eq_of_beq_eq_true g
        subst g
        have hlt : xg 32 N i < 4294967296 := xg_lt 32 N i
        exact ⟨(enc_dec hlt).symm, dec_rg hlt⟩
      · have g := Nat.eq_of_beq_eq_true g
        subst g
        have hlt : xg 64 N i < 18446744073709551616 := xg_lt 64 N i
        exact ⟨(enl_dcl hlt).symm, dcl_rl hlt⟩
      · rw [Bool.and_eq_true, Bool.and_eq_true] at g
        have g0 := Nat.eq_of_beq_eq_true g.1.1
        subst g0
        have hlt : xg 32 N i < 4294967296 := xg_lt 32 N i
        have h1 := Nat.le_of_ble_eq_true (List.all_eq_true.mp g.2 i (List.mem_range.mpr hi))
        refine ⟨(enc_dec hlt).symm, ?_⟩
        show 0 ≤ dec (xg 32 N i) ∧ dec (xg 32 N i) ≤ 1
        unfold dec
        rw [if_pos (by omega)]
        omega
  | x => trivial
def zcs : List yc → Nat → Bool
  | [], _ => true
  | c :: r, b => zc b c && zcs r (b + 1)
theorem zcs_of : ∀ (l : List yc) (b : Nat), zcs l b = true → ∀ (j : Nat) (c : yc), l[j]? = some c → zc (b + j) c = true := by
  intro l
  induction l with
  | nil => intro b _ j c hc; cases hc
  | cons q r ih =>
    intro b h j c hc
    have h : (zc b q && zcs r (b + 1)) = true := h
    rw [Bool.and_eq_true] at h
    cases j with
    | zero =>
      have hc : some q = some c := by simpa using hc
      cases hc
      exact h.1
    | succ j =>
      have hc : r[j]? = some c := by simpa using hc
      have := ih (b + 1) h.2 j c hc
      rwa [show b + 1 + j = b + (j + 1) by omega] at this
theorem zLY : zcs LY 0 = true := by decide +kernel
theorem zgr : ((List.range 5).all fun k => match xnth xH13 (zp k) with
    | some ((c, m), N, []) => Nat.beq N 0 && (Nat.beq c (cond (Nat.blt k 2) 1008 1010) && Nat.beq m (zn k))
    | _ => false) = true := by decide +kernel
theorem z_rep : yRep LY z13 xH13 := by
  refine ⟨fun b c hb => ?_, fun k hk => ?_, fun k j hk hj e => ?_, by decide +kernel, by decide +kernel⟩
  · have := zcs_of LY 0 zLY b c hb
    rw [Nat.zero_add] at this
    exact zc_of this
  · have hk : k < 5 := by
      rcases hk with h | ⟨_, h⟩
      · exact h
      · cases h
    have h := List.all_eq_true.mp zgr k (List.mem_range.mpr hk)
    rw [xnth_eq'] at h
    have ha : ∀ j, z13.a (100 + k) j = 0 := by
      intro j
      show za (100 + k) j = 0
      unfold za
      have e : xnth xH13 (100 + k) = none := by
        rw [xnth_eq']
        exact List.getElem?_eq_none (Nat.le_trans (by decide +kernel : xH13.length ≤ 100) (Nat.le_add_right _ _))
      rw [e]
    refine ⟨?_, ?_, ?_⟩
    · cases hb : xH13[zp k]? with
      | none => rw [hb] at h; cases h
      | some q =>
        obtain ⟨⟨c, m⟩, N, fs⟩ := q
        rw [hb] at h
        cases fs with
        | cons x s => cases h
        | nil =>
          simp only [Bool.and_eq_true] at h
          obtain ⟨g1, g2, g3⟩ := h
          have g1 := Nat.eq_of_beq_eq_true g1
          have g2 := Nat.eq_of_beq_eq_true g2
          have g3 := Nat.eq_of_beq_eq_true g3
          subst g1 g2 g3
          refine ⟨0, ?_, fun i hi => ?_⟩
          · show xH13[zp k]? = some ((1000 + yG z13 k, zn k), 0, [])
            rw [hb]
            have e5 : k = 0 ∨ k = 1 ∨ k = 2 ∨ k = 3 ∨ k = 4 := by omega
            rcases e5 with rfl | rfl | rfl | rfl | rfl <;> rfl
          · rw [ha i, xg_zero]
            have e5 : k = 0 ∨ k = 1 ∨ k = 2 ∨ k = 3 ∨ k = 4 := by omega
            rcases e5 with rfl | rfl | rfl | rfl | rfl
            · exact ⟨rfl, by show (-128 : Int) ≤ 0 ∧ (0 : Int) ≤ 127; decide⟩
            · exact ⟨rfl, by show (-128 : Int) ≤ 0 ∧ (0 : Int) ≤ 127; decide⟩
            · exact ⟨rfl, by show Rg 0; decide⟩
            · exact ⟨rfl, by show Rg 0; decide⟩
            · exact ⟨rfl, by show Rg 0; decide⟩
    · left
      have e5 : k = 0 ∨ k = 1 ∨ k = 2 ∨ k = 3 ∨ k = 4 := by omega
      rcases e5 with rfl | rfl | rfl | rfl | rfl <;> rfl
    · have e5 : k = 0 ∨ k = 1 ∨ k = 2 ∨ k = 3 ∨ k = 4 := by omega
      rcases e5 with rfl | rfl | rfl | rfl | rfl <;> (show _ < 1048576; decide)
  · have h1 : k < 5 := by
      rcases hk with h | ⟨_, h⟩
      · exact h
      · cases h
    have h2 : j < 5 := by
      rcases hj with h | ⟨_, h⟩
      · exact h
      · cases h
    have e : zp k = zp j := e
    have e5 : k = 0 ∨ k = 1 ∨ k = 2 ∨ k = 3 ∨ k = 4 := by omega
    have e6 : j = 0 ∨ j = 1 ∨ j = 2 ∨ j = 3 ∨ j = 4 := by omega
    rcases e5 with rfl | rfl | rfl | rfl | rfl <;> rcases e6 with rfl | rfl | rfl | rfl | rfl <;> first | rfl | (exfalso; revert e; decide)
/-! what always holds, there -/
def zT (q : Nat × Nat × Int × Int) : Bool := decide (q.2.2.1 ≤ zf q.1 q.2.1) && decide (zf q.1 q.2.1 ≤ q.2.2.2)
theorem zTF : TFt.all zT = true := by decide +kernel
theorem zTF_of : ∀ (l : List (Nat × Nat × Int × Int)), l.all zT = true → ∀ b w lo hi, yfd l b w = some (lo, hi) → lo ≤ zf b w ∧ zf b w ≤ hi := by
  intro l
  induction l with
  | nil => intro _ b w lo hi h; cases h
  | cons q r ih =>
    intro h b w lo hi e
    obtain ⟨a, v, l1, h1⟩ := q
    rw [List.all_cons, Bool.and_eq_true] at h
    have e : cond (Nat.beq a b && Nat.beq v w) (some (l1, h1)) (yfd r b w) = some (lo, hi) := e
    cases hc : Nat.beq a b && Nat.beq v w with
    | false => rw [hc] at e; exact ih h.2 b w lo hi e
    | true =>
      rw [hc] at e
      have e9 := Option.some.inj (show some (l1, h1) = some (lo, hi) from e)
      rw [Bool.and_eq_true] at hc
      have e1 := Nat.eq_of_beq_eq_true hc.1
      have e2 := Nat.eq_of_beq_eq_true hc.2
      subst e1 e2
      have e3 : l1 = lo := congrArg (fun q => q.1) e9
      have e4 : h1 = hi := congrArg (fun q => q.2) e9
      subst e3 e4
      have h9 := h.1
      unfold zT at h9
      rw [Bool.and_eq_true, decide_eq_true_eq, decide_eq_true_eq] at h9
      exact h9
/-- a row: its first 4 elements, the others 0 -/
def zA (q : Nat × Int × Int) : Bool := match xnth xH13 q.1 with
  | some ((c, _), N, _) => Nat.blt N (2 ^ 128) && (!(Nat.beq c 1011) && (decide (q.2.1 ≤ 0) && (decide (0 ≤ q.2.2) && (List.range 4).all (fun j => decide (q.2.1 ≤ za q.1 j) && decide (za q.1 j ≤ q.2.2)))))
  | none => false
theorem zTA : TAt.all zA = true := by decide +kernel
theorem xg_hi {N j : Nat} (h : N < 2 ^ 128) (hj : 4 ≤ j) : xg 32 N j = 0 := by
  have h1 : Nat.shiftRight N (32 * j) = 0 := by
    show N >>> (32 * j) = 0
    rw [Nat.shiftRight_eq_div_pow]
    exact Nat.div_eq_of_lt (Nat.lt_of_lt_of_le h (Nat.pow_le_pow_right (by decide) (by omega)))
  unfold xg
  rw [h1]
  exact Nat.zero_and _
theorem za_hi {b j c m N : Nat} {fs : List xv} (hb : xH13[b]? = some ((c, m), N, fs)) (hc : Nat.beq c 1011 = false) (h : N < 2 ^ 128) (hj : 4 ≤ j) : za b j = 0 := by
  unfold za
  rw [xnth_eq', hb]
  show cond (Nat.beq c 1011) _ _ = _
  rw [hc, cond_false, xg_hi h hj]
  rfl
theorem zTA_of : ∀ (l : List (Nat × Int × Int)), l.all zA = true → ∀ b lo hi, yad l b = some (lo, hi) → ∀ j, lo ≤ za b j ∧ za b j ≤ hi := by
  intro l
  induction l with
  | nil => intro _ b lo hi h; cases h
  | cons q r ih =>
    intro h b lo hi e j
    obtain ⟨a, l1, h1⟩ := q
    rw [List.all_cons, Bool.and_eq_true] at h
    have e : cond (Nat.beq a b) (some (l1, h1)) (yad r b) = some (lo, hi) := e
    cases hc : Nat.beq a b with
    | false => rw [hc] at e; exact ih h.2 b lo hi e j
    | true =>
      rw [hc] at e
      have e9 := Option.some.inj (show some (l1, h1) = some (lo, hi) from e)
      have e1 := Nat.eq_of_beq_eq_true hc
      subst e1
      have e3 : l1 = lo := congrArg (fun q => q.1) e9
      have e4 : h1 = hi := congrArg (fun q => q.2) e9
      subst e3 e4
      have h9 := h.1
      unfold zA at h9
      simp only [xnth_eq'] at h9
      cases hb : xH13[a]? with
      | none => rw [hb] at h9; cases h9
      | some q =>
        obtain ⟨⟨c, m⟩, N, fs⟩ := q
        rw [hb] at h9
        simp only [Bool.and_eq_true, decide_eq_true_eq, Nat.blt_eq, Bool.not_eq_true'] at h9
        obtain ⟨g1, g2, g3, g4, g5⟩ := h9
        rcases Nat.lt_or_ge j 4 with hj | hj
        · have := List.all_eq_true.mp g5 j (List.mem_range.mpr hj)
          rw [Bool.and_eq_true, decide_eq_true_eq, decide_eq_true_eq] at this
          exact this
        · rw [za_hi hb g2 g1 hj]
          exact ⟨g3, g4⟩
theorem z_zero {b : Nat} (h : (match xnth xH13 b with
    | some ((c, _), N, _) => Nat.beq N 0 && !(Nat.beq c 1011)
    | none => false) = true) (j : Nat) : za b j = 0 := by
  rw [xnth_eq'] at h
  cases hb : xH13[b]? with
  | none => rw [hb] at h; cases h
  | some q =>
    obtain ⟨⟨c, m⟩, N, fs⟩ := q
    rw [hb] at h
    simp only [Bool.and_eq_true, Bool.not_eq_true'] at h
    have h1 := Nat.eq_of_beq_eq_true h.1
    subst h1
    unfold za
    rw [xnth_eq', hb]
    show cond (Nat.beq c 1011) _ _ = _
    rw [h.2, cond_false, xg_zero]
    rfl
theorem KP_0 : KP 0 := KP_of4 (by decide +kernel) (by decide +kernel) (by decide +kernel) (by decide +kernel)
theorem z49 : ((List.range 4).all fun j => decide (za 49 j < (j : Int))) = true := by decide +kernel
theorem z_I : yI z13 := by
  refine yI.mk' ⟨⟨zTF_of TFt zTF, zTA_of TAt zTA⟩, fun j => ?_, fun j => ?_, fun h => ?_, fun h => ?_, fun j => ?_, ?_, ?_, ?_, ?_⟩
  · show KP (za 55 j)
    rw [z_zero (by decide +kernel)]
    exact KP_0
  · show KP (za 13 j)
    rw [z_zero (by decide +kernel)]
    exact KP_0
  · exact absurd h (by show ¬ (4 ≤ zf 43 33); decide +kernel)
  · exact absurd h (by show ¬ (4 ≤ zf 26 4); decide +kernel)
  · show za 49 j < j
    rcases Nat.lt_or_ge j 4 with hj | hj
    · exact of_decide_eq_true (List.all_eq_true.mp z49 j (List.mem_range.mpr hj))
    · rw [za_hi (b := 49) (c := 1010) (m := 20) (N := 79228162532711081671548469247) (fs := []) rfl rfl (by decide) hj]
      omega
  · show 0 ≤ zf 31 1 ∧ zf 31 1 ≤ ((zn 0 : Nat) : Int) ∧ zf 31 1 ≤ 60000
    decide +kernel
  · show 0 ≤ zf 34 1 ∧ zf 34 1 ≤ ((zn 1 : Nat) : Int) ∧ zf 34 1 ≤ 60000
    decide +kernel
  · show 512 ≤ zn 0 ∧ zn 0 ≤ 200000 ∧ 512 ≤ zn 1 ∧ zn 1 ≤ 200000 ∧ 128 ≤ zn 3 ∧ zn 3 ≤ zn 2 ∧ zn 2 ≤ 200000 ∧ 128 ≤ zn 4 ∧ zn 4 ≤ 200000
    decide
  · show 7100000 ≤ 7189125 + 2 * (zn 0 + zn 1 + zn 2 + zn 3 + zn 4) ∧ 76000000 ≤ 128 * 600942 + (zn 0 + zn 1 + zn 2 + zn 3 + zn 4)
    decide
theorem z_N23 : N23 z13 := rfl
theorem z_CR : CR z13 := fun j _ => z_zero (b := 56) (by decide +kernel) j
theorem z_hi {b j : Nat} (h : (match xnth xH13 b with
    | some ((c, _), N, _) => Nat.blt N (2 ^ 128) && !(Nat.beq c 1011)
    | none => false) = true) (hj : 4 ≤ j) : za b j = 0 := by
  rw [xnth_eq'] at h
  cases hb : xH13[b]? with
  | none => rw [hb] at h; cases h
  | some q =>
    obtain ⟨⟨c, m⟩, N, fs⟩ := q
    rw [hb] at h
    simp only [Bool.and_eq_true, Bool.not_eq_true', Nat.blt_eq] at h
    exact za_hi hb h.2 h.1 hj
def zrt (j : Nat) : Bool := decide (za 44 j = za 2 j ∧ za 45 j = yand (za 3 j) 1 ∧ 2 * za 46 j = yand (za 3 j) 2 ∧ 4 * za 47 j = yand (za 3 j) 4 ∧ za 48 j = za 4 j ∧ (za 2 j = 1 → za 49 j = -1 ∧ za 5 j = 0) ∧ (za 2 j = 0 → za 49 j = za 5 j))
theorem zrt_4 : (List.range 4).all zrt = true := by decide +kernel
theorem zrt_0 : zf 1 7 = zf 43 1 ∧ (za 2 0 = 0 ∧ yand (za 3 0) 2 = 0) := by decide +kernel
theorem zrt_z : (0 : Int) = 0 ∧ (0 : Int) = yand 0 1 ∧ 2 * (0 : Int) = yand 0 2 ∧ 4 * (0 : Int) = yand 0 4 ∧ (0 : Int) = 0 ∧ ((0 : Int) = 1 → (0 : Int) = -1 ∧ (0 : Int) = 0) ∧ ((0 : Int) = 0 → (0 : Int) = 0) := by decide +kernel
theorem z_RT : RT z13 := by
  refine ⟨zrt_0.1, zrt_0.2, fun j => ?_⟩
  show za 44 j = za 2 j ∧ za 45 j = yand (za 3 j) 1 ∧ 2 * za 46 j = yand (za 3 j) 2 ∧ 4 * za 47 j = yand (za 3 j) 4 ∧ za 48 j = za 4 j ∧ (za 2 j = 1 → za 49 j = -1 ∧ za 5 j = 0) ∧ (za 2 j = 0 → za 49 j = za 5 j)
  rcases Nat.lt_or_ge j 4 with hj | hj
  · exact of_decide_eq_true (List.all_eq_true.mp zrt_4 j (List.mem_range.mpr hj))
  · rw [z_hi (b := 44) (by decide +kernel) hj, z_hi (b := 2) (by decide +kernel) hj, z_hi (b := 45) (by decide +kernel) hj, z_hi (b := 3) (by decide +kernel) hj, z_hi (b := 46) (by decide +kernel) hj, z_hi (b := 47) (by decide +kernel) hj, z_hi (b := 48) (by decide +kernel) hj, z_hi (b := 4) (by decide +kernel) hj, z_hi (b := 49) (by decide +kernel) hj, z_hi (b := 5) (by decide +kernel) hj]
    exact zrt_z
def zme (j : Nat) : Bool := decide (za 52 j = za 10 j ∧ za 53 j = za 11 j ∧ za 54 j = za 12 j ∧ za 55 j = za 13 j ∧ za 56 j = za 14 j)
theorem zme_4 : (List.range 4).all zme = true := by decide +kernel
theorem z_RMe : RMe z13 := by
  refine ⟨by show zf 9 8 = zf 43 10; decide +kernel, fun j => ?_⟩
  show za 52 j = za 10 j ∧ za 53 j = za 11 j ∧ za 54 j = za 12 j ∧ za 55 j = za 13 j ∧ za 56 j = za 14 j
  rcases Nat.lt_or_ge j 4 with hj | hj
  · exact of_decide_eq_true (List.all_eq_true.mp zme_4 j (List.mem_range.mpr hj))
  · rw [z_hi (b := 52) (by decide +kernel) hj, z_hi (b := 10) (by decide +kernel) hj, z_hi (b := 53) (by decide +kernel) hj, z_hi (b := 11) (by decide +kernel) hj, z_hi (b := 54) (by decide +kernel) hj, z_hi (b := 12) (by decide +kernel) hj, z_hi (b := 55) (by decide +kernel) hj, z_hi (b := 13) (by decide +kernel) hj, z_hi (b := 56) (by decide +kernel) hj, z_hi (b := 14) (by decide +kernel) hj]
    exact ⟨rfl, rfl, rfl, rfl, rfl⟩
def ztb (x y : Nat) : Bool := Nat.beq x y || (Nat.beq y 0 || (Nat.beq y 1 && (Nat.beq x 2 || Nat.beq x 3)))
theorem zsu : ((List.range 4).all fun x => (List.range 20).all fun y => (decide (yand (yshr (za 6 x) ((y : Nat) : Int)) 1 ≠ 0) == ztb x y)) = true := by decide +kernel
theorem z_n : z13.f 1 7 = 4 := (by decide +kernel : zf 1 7 = 4)
theorem z_5 : za 5 1 = 0 ∧ za 5 2 = 1 ∧ za 5 3 = 1 := by decide +kernel
theorem z_7 (j : Nat) : z13.a 7 j = 0 := z_zero (b := 7) (by decide +kernel) j
theorem z_eg {u v : Int} (h : egC z13 u v) : (u = 1 ∧ v = 0) ∨ (u = 2 ∧ v = 1) ∨ (u = 3 ∧ v = 1) := by
  obtain ⟨⟨u0, u1⟩, h⟩ := h
  rw [z_n] at u1
  obtain ⟨p1, p2, p3⟩ := z_5
  rcases h with ⟨a, e⟩ | ⟨i, i0, i1, -⟩
  · rcases (show u = 1 ∨ u = 2 ∨ u = 3 by omega) with rfl | rfl | rfl
    · exact Or.inl ⟨rfl, e.trans p1⟩
    · exact Or.inr (Or.inl ⟨rfl, e.trans p2⟩)
    · exact Or.inr (Or.inr ⟨rfl, e.trans p3⟩)
  · rw [z_7] at i1
    exact absurd i1 (by omega)
theorem z_eg2 : egC z13 1 0 ∧ egC z13 2 1 ∧ egC z13 3 1 := by
  obtain ⟨p1, p2, p3⟩ := z_5
  have n := z_n
  exact ⟨⟨⟨by decide, by omega⟩, Or.inl ⟨by decide, p1.symm⟩⟩, ⟨⟨by decide, by omega⟩, Or.inl ⟨by decide, p2.symm⟩⟩, ⟨⟨by decide, by omega⟩, Or.inl ⟨by decide, p3.symm⟩⟩⟩
theorem z_rc {x y : Int} (x0 : 0 ≤ x) (x4 : x < 4) (y0 : 0 ≤ y) : rcC z13 x y ↔ ztb x.toNat y.toNat = true := by
  have hx : x = 0 ∨ x = 1 ∨ x = 2 ∨ x = 3 := by omega
  constructor
  · intro h
    have h9 := h (fun y => ztb x.toNat y.toNat = true) (by rcases hx with rfl | rfl | rfl | rfl <;> rfl) (fun u v pu e => by
      rcases z_eg e with ⟨rfl, rfl⟩ | ⟨rfl, rfl⟩ | ⟨rfl, rfl⟩ <;> rcases hx with rfl | rfl | rfl | rfl <;> first | rfl | (exfalso; revert pu; decide))
    exact h9
  · intro h
    have h8 : y = x ∨ y = 0 ∨ (y = 1 ∧ (x = 2 ∨ x = 3)) := by
      unfold ztb at h
      rw [Bool.or_eq_true, Bool.or_eq_true, Bool.and_eq_true, Bool.or_eq_true] at h
      rcases h with h | h | ⟨h, h2⟩
      · have := Nat.eq_of_beq_eq_true h
        exact Or.inl (by omega)
      · have := Nat.eq_of_beq_eq_true h
        exact Or.inr (Or.inl (by omega))
      · have := Nat.eq_of_beq_eq_true h
        refine Or.inr (Or.inr ⟨by omega, ?_⟩)
        rcases h2 with h2 | h2
        · have := Nat.eq_of_beq_eq_true h2
          exact Or.inl (by omega)
        · have := Nat.eq_of_beq_eq_true h2
          exact Or.inr (by omega)
    obtain ⟨g1, g2, g3⟩ := z_eg2
    have r10 : rcC z13 1 0 := rcC_step rcC_refl g1
    have r21 : rcC z13 2 1 := rcC_step rcC_refl g2
    have r31 : rcC z13 3 1 := rcC_step rcC_refl g3
    rcases h8 with rfl | rfl | ⟨rfl, rfl | rfl⟩
    · exact rcC_refl
    · rcases hx with rfl | rfl | rfl | rfl
      · exact rcC_refl
      · exact r10
      · exact rcC_trans r21 r10
      · exact rcC_trans r31 r10
    · exact r21
    · exact r31
theorem z_RS : RS z13 := by
  refine ⟨⟨fun x x1 x2 => ?_, fun x i x0 x1 i0 i1 => ?_, fun x hx => z_7 _⟩, fun x y x0 x1 y0 y1 => ?_, ⟨fun j => ?_, fun j => ?_⟩, fun j => ?_, fun j hj => ?_⟩
  · rw [z_n] at x2
    obtain ⟨p1, p2, p3⟩ := z_5
    rcases (show x = 1 ∨ x = 2 ∨ x = 3 by omega) with rfl | rfl | rfl
    · show 0 ≤ za 5 1 ∧ za 5 1 < 1
      omega
    · show 0 ≤ za 5 2 ∧ za 5 2 < 2
      omega
    · show 0 ≤ za 5 3 ∧ za 5 3 < 3
      omega
  · rw [z_7] at i1
    exact absurd i1 (by omega)
  · rw [z_n] at x1
    have h9 := List.all_eq_true.mp zsu x.toNat (List.mem_range.mpr (by omega))
    have h9 := List.all_eq_true.mp h9 y.toNat (List.mem_range.mpr (by omega))
    have h9 : (decide (yand (yshr (za 6 x.toNat) ((y.toNat : Nat) : Int)) 1 ≠ 0) == ztb x.toNat y.toNat) = true := h9
    rw [show ((y.toNat : Nat) : Int) = y by omega, beq_iff_eq] at h9
    rw [z_rc x0 x1 y0, ← h9]
    show yand (yshr (za 6 x.toNat) y) 1 ≠ 0 ↔ _
    exact decide_eq_true_iff.symm
  · show za 51 j = za 7 j
    rw [z_zero (b := 51) (by decide +kernel), z_zero (b := 7) (by decide +kernel)]
  · show za 50 j = za 8 j
    rw [z_zero (b := 50) (by decide +kernel), z_zero (b := 8) (by decide +kernel)]
  · exact Or.inl (z_zero (b := 2) (by decide +kernel) j)
  · exact z_zero (b := 2) (by decide +kernel) j
theorem z_RTh : RTh z13 := by
  intro j
  show za 58 j = za 15 j ∧ za 57 j = za 16 j
  rw [z_zero (b := 58) (by decide +kernel), z_zero (b := 15) (by decide +kernel), z_zero (b := 57) (by decide +kernel), z_zero (b := 16) (by decide +kernel)]
  exact ⟨rfl, rfl⟩
theorem z_RI : RI z13 := by
  refine ⟨fun x i x0 x1 i0 i1 => ?_, fun x x0 x1 x2 => z_zero (b := 2) (by decide +kernel) _⟩
  rw [z_7] at i1
  exact absurd i1 (by omega)
theorem z_RK : RK z13 := by
  intro j
  have e : z13.a 56 j = 0 := z_zero (b := 56) (by decide +kernel) j
  have n : z13.f 43 1 = 4 := (by decide +kernel : zf 43 1 = 4)
  omega
theorem z_RSl : RSl z13 := by
  have n : z13.f 22 3 = 0 := (by decide +kernel : zf 22 3 = 0)
  refine ⟨(by decide +kernel : zf 22 3 = zf 43 20), fun j hj => absurd hj (by omega)⟩
theorem z_RP : RP z13 := by
  intro j
  show za 59 j = za 42 j
  rw [z_zero (b := 59) (by decide +kernel), z_zero (b := 42) (by decide +kernel)]
theorem z_RSk : RSk z13 := by
  have n : z13.f 22 3 = 0 := (by decide +kernel : zf 22 3 = 0)
  exact fun j hj => absurd hj (by omega)
theorem z_RW : RW z13 := by
  have n1 : z13.f 31 1 = 0 := (by decide +kernel : zf 31 1 = 0)
  have n2 : z13.f 43 42 = 0 := (by decide +kernel : zf 43 42 = 0)
  refine ⟨n1.trans n2.symm, ?_⟩
  rw [n1, n2]
  rfl
theorem zo_4 : (List.range 4).all (fun j => decide (za 52 j < 4)) = true := by decide +kernel
theorem zo_5 : (List.range 4).all (fun j => decide (¬ (yand (za 54 j) 1 ≠ 0 ∧ yand (za 54 j) 2 ≠ 0))) = true := by decide +kernel
theorem zo_6 : wdA 0 (hmn 0).toNat = wdA 0 4 ∧ ¬ (yand 0 1 ≠ 0 ∧ yand 0 2 ≠ 0) := by decide +kernel
theorem z_vZ : vZ z13 := by
  have n : z13.f 43 1 = 4 := (by decide +kernel : zf 43 1 = 4)
  refine ⟨fun j => ?_, fun j => ?_⟩
  · have e5 : z13.a 55 j = 0 := z_zero (b := 55) (by decide +kernel) j
    have e6 : z13.a 56 j = 0 := z_zero (b := 56) (by decide +kernel) j
    rw [e5, e6]
    refine ⟨zo_6.1, ?_, fun _ => rfl⟩
    show ¬ (yand (za 54 j) 1 ≠ 0 ∧ yand (za 54 j) 2 ≠ 0)
    rcases Nat.lt_or_ge j 4 with hj | hj
    · exact of_decide_eq_true (List.all_eq_true.mp zo_5 j (List.mem_range.mpr hj))
    · rw [z_hi (b := 54) (by decide +kernel) hj]
      exact zo_6.2
  · rw [n]
    show za 52 j < 4
    rcases Nat.lt_or_ge j 4 with hj | hj
    · exact of_decide_eq_true (List.all_eq_true.mp zo_4 j (List.mem_range.mpr hj))
    · rw [z_hi (b := 52) (by decide +kernel) hj]
      decide
theorem z_RM : wRM 5200 z13 := by
  show 7100000 + 6 * 5200 ≤ ((7189125 + 2 * (zn 0 + zn 1 + zn 2 + zn 3 + zn 4) : Nat) : Int) ∧ 76000000 + 128 * 5200 ≤ ((128 * 600942 + (zn 0 + zn 1 + zn 2 + zn 3 + zn 4) : Nat) : Int)
  decide
theorem z_L : yL [some ((6, 0)), some ((2, 0)), some ((2, 43)), some ((2, 81)), some (vi 0), none, none] xl13 := by
  intro u x hu
  have e : u = 0 ∨ u = 1 ∨ u = 2 ∨ u = 3 ∨ u = 4 ∨ 5 ≤ u := by omega
  rcases e with rfl | rfl | rfl | rfl | rfl | h
  · have hu : some (some ((6, 0) : xv)) = some (some x) := hu
    cases hu; rfl
  · have hu : some (some ((2, 0) : xv)) = some (some x) := hu
    cases hu; rfl
  · have hu : some (some ((2, 43) : xv)) = some (some x) := hu
    cases hu; rfl
  · have hu : some (some ((2, 81) : xv)) = some (some x) := hu
    cases hu; rfl
  · have hu : some (some (vi 0)) = some (some x) := hu
    cases hu; rfl
  · exfalso
    have e : u = 5 ∨ u = 6 ∨ 7 ≤ u := by omega
    rcases e with rfl | rfl | h
    · cases hu
    · cases hu
    · rw [List.getElem?_eq_none (by show 7 ≤ u; exact h)] at hu
      cases hu
/-- the run from the law's loop -/
theorem z_run {L : Nat} {xs : Nat → Int32} (hL : L ≤ 5120) : ∃ n out, xrun xPr (xGs L xs) n xC280 13 xl13 [] xH13 600942 7189125 40 = some out ∧ out.1 = (1, (0, 1)) := by
  have h := lp280_13 (d := 39) (S0 := z13) (xGs_sc (xs := xs) hL) hL (by decide) 5121 z13 z_I z_N23 z_CR z_RT z_RMe z_RS z_RTh z_RI z_RK z_RSl z_RP z_RSk z_vZ z_RW 0 ⟨by decide, by decide⟩ z_RM (by decide)
  obtain ⟨n, r, hp', S', e, -, -, z, h1, h2, h3⟩ := h xH13 xl13 z_rep z_L
  have hz : z = 1 := by omega
  subst hz
  exact ⟨n, _, e n (Nat.le_refl _), h1⟩
end XNC
