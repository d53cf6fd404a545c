set_option linter.unusedVariables false
noncomputable section XNC
/-! Ints as numbers -/
def enc (z : Int) : Nat := (z % 4294967296).toNat
def enl (z : Int) : Nat := (z % 18446744073709551616).toNat
def vi (z : Int) : xv := (0, enc z)
def vl (z : Int) : xv := (1, enl z)
abbrev Rg (z : Int) : Prop := -2147483648 ≤ z ∧ z < 2147483648
abbrev Rl (z : Int) : Prop := -9223372036854775808 ≤ z ∧ z < 9223372036854775808
theorem xnth_eq' {α : Type} (l : List α) (n : Nat) : xnth l n = l[n]? := by
  induction l generalizing n with
  | nil => rfl
  | cons a r ih => cases n with
    | zero => rfl
    | succ m => exact (ih m).trans (by simp)
theorem enc_lt (z : Int) : enc z < 4294967296 := by unfold enc; omega
theorem enl_lt (z : Int) : enl z < 18446744073709551616 := by unfold enl; omega
theorem enc_nat {z : Int} (h : 0 ≤ z) (h2 : z < 4294967296) : (enc z : Int) = z := by unfold enc; omega
theorem enc_inj {x y : Int} (hx : Rg x) (hy : Rg y) (h : enc x = enc y) : x = y := by unfold enc at h; unfold Rg at hx hy; omega
theorem enc_add (x y : Int) : (enc x + enc y) % 4294967296 = enc (x + y) := by unfold enc; omega
theorem enc_sub (x y : Int) : (enc x + (4294967296 - enc y % 4294967296)) % 4294967296 = enc (x - y) := by unfold enc; omega
theorem enc_mul (x y : Int) : enc x * enc y % 4294967296 = enc (x * y) := by
  unfold enc
  have hx : 0 ≤ x % 4294967296 := Int.emod_nonneg _ (by decide)
  have hy : 0 ≤ y % 4294967296 := Int.emod_nonneg _ (by decide)
  apply Int.ofNat_inj.mp
  have h0 : 0 ≤ (x * y) % 4294967296 := Int.emod_nonneg _ (by decide)
  rw [Int.natCast_emod, Int.natCast_mul, Int.toNat_of_nonneg hx, Int.toNat_of_nonneg hy, Int.toNat_of_nonneg h0]
  exact (Int.mul_emod x y 4294967296).symm
theorem xbi_enc {z : Int} (h : Rg z) : (xbi (enc z) : Int) = z + 2147483648 := by unfold xbi enc xM; unfold Rg at h; omega
theorem xbl_enl {z : Int} (h : Rl z) : (xbl (enl z) : Int) = z + 9223372036854775808 := by unfold xbl enl xL; unfold Rl at h; omega
/-! The state as numbers and functions -/
def yS : Type := (Nat → Nat → Int) × (Nat → Nat → Int) × (Nat → Nat) × (Nat → Nat) × Nat × Nat × Bool
def yS.f (S : yS) : Nat → Nat → Int := S.1
def yS.a (S : yS) : Nat → Nat → Int := S.2.1
def yS.p (S : yS) : Nat → Nat := S.2.2.1
def yS.n (S : yS) : Nat → Nat := S.2.2.2.1
def yS.bc (S : yS) : Nat := S.2.2.2.2.1
def yS.bs (S : yS) : Nat := S.2.2.2.2.2.1
def yS.t (S : yS) : Bool := S.2.2.2.2.2.2
def yS.mk (f a : Nat → Nat → Int) (p n : Nat → Nat) (bc bs : Nat) (t : Bool) : yS := (f, a, p, n, bc, bs, t)
/-- what a field is: int, long, reference to a cell, reference to a row that grows -/
def yk : Type := Sum Bool (Sum Nat Nat)
def yk.i : yk := Sum.inl false
def yk.l : yk := Sum.inl true
def yk.r (b : Nat) : yk := Sum.inr (Sum.inl b)
def yk.g (k : Nat) : yk := Sum.inr (Sum.inr k)
theorem yk.cs {motive : yk → Prop} (i : motive yk.i) (l : motive yk.l) (r : ∀ b, motive (yk.r b)) (g : ∀ k, motive (yk.g k)) (t : yk) : motive t :=
  Sum.rec (motive := motive) (fun b => Bool.rec (motive := fun b => motive (Sum.inl b)) i l b) (fun s => Sum.rec (motive := fun s => motive (Sum.inr s)) r g s) t
/-- what a cell is: an object, a row, or no matter -/
def yc : Type := Sum (Nat × Nat × List yk) (Option (Nat × Nat))
def yc.o (c m : Nat) (ks : List yk) : yc := Sum.inl (c, m, ks)
def yc.a (u n : Nat) : yc := Sum.inr (some (u, n))
def yc.x : yc := Sum.inr none
theorem yc.cs {motive : yc → Prop} (o : ∀ c m ks, motive (yc.o c m ks)) (a : ∀ u n, motive (yc.a u n)) (x : motive yc.x) (t : yc) : motive t :=
  Sum.rec (motive := motive) (fun q => o q.1 q.2.1 q.2.2) (fun s => Option.rec (motive := fun s => motive (Sum.inr s)) x (fun q => a q.1 q.2) s) t
theorem yc.o_inj {c m c1 m1 : Nat} {ks ks1 : List yk} (h : some (yc.o c m ks) = some (yc.o c1 m1 ks1)) : c = c1 ∧ m = m1 ∧ ks = ks1 := by
  have h1 := Sum.inl.inj (Option.some.inj h)
  exact ⟨congrArg (fun q => q.1) h1, congrArg (fun q => q.2.1) h1, congrArg (fun q => q.2.2) h1⟩
theorem yc.a_inj {u n u1 n1 : Nat} (h : some (yc.a u n) = some (yc.a u1 n1)) : u = u1 ∧ n = n1 := by
  have h1 := Option.some.inj (Sum.inr.inj (Option.some.inj h))
  exact ⟨congrArg (fun q => q.1) h1, congrArg (fun q => q.2) h1⟩
theorem yc.o_a {c m u n : Nat} {ks : List yk} (h : some (yc.o c m ks) = some (yc.a u n)) : False := nomatch (Option.some.inj h : (Sum.inl (c, m, ks) : Sum (Nat × Nat × List yk) (Option (Nat × Nat))) = Sum.inr (some (u, n)))
theorem yc.o_x {c m : Nat} {ks : List yk} : yc.o c m ks ≠ yc.x := fun h => nomatch (h : (Sum.inl (c, m, ks) : Sum (Nat × Nat × List yk) (Option (Nat × Nat))) = Sum.inr none)
theorem yc.a_x {u n : Nat} : yc.a u n ≠ yc.x := fun h => nomatch (h : (Sum.inr (some (u, n)) : Sum (Nat × Nat × List yk) (Option (Nat × Nat))) = Sum.inr none)
def ysf (S : yS) (b w : Nat) (z : Int) : yS := yS.mk (fun b' w' => cond (Nat.beq b' b && Nat.beq w' w) z (S.f b' w')) S.a S.p S.n S.bc S.bs S.t
def ysa (S : yS) (b j : Nat) (z : Int) : yS := yS.mk S.f (fun b' j' => cond (Nat.beq b' b && Nat.beq j' j) z (S.a b' j')) S.p S.n S.bc S.bs S.t
def yfv (S : yS) (b w : Nat) (k : yk) : xv := Sum.elim (fun q => cond q (vl (S.f b w)) (vi (S.f b w))) (fun s => Sum.elim (fun q => ((2, q) : xv)) (fun k => (2, S.p k)) s) k
def yfr (S : yS) (b w : Nat) (k : yk) : Prop := Sum.elim (fun q => cond q (Rl (S.f b w)) (Rg (S.f b w))) (fun _ => True) k
def ywid (u : Nat) : Nat := cond (Nat.beq u 11) 64 32
def yen (u : Nat) (z : Int) : Nat := cond (Nat.beq u 11) (enl z) (enc z)
def yer (u : Nat) (z : Int) : Prop := match u with
  | 4 => 0 ≤ z ∧ z ≤ 1
  | 8 => -128 ≤ z ∧ z ≤ 127
  | 11 => Rl z
  | _ => Rg z
def yarr (hp : xh) (b u n : Nat) (g : Nat → Int) : Prop := ∃ N, hp[b]? = some ((1000 + u, n), N, []) ∧ ∀ i, i < n → xg (ywid u) N i = yen u (g i) ∧ yer u (g i)
def yobj (S : yS) (hp : xh) (b c m : Nat) (ks : List yk) : Prop := ∃ fs, hp[b]? = some ((c, m), 0, fs) ∧ fs.length = ks.length ∧ ∀ w k, ks[w]? = some k → fs[w]? = some (yfv S b w k) ∧ yfr S b w k
def ycell (S : yS) (hp : xh) (b : Nat) (c : yc) : Prop := Sum.elim (fun q => yobj S hp b q.1 q.2.1 q.2.2) (fun s => Option.elim s True (fun q => yarr hp b q.1 q.2 (S.a b))) c
/-- the kinds of the rows that grow; the sixth is the one just made -/
def yG (S : yS) : Nat → Nat
  | 0 => 8
  | 1 => 8
  | 5 => S.n 6
  | _ => 10
def yact (S : yS) (k : Nat) : Prop := k < 5 ∨ (k = 5 ∧ S.t = true)
def yRep (ly : List yc) (S : yS) (hp : xh) : Prop :=
  (∀ (b : Nat) (c : yc), ly[b]? = some c → ycell S hp b c) ∧
  (∀ k, yact S k → yarr hp (S.p k) (yG S k) (S.n k) (S.a (100 + k)) ∧ (ly[S.p k]? = some .x ∨ ly.length ≤ S.p k) ∧ S.n k < 1048576) ∧
  (∀ k j, yact S k → yact S j → S.p k = S.p j → k = j) ∧ ly.length ≤ hp.length ∧ ly.length ≤ 100
def yL (L : List (Option xv)) (lv : xl) : Prop := ∀ u x, L[u]? = some (some x) → xat lv u = some x
/-- from here the run comes to its end, with Q -/
def yT (P : xP) (G : xk) (ly : List yc) (C i : Nat) (L : List (Option xv)) (st : List xv) (S : yS) (d : Nat) (Q : Nat × xv → yS → Prop) : Prop :=
  ∀ hp lv, yRep ly S hp → yL L lv → ∃ n r hp' S', (∀ m, n ≤ m → xrun P G m C i lv st hp S.bc S.bs d = some (r, hp', S'.bc, S'.bs)) ∧ yRep ly S' hp' ∧ (r.1 = 2 → hp'[r.2.2]? = some ((r.2.1, 0), 0, [])) ∧ Q r S'
section
variable {P : xP} {G : xk} {ly : List yc} {C i i1 : Nat} {L L1 : List (Option xv)} {st st1 : List xv} {S S1 : yS} {d : Nat} {Q : Nat × xv → yS → Prop}
theorem yT_of (H : ∀ hp lv, yRep ly S hp → yL L lv → ∃ hp1 lv1, yRep ly S1 hp1 ∧ yL L1 lv1 ∧ ∀ ih : xrec, xstep P G ih C i lv st hp S.bc S.bs d = ih C i1 lv1 st1 hp1 S1.bc S1.bs d) (k : yT P G ly C i1 L1 st1 S1 d Q) : yT P G ly C i L st S d Q := by
  intro hp lv hR hL
  obtain ⟨hp1, lv1, h1, h2, h3⟩ := H hp lv hR hL
  obtain ⟨n, r, hp', S', e, h⟩ := k hp1 lv1 h1 h2
  refine ⟨n + 1, r, hp', S', fun m hm => ?_, h⟩
  obtain ⟨m, rfl⟩ : ∃ q, m = q + 1 := ⟨m - 1, by omega⟩
  rw [xrun_succ, h3]
  exact e m (by omega)
theorem yT_same (H : ∀ hp lv (ih : xrec), yRep ly S hp → yL L lv → xstep P G ih C i lv st hp S.bc S.bs d = ih C i1 lv st1 hp S.bc S.bs d) (k : yT P G ly C i1 L st1 S d Q) : yT P G ly C i L st S d Q :=
  yT_of (fun hp lv h1 h2 => ⟨hp, lv, h1, h2, fun ih => H hp lv ih h1 h2⟩) k
theorem yT_weak (hL : ∀ (u : Nat) (x : xv), L1[u]? = some (some x) → L[u]? = some (some x)) (k : yT P G ly C i L1 st S d Q) : yT P G ly C i L st S d Q :=
  fun hp lv h1 h2 => k hp lv h1 (fun u x hu => h2 u x (hL u x hu))
theorem yT_mono {Q' : Nat × xv → yS → Prop} (hq : ∀ r S', Q r S' → Q' r S') (k : yT P G ly C i L st S d Q) : yT P G ly C i L st S d Q' := by
  intro hp lv h1 h2
  obtain ⟨n, r, hp', S', e, a, b, c⟩ := k hp lv h1 h2
  exact ⟨n, r, hp', S', e, a, b, hq _ _ c⟩
/-- a row's words -/
def yq (C i k u v w : Nat) : Bool := Nat.beq (xrk (xrow C i)) k && (Nat.beq (xru (xrow C i)) u && (Nat.beq (xrv (xrow C i)) v && Nat.beq (xrw (xrow C i)) w))
theorem yq_of {k u v w : Nat} (h : yq C i k u v w = true) : xrk (xrow C i) = k ∧ xru (xrow C i) = u ∧ xrv (xrow C i) = v ∧ xrw (xrow C i) = w := by
  simp only [yq, Bool.and_eq_true] at h
  exact ⟨Nat.eq_of_beq_eq_true h.1, Nat.eq_of_beq_eq_true h.2.1, Nat.eq_of_beq_eq_true h.2.2.1, Nat.eq_of_beq_eq_true h.2.2.2⟩
theorem xstep_eq (ih : xrec) (lv : xl) (hp : xh) (bc bs : Nat) : xstep P G ih C i lv st hp bc bs d = xdisp (xrk (xrow C i)) P G ih C (xrow C i) (i + 1) lv st hp bc bs d := by
  simp only [xstep, xf_eq]
/-! constants, locals -/
theorem r_const {u : Nat} {z : Int} (h : yq C i 27 u 0 0 = true) (hz : enc z = u) (k : yT P G ly C (i + 1) L (vi z :: st) S d Q) : yT P G ly C i L st S d Q := by
  obtain ⟨h1, h2, h3, h4⟩ := yq_of h
  refine yT_same (fun hp lv ih _ _ => ?_) k
  rw [xstep_eq, h1]
  show xh0 P G ih C (xrow C i) (i + 1) lv st hp S.bc S.bs d = _
  simp only [xh0, xf_eq, h2, vi, hz]
theorem r_lconst {u : Nat} {z : Int} (h : yq C i 22 u 0 0 = true) (hz : enl z = u) (k : yT P G ly C (i + 1) L (vl z :: st) S d Q) : yT P G ly C i L st S d Q := by
  obtain ⟨h1, h2, h3, h4⟩ := yq_of h
  refine yT_same (fun hp lv ih _ _ => ?_) k
  rw [xstep_eq, h1]
  show xh22 P G ih C (xrow C i) (i + 1) lv st hp S.bc S.bs d = _
  simp only [xh22, xf_eq, h2, vl, hz]
theorem r_load {u w : Nat} {x : xv} (h : yq C i 1 u 0 w = true) (hx : L[u]? = some (some x)) (hk : xkd x = w) (k : yT P G ly C (i + 1) L (x :: st) S d Q) : yT P G ly C i L st S d Q := by
  obtain ⟨h1, h2, h3, h4⟩ := yq_of h
  refine yT_same (fun hp lv ih _ hl => ?_) k
  rw [xstep_eq, h1]
  show xh1 P G ih C (xrow C i) (i + 1) lv st hp S.bc S.bs d = _
  simp only [xh1, xf_eq, h2, hl u x hx, h4, hk]
  rw [show Nat.beq w w = true from Nat.beq_refl w]
  rfl

def ystore (L : List (Option xv)) (u : Nat) (x : xv) : List (Option xv) := cond (Nat.beq (xcat x) 2) ((L.set u (some x)).set (u + 1) none) (L.set u (some x))
def yfree (L : List (Option xv)) : Nat → Bool
  | 0 => true
  | u + 1 => match L[u]? with
    | some (some y) => Nat.beq (xcat y) 1
    | _ => true
theorem xat_filter {lv : xl} {j u c : Nat} {y : xv} (h : xat lv j = some y) (hk : xkeep u c (j, y) = true) : xat (lv.filter (xkeep u c)) j = some y := by
  induction lv with
  | nil => cases h
  | cons q r ih =>
    rw [xat_cons] at h
    cases hb : Nat.beq q.1 j with
    | true =>
      rw [hb] at h
      have h : some q.2 = some y := h
      cases h
      have e : q.1 = j := Nat.eq_of_beq_eq_true hb
      have hk2 : xkeep u c q = true := by rw [← e] at hk; exact hk
      rw [List.filter_cons, if_pos hk2, xat_cons, hb]
    | false =>
      rw [hb] at h
      rw [List.filter_cons]
      split
      · rw [xat_cons, hb]; exact ih h
      · exact ih h
theorem yL_store {lv : xl} {u : Nat} {x : xv} (hl : yL L lv) (hf : yfree L u = true) : yL (ystore L u x) ((u, x) :: lv.filter (xkeep u (xcat x))) := by
  intro j y hj
  rw [xat_cons]
  by_cases hju : j = u
  · subst hju
    rw [show Nat.beq j j = true from Nat.beq_refl j]
    have : y = x := by
      unfold ystore at hj
      cases hc : Nat.beq (xcat x) 2 with
      | true =>
        rw [hc] at hj
        simp only [cond_true] at hj
        rw [List.getElem?_set_ne (by omega)] at hj
        rw [List.getElem?_set] at hj
        simp at hj
        exact hj.2.symm
      | false =>
        rw [hc] at hj
        simp only [cond_false] at hj
        rw [List.getElem?_set] at hj
        simp at hj
        exact hj.2.symm
    rw [this]
  · have hb : Nat.beq u j = false := by
      cases h : Nat.beq u j with
      | false => rfl
      | true => exact absurd (Nat.eq_of_beq_eq_true h).symm hju
    rw [hb]
    have hbj : Nat.beq j u = false := by
      cases h : Nat.beq j u with
      | false => rfl
      | true => exact absurd (Nat.eq_of_beq_eq_true h) hju
    have key : L[j]? = some (some y) ∧ (Nat.beq (xcat x) 2 && Nat.beq j (u + 1)) = false := by
      unfold ystore at hj
      cases hc : Nat.beq (xcat x) 2 with
      | true =>
        rw [hc] at hj
        simp only [cond_true] at hj
        by_cases hj1 : j = u + 1
        · subst hj1
          rw [List.getElem?_set] at hj
          simp at hj
        · rw [List.getElem?_set_ne (by omega), List.getElem?_set_ne (by omega)] at hj
          refine ⟨hj, ?_⟩
          cases h : Nat.beq j (u + 1) with
          | false => rfl
          | true => exact absurd (Nat.eq_of_beq_eq_true h) hj1
      | false =>
        rw [hc] at hj
        simp only [cond_false] at hj
        rw [List.getElem?_set_ne (by omega)] at hj
        exact ⟨hj, rfl⟩
    refine xat_filter (hl j y key.1) ?_
    unfold xkeep
    simp only [hbj, key.2]
    cases u with
    | zero =>
      have : Nat.beq (j + 1) 0 = false := rfl
      simp [this]
    | succ u =>
      by_cases h2 : j = u
      · subst h2
        have h3 := hf
        simp only [yfree, key.1] at h3
        have h4 := Nat.eq_of_beq_eq_true h3
        simp [h4]
        rfl
      · have : Nat.beq (j + 1) (u + 1) = false := by
          cases h : Nat.beq (j + 1) (u + 1) with
          | false => rfl
          | true => exact absurd (Nat.eq_of_beq_eq_true h) (by omega)
        simp [this]
theorem r_store {u w : Nat} {x : xv} (h : yq C i 2 u 0 w = true) (hk : xkd x = w) (hf : yfree L u = true) (hL : ystore L u x = L1) (k : yT P G ly C (i + 1) L1 st S d Q) : yT P G ly C i L (x :: st) S d Q := by
  obtain ⟨h1, h2, h3, h4⟩ := yq_of h
  subst hL
  refine yT_of (fun hp lv hr hl => ⟨hp, _, hr, yL_store (x := x) hl hf, fun ih => ?_⟩) k
  rw [xstep_eq, h1]
  show xh2 P G ih C (xrow C i) (i + 1) lv (x :: st) hp S.bc S.bs d = _
  simp only [xh2, xf_eq, h2, h4, hk, xflt_eq]
  rw [show Nat.beq w w = true from Nat.beq_refl w]
  rfl
theorem r_iinc {u v : Nat} {z s : Int} (h : yq C i 3 u v 0 = true) (hu : enc s = u) (hx : L[v]? = some (some (vi z))) (hf : yfree L v = true) (hL : ystore L v (vi (z + s)) = L1) (k : yT P G ly C (i + 1) L1 st S d Q) : yT P G ly C i L st S d Q := by
  obtain ⟨h1, h2, h3, h4⟩ := yq_of h
  subst hL
  refine yT_of (fun hp lv hr hl => ⟨hp, _, hr, yL_store (x := vi (z + s)) hl hf, fun ih => ?_⟩) k
  rw [xstep_eq, h1]
  show xh3 P G ih C (xrow C i) (i + 1) lv st hp S.bc S.bs d = _
  simp only [xh3, xf_eq, h2, h3, hl v _ hx, vi, xflt_eq]
  rw [← hu]
  have := enc_add z s
  unfold xM
  rw [this]
  rfl
/-! arithmetic -/
theorem ybin {u : Nat} {x y z : Int} (h : yq C i 4 u 0 0 = true) (hz : xb u (enc x) (enc y) = some (enc z)) (k : yT P G ly C (i + 1) L (vi z :: st) S d Q) : yT P G ly C i L (vi y :: vi x :: st) S d Q := by
  obtain ⟨h1, h2, h3, h4⟩ := yq_of h
  refine yT_same (fun hp lv ih _ _ => ?_) k
  rw [xstep_eq, h1]
  show xh4 P G ih C (xrow C i) (i + 1) lv (vi y :: vi x :: st) hp S.bc S.bs d = _
  simp only [xh4, xf_eq, h2, vi, hz, xpv]
theorem r_iadd {x y : Int} (h : yq C i 4 0 0 0 = true) (k : yT P G ly C (i + 1) L (vi (x + y) :: st) S d Q) : yT P G ly C i L (vi y :: vi x :: st) S d Q :=
  ybin h (by show some _ = _; exact congrArg some (enc_add x y)) k
theorem r_isub {x y : Int} (h : yq C i 4 1 0 0 = true) (k : yT P G ly C (i + 1) L (vi (x - y) :: st) S d Q) : yT P G ly C i L (vi y :: vi x :: st) S d Q :=
  ybin h (by show some _ = _; exact congrArg some (enc_sub x y)) k
theorem r_imul {x y : Int} (h : yq C i 4 2 0 0 = true) (k : yT P G ly C (i + 1) L (vi (x * y) :: st) S d Q) : yT P G ly C i L (vi y :: vi x :: st) S d Q :=
  ybin h (by show some _ = _; exact congrArg some (enc_mul x y)) k
def dec (n : Nat) : Int := if n < 2147483648 then (n : Int) else (n : Int) - 4294967296
theorem enc_dec {n : Nat} (h : n < 4294967296) : enc (dec n) = n := by unfold enc dec; split <;> omega
theorem dec_rg {n : Nat} (h : n < 4294967296) : Rg (dec n) := by unfold Rg dec; split <;> omega
def yand (x y : Int) : Int := dec (Nat.land (enc x) (enc y))
def yor (x y : Int) : Int := dec (Nat.lor (enc x) (enc y))
def yxor (x y : Int) : Int := dec (Nat.xor (enc x) (enc y))
theorem yand_lt (x y : Int) : Nat.land (enc x) (enc y) < 4294967296 := Nat.lt_of_le_of_lt Nat.and_le_left (enc_lt x)
theorem yor_lt (x y : Int) : Nat.lor (enc x) (enc y) < 4294967296 := Nat.or_lt_two_pow (n := 32) (enc_lt x) (enc_lt y)
theorem yxor_lt (x y : Int) : Nat.xor (enc x) (enc y) < 4294967296 := Nat.xor_lt_two_pow (n := 32) (enc_lt x) (enc_lt y)
theorem yand_rg (x y : Int) : Rg (yand x y) := dec_rg (yand_lt x y)
theorem yor_rg (x y : Int) : Rg (yor x y) := dec_rg (yor_lt x y)
theorem yxor_rg (x y : Int) : Rg (yxor x y) := dec_rg (yxor_lt x y)
theorem yand_c {x y : Int} (h : 0 ≤ y) (h2 : y < 2147483648) : 0 ≤ yand x y ∧ yand x y ≤ y := by
  have h3 : Nat.land (enc x) (enc y) ≤ enc y := Nat.and_le_right
  have h4 : (enc y : Int) = y := enc_nat h (by omega)
  unfold yand dec
  split <;> omega
theorem yor_c {x y : Int} {n : Nat} (hn : n ≤ 31) (hx : 0 ≤ x) (hx2 : x < 2 ^ n) (hy : 0 ≤ y) (hy2 : y < 2 ^ n) : 0 ≤ yor x y ∧ yor x y < 2 ^ n := by
  have hp : (2 : Nat) ^ n ≤ 2 ^ 31 := Nat.pow_le_pow_right (by decide) hn
  have hpi : ((2 : Int) ^ n) = (((2 : Nat) ^ n : Nat) : Int) := by simp
  have e1 : (enc x : Int) = x := enc_nat hx (by omega)
  have e2 : (enc y : Int) = y := enc_nat hy (by omega)
  have h3 : Nat.lor (enc x) (enc y) < 2 ^ n := Nat.or_lt_two_pow (by omega) (by omega)
  unfold yor dec
  split <;> omega
theorem r_iand {x y : Int} (h : yq C i 4 3 0 0 = true) (k : yT P G ly C (i + 1) L (vi (yand x y) :: st) S d Q) : yT P G ly C i L (vi y :: vi x :: st) S d Q :=
  ybin h (by show some _ = _; exact congrArg some (enc_dec (yand_lt x y)).symm) k
theorem r_ior {x y : Int} (h : yq C i 4 4 0 0 = true) (k : yT P G ly C (i + 1) L (vi (yor x y) :: st) S d Q) : yT P G ly C i L (vi y :: vi x :: st) S d Q :=
  ybin h (by show some _ = _; exact congrArg some (enc_dec (yor_lt x y)).symm) k
theorem r_ixor {x y : Int} (h : yq C i 4 5 0 0 = true) (k : yT P G ly C (i + 1) L (vi (yxor x y) :: st) S d Q) : yT P G ly C i L (vi y :: vi x :: st) S d Q :=
  ybin h (by show some _ = _; exact congrArg some (enc_dec (yxor_lt x y)).symm) k
theorem yblt {a b : Nat} (h : a < b) : Nat.blt a b = true := by rw [Nat.blt_eq]; exact h
theorem yble {a b : Nat} (h : a ≤ b) : Nat.ble a b = true := Nat.ble_eq_true_of_le h
theorem r_idiv {x y : Int} (h : yq C i 4 9 0 0 = true) (hx : 0 ≤ x) (hx2 : x < 2147483648) (hy : 0 < y) (hy2 : y < 2147483648) (k : yT P G ly C (i + 1) L (vi (x / y) :: st) S d Q) : yT P G ly C i L (vi y :: vi x :: st) S d Q := by
  refine ybin h ?_ k
  have e1 : (enc x : Int) = x := enc_nat hx (by omega)
  have e2 : (enc y : Int) = y := enc_nat (by omega) (by omega)
  show cond (Nat.blt (enc x) 2147483648 && (Nat.blt (enc y) 2147483648 && Nat.blt 0 (enc y))) (some (enc x / enc y)) none = _
  rw [yblt (by omega), yblt (by omega), yblt (by omega)]
  show some _ = _
  congr 1
  have h5 : 0 ≤ x / y := Int.ediv_nonneg hx (by omega)
  have h6 : x / y ≤ x := Int.ediv_le_self _ hx
  apply Int.ofNat_inj.mp
  rw [enc_nat h5 (by omega), Int.natCast_ediv, e1, e2]
theorem r_irem {x y : Int} (h : yq C i 4 10 0 0 = true) (hx : 0 ≤ x) (hx2 : x < 2147483648) (hy : 0 < y) (hy2 : y < 2147483648) (k : yT P G ly C (i + 1) L (vi (x % y) :: st) S d Q) : yT P G ly C i L (vi y :: vi x :: st) S d Q := by
  refine ybin h ?_ k
  have e1 : (enc x : Int) = x := enc_nat hx (by omega)
  have e2 : (enc y : Int) = y := enc_nat (by omega) (by omega)
  show cond (Nat.blt (enc x) 2147483648 && (Nat.blt (enc y) 2147483648 && Nat.blt 0 (enc y))) (some (enc x % enc y)) none = _
  rw [yblt (by omega), yblt (by omega), yblt (by omega)]
  show some _ = _
  congr 1
  have h5 : 0 ≤ x % y := Int.emod_nonneg _ (by omega)
  have h6 : x % y < y := Int.emod_lt_of_pos _ hy
  apply Int.ofNat_inj.mp
  rw [enc_nat h5 (by omega), Int.natCast_emod, e1, e2]
/-- to the left: the number as it comes -/
def yshl (x y : Int) : Int := dec (Nat.shiftLeft (enc x) (enc y))
def yshr (x y : Int) : Int := dec (Nat.shiftRight (enc x) (enc y))
theorem yshr_lt (x y : Int) : Nat.shiftRight (enc x) (enc y) < 4294967296 := Nat.lt_of_le_of_lt (Nat.shiftRight_le _ _) (enc_lt x)
theorem yshr_rg (x y : Int) : Rg (yshr x y) := dec_rg (yshr_lt x y)
theorem yshr_c {x : Int} (y : Int) (h : 0 ≤ x) (h2 : x < 2147483648) : 0 ≤ yshr x y ∧ yshr x y ≤ x := by
  have e1 : (enc x : Int) = x := enc_nat h (by omega)
  have h3 : Nat.shiftRight (enc x) (enc y) ≤ enc x := Nat.shiftRight_le _ _
  unfold yshr dec
  split <;> omega
theorem r_ishl {x y : Int} (h : yq C i 4 6 0 0 = true) (hx : 0 ≤ x) (hy : 0 ≤ y) (hy2 : y < 32) (hm : x * 2 ^ y.toNat < 4294967296) (k : yT P G ly C (i + 1) L (vi (yshl x y) :: st) S d Q) : yT P G ly C i L (vi y :: vi x :: st) S d Q := by
  refine ybin h ?_ k
  have hp : (1 : Int) ≤ 2 ^ y.toNat := Int.pow_pos (by decide)
  have hxx : x ≤ x * 2 ^ y.toNat := by
    have := Int.mul_le_mul_of_nonneg_left hp hx
    omega
  have e1 : (enc x : Int) = x := enc_nat hx (by omega)
  have e2 : enc y = y.toNat := by have := enc_nat hy (by omega : y < 4294967296); omega
  have e3 : Nat.shiftLeft (enc x) (enc y) < 4294967296 := by
    show enc x <<< enc y < _
    rw [Nat.shiftLeft_eq, e2]
    have : ((enc x * 2 ^ y.toNat : Nat) : Int) < 4294967296 := by
      rw [Int.natCast_mul, e1]
      simpa using hm
    omega
  show cond (Nat.blt (enc y) 32 && Nat.blt (Nat.shiftLeft (enc x) (enc y)) xM) (some (Nat.shiftLeft (enc x) (enc y))) none = _
  rw [yblt (by omega), yblt (by unfold xM; exact e3)]
  show some _ = _
  congr 1
  exact (enc_dec e3).symm
theorem r_ishr {x y : Int} (h : yq C i 4 7 0 0 = true) (hx : 0 ≤ x) (hx2 : x < 2147483648) (hy : 0 ≤ y) (hy2 : y < 32) (k : yT P G ly C (i + 1) L (vi (yshr x y) :: st) S d Q) : yT P G ly C i L (vi y :: vi x :: st) S d Q := by
  refine ybin h ?_ k
  have e1 : (enc x : Int) = x := enc_nat hx (by omega)
  have e2 : (enc y : Int) = y := enc_nat hy (by omega)
  show cond (Nat.blt (enc y) 32 && Nat.blt (enc x) 2147483648) (some (Nat.shiftRight (enc x) (enc y))) none = _
  rw [yblt (by omega), yblt (by omega)]
  show some _ = _
  congr 1
  exact (enc_dec (yshr_lt x y)).symm
theorem r_iushr {x y : Int} (h : yq C i 4 8 0 0 = true) (hy : 0 ≤ y) (hy2 : y < 32) (k : yT P G ly C (i + 1) L (vi (yshr x y) :: st) S d Q) : yT P G ly C i L (vi y :: vi x :: st) S d Q := by
  refine ybin h ?_ k
  have e2 : (enc y : Int) = y := enc_nat hy (by omega)
  show cond (Nat.blt (enc y) 32 && Nat.blt (enc x) xM) (some (Nat.shiftRight (enc x) (enc y))) none = _
  rw [yblt (by omega), yblt (by unfold xM; exact enc_lt x)]
  show some _ = _
  congr 1
  exact (enc_dec (yshr_lt x y)).symm
/-- the int that a number stands for -/
def ysg (z : Int) : Int := (z + 2147483648) % 4294967296 - 2147483648
theorem ysg_rg (z : Int) : Rg (ysg z) := by unfold Rg ysg; omega
theorem vi_sg (z : Int) : vi z = vi (ysg z) := by unfold vi enc ysg; congr 1; omega
def yby (z : Int) : Int := (z + 128) % 256 - 128
theorem yby_rg (z : Int) : -128 ≤ yby z ∧ yby z ≤ 127 := by unfold yby; omega
theorem yun {u : Nat} {x q : xv} (h : yq C i 5 u 0 0 = true) (hz : ∀ (α : Type) (f : xv → Option α), xun u x f = f q) (k : yT P G ly C (i + 1) L (q :: st) S d Q) : yT P G ly C i L (x :: st) S d Q := by
  obtain ⟨h1, h2, h3, h4⟩ := yq_of h
  refine yT_same (fun hp lv ih _ _ => ?_) k
  rw [xstep_eq, h1]
  show xh5 P G ih C (xrow C i) (i + 1) lv (x :: st) hp S.bc S.bs d = _
  simp only [xh5, xf_eq, h2, hz]
theorem enc_neg (z : Int) : (4294967296 - enc z % 4294967296) % 4294967296 = enc (-z) := by unfold enc; omega
theorem xun_0 {α : Type} (a : Nat) (f : xv → Option α) : xun 0 (0, a) f = f (0, (xM - a % xM) % xM) := by
  unfold xun
  unfold xpv
  simp only [xf_eq]
theorem r_ineg {z : Int} (h : yq C i 5 0 0 0 = true) (k : yT P G ly C (i + 1) L (vi (-z) :: st) S d Q) : yT P G ly C i L (vi z :: st) S d Q := by
  refine yun h (fun α f => ?_) k
  unfold vi
  rw [xun_0]
  have hM : xM = 4294967296 := rfl
  rw [hM, enc_neg]
theorem r_i2l {z : Int} (h : yq C i 5 1 0 0 = true) (hz : Rg z) (k : yT P G ly C (i + 1) L (vl z :: st) S d Q) : yT P G ly C i L (vi z :: st) S d Q := by
  refine yun h (fun α f => ?_) k
  show cond (Nat.blt (enc z) xM) (xpv 1 (cond (Nat.blt (enc z) 2147483648) (enc z) (enc z + 18446744069414584320)) f) none = _
  rw [yblt (by unfold xM; exact enc_lt z)]
  simp only [cond_true, xpv, xf_eq, vl]
  congr 2
  have hz2 := hz
  unfold Rg at hz2
  by_cases h0 : 0 ≤ z
  · have e1 : (enc z : Int) = z := enc_nat h0 (by omega)
    rw [yblt (by omega), cond_true]
    unfold enl
    omega
  · have e1 : (enc z : Int) = z + 4294967296 := by unfold enc; omega
    have : Nat.blt (enc z) 2147483648 = false := by
      cases hb : Nat.blt (enc z) 2147483648 with
      | false => rfl
      | true => rw [Nat.blt_eq] at hb; omega
    rw [this, cond_false]
    unfold enl
    omega
theorem r_l2i {z : Int} (h : yq C i 5 2 0 0 = true) (k : yT P G ly C (i + 1) L (vi z :: st) S d Q) : yT P G ly C i L (vl z :: st) S d Q := by
  refine yun h (fun α f => ?_) k
  show xpv 0 (enl z % xM) f = _
  simp only [xpv, xf_eq, vi]
  congr 2
  unfold enl enc xM
  omega
theorem r_i2b {z : Int} (h : yq C i 5 3 0 0 = true) (k : yT P G ly C (i + 1) L (vi (yby z) :: st) S d Q) : yT P G ly C i L (vi z :: st) S d Q := by
  refine yun h (fun α f => ?_) k
  show xpv 0 (cond (Nat.blt (enc z % 256) 128) (enc z % 256) (enc z % 256 + 4294967040)) f = _
  simp only [xpv, xf_eq, vi]
  congr 2
  have e : ((enc z % 256 : Nat) : Int) = z % 256 := by unfold enc; omega
  cases hb : Nat.blt (enc z % 256) 128 with
  | true =>
    rw [Nat.blt_eq] at hb
    rw [cond_true]
    unfold enc at e hb ⊢
    unfold yby
    omega
  | false =>
    have hb2 : ¬ (enc z % 256 < 128) := fun h => by rw [← Nat.blt_eq, hb] at h; cases h
    rw [cond_false]
    unfold enc at e hb2 ⊢
    unfold yby
    omega
theorem r_i2c {z : Int} (h : yq C i 5 4 0 0 = true) (k : yT P G ly C (i + 1) L (vi (z % 65536) :: st) S d Q) : yT P G ly C i L (vi z :: st) S d Q := by
  refine yun h (fun α f => ?_) k
  show xpv 0 (enc z % 65536) f = _
  simp only [xpv, xf_eq, vi]
  congr 2
  unfold enc
  omega
end
end XNC
