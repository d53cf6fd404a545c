set_option linter.unusedVariables false
noncomputable section XNC
section
variable {P : xP} {G : xk} {ly : List yc} {C i : Nat} {L : List (Option xv)} {st : List xv} {S : yS} {d : Nat} {Q : Nat × xv → yS → Prop}
theorem g_len {k a : Nat} (h : yq C i 16 0 0 0 = true) (ha : S.p k = a) (hk : yact S k) (hu : yG S k = 10 ∨ yG S k = 8) (kk : S.n k < 1048576 → yT P G ly C (i + 1) L (vi (S.n k) :: st) S d Q) : yT P G ly C i L ((2, a) :: st) S d Q := by
  subst ha; exact r_glen h hk hu kk
theorem g_copy {k1 k2 p1 p2 : Nat} {z1 z2 m : Int} (h : yq C i 25 0 0 0 = true) (hp1 : S.p k1 = p1) (hp2 : S.p k2 = p2) (hk1 : yact S k1) (hk2 : yact S k2) (hne : k1 ≠ k2) (hd : 2 ≤ d) (hl : Nat.ble st.length 8 = true) (hkd : yG S k1 = yG S k2) (hg : yG S k1 = 8 ∨ yG S k1 = 10) (h1 : 0 ≤ z1) (h2 : 0 ≤ z2) (hm : 0 ≤ m) (e1 : z1 + m ≤ S.n k1) (e2 : z2 + m ≤ S.n k2)
    (kk : yT P G ly C (i + 1) L st (ycp S k1 z1.toNat k2 z2.toNat m.toNat) d Q) : yT P G ly C i L (vi m :: vi z2 :: (2, p2) :: vi z1 :: (2, p1) :: st) S d Q := by
  subst hp1 hp2; exact r_copy h hk1 hk2 hne hd hl hkd hg h1 h2 hm e1 e2 kk
theorem yGr_of {k q u m : Nat} (hk : k < 5) (hm : S.n k ≤ m) (hc : 1 ≤ S.bc) (hs : m ≤ S.bs) : yGr k m S (ytk (ycp (ynew S q u m) k 0 5 0 (S.n k)) k) := by
  have hc : ∀ b j, (ycp (ynew S q u m) k 0 5 0 (S.n k)).a b j = if b = 105 ∧ j < S.n k then (ynew S q u m).a (100 + k) j else (ynew S q u m).a b j := by
    intro b j
    show cond (Nat.beq b 105 && (Nat.ble 0 j && Nat.blt j (0 + S.n k))) ((ynew S q u m).a (100 + k) (0 + (j - 0))) ((ynew S q u m).a b j) = _
    rw [Nat.zero_add, Nat.zero_add, Nat.sub_zero, yble (Nat.zero_le j), Bool.true_and]
    by_cases hb : b = 105
    · subst hb
      rw [ybeqT, Bool.true_and]
      by_cases hj : j < S.n k
      · rw [yblt hj, if_pos ⟨rfl, hj⟩]; rfl
      · rw [ybltF (by omega), if_neg (fun h => hj h.2)]; rfl
    · rw [ybeqF hb, if_neg (fun h => hb h.1)]; rfl
  refine yGr.mk' ⟨rfl, fun b h1 h2 => ?_, fun j hj => ?_, ?_, fun w hw hne => ?_, ?_, ?_⟩
  · rw [ytk_a h1]
    funext j
    rw [hc, if_neg (fun h => h2 h.1), ynew_a h2]
  · rw [ytk_a1, hc, if_pos ⟨rfl, hj⟩, ynew_a (by omega)]
  · rw [ytk_n1]; rfl
  · rw [ytk_n hne]
    exact ynew_n (q := q) (u := u) (m := m) hw
  · show S.bc - 1 + 1 = S.bc; omega
  · show S.bs - m + m = S.bs; omega

theorem cp8 {k : Nat} {z : Int} (hI : yI S) (hk : k < 5) (hg : yG S k = 8) (hz : (S.n k : Int) < z) (hz2 : z < 1048576) (hc : 1 ≤ S.bc) (hs : z ≤ S.bs) (hd : 3 ≤ d) : yT xPr G LY xC276 0 [some (2, S.p k), some (vi z)] [] S d (fun r S' => ∃ q, r = (1, (2, q)) ∧ S' = ycp (ynew S q 8 z.toNat) k 0 5 0 (S.n k)) := by
  refine yT_pad 1 ?_
  show yT xPr G LY xC276 0 [some (2, S.p k), some (vi z), none] [] S d _
  obtain ⟨d, rfl⟩ : ∃ q, d = q + 1 := ⟨d - 1, by omega⟩
  have ka : yact S k := Or.inl hk
  refine r_load (i := 0) (u := 1) (w := 0) rfl rfl rfl ?_
  refine r_load (i := 1) (u := 0) (w := 2) rfl rfl rfl ?_
  refine g_len (i := 2) (k := k) rfl rfl ka (by omega) fun hn => ?_
  refine c_ne (i := 3) (v := 8) rfl ⟨by omega, by omega⟩ ⟨by omega, by omega⟩ (fun h1 => ?_) (fun h1 => absurd h1 (by omega))
  refine r_load (i := 8) (u := 1) (w := 0) rfl rfl rfl ?_
  refine r_new (i := 9) (u := 8) rfl rfl (by decide) (by omega) hz2 hc hs fun q => ?_
  have k1 : yact (ynew S q 8 z.toNat) k := Or.inl hk
  have k5 : yact (ynew S q 8 z.toNat) 5 := Or.inr ⟨rfl, rfl⟩
  have en : (ynew S q 8 z.toNat).n k = S.n k := ynew_n hk
  have ep : (ynew S q 8 z.toNat).p k = S.p k := ynew_p hk
  have eg : yG (ynew S q 8 z.toNat) k = 8 := (yG_lt (S := S) hk).trans hg
  refine r_store (i := 10) (u := 2) (w := 2) (L1 := [some (2, S.p k), some (vi z), some (2, q)]) rfl rfl rfl rfl ?_
  refine r_load (i := 11) (u := 0) (w := 2) rfl rfl rfl ?_
  refine r_const (i := 12) (u := 0) (z := 0) rfl rfl ?_
  refine r_load (i := 13) (u := 2) (w := 2) rfl rfl rfl ?_
  refine r_const (i := 14) (u := 0) (z := 0) rfl rfl ?_
  refine r_load (i := 15) (u := 0) (w := 2) rfl rfl rfl ?_
  refine g_len (i := 16) (k := k) rfl ep k1 (by omega) fun hn2 => ?_
  rw [en]
  refine r_load (i := 17) (u := 1) (w := 0) rfl rfl rfl ?_
  refine r_call (i := 18) (u := 65535) (v := 269) (w := 0) (b := 2) (na := 514) (C2 := xC269) (as := [vi (S.n k : Int), vi z]) (s := [vi 0, (2, q), vi 0, (2, S.p k)]) rfl rfl rfl rfl rfl rfl rfl (sp269 (x := (S.n k : Int)) (y := z) ⟨by omega, by omega⟩ ⟨by omega, by omega⟩ (by omega)) (fun r S2 hq => ?_)
  obtain ⟨z9, rfl, a1, a2, a3, a4, rfl⟩ := hq
  refine Or.inr (Or.inl ⟨rfl, ?_⟩)
  obtain rfl : z9 = (S.n k : Int) := by omega
  refine g_copy (i := 19) (k1 := k) (k2 := 5) (m := (S.n k : Int)) (z1 := 0) (z2 := 0) rfl ep rfl k1 k5 (by omega) (by omega) rfl (by rw [eg]; rfl) (by omega) (by decide) (by decide) (by omega) (by rw [en]; omega) (by show (0 : Int) + S.n k ≤ ((z.toNat : Nat) : Int); omega) ?_
  refine r_load (i := 20) (u := 2) (w := 2) rfl rfl rfl ?_
  exact r_retA (i := 21) rfl rfl ⟨q, rfl, by rw [Int.toNat_natCast]; rfl⟩
theorem r_grow8 {k b v w m : Nat} {ks : List yk} {z : Int} (hI : yI S) (h17 : yq C i 17 65535 276 0 = true) (hb17 : Nat.beq (xrb (xrow C i)) 2 = true) (hu : yuq k b v 0 LY = true) (h11 : yq C (i + 1) 11 2 v w = true) (hb : LY[b]? = some (.o w m ks)) (hkf : ks[v]? = some (.g k)) (hl : Nat.ble (((2, b) :: st : List xv)).length 8 = true) (hk : k < 5) (hg : yG S k = 8) (hz : (S.n k : Int) < z) (hz2 : z < 1048576) (hc : 1 ≤ S.bc) (hs : z ≤ S.bs) (hd : 3 ≤ d)
    (kk : ∀ S', yGr k z.toNat S S' → yT xPr G LY C (i + 1 + 1) L st S' (d + 1) Q) : yT xPr G LY C i L (vi z :: (2, S.p k) :: (2, b) :: st) S (d + 1) Q := by
  refine r_call (u := 65535) (v := 276) (w := 0) (b := 2) (na := 770) (C2 := xC276) (as := [(2, S.p k), vi z]) (s := (2, b) :: st) h17 hb17 rfl rfl hl rfl rfl (cp8 hI hk hg hz hz2 hc hs hd) (fun r S2 hq => ?_)
  obtain ⟨q, rfl, rfl⟩ := hq
  refine Or.inr (Or.inl ⟨rfl, ?_⟩)
  have eg : yG (ycp (ynew S q 8 z.toNat) k 0 5 0 (S.n k)) k = 8 := (yG_lt (S := S) hk).trans hg
  refine r_take (S := ycp (ynew S q 8 z.toNat) k 0 5 0 (S.n k)) rfl hu h11 hb hkf rfl (by rw [eg]; rfl) (kk _ ?_)
  exact yGr_of hk (by omega) hc (by omega)

theorem cp10 {k : Nat} {z : Int} (hI : yI S) (hk : k < 5) (hg : yG S k = 10) (hz : (S.n k : Int) < z) (hz2 : z < 1048576) (hc : 1 ≤ S.bc) (hs : z ≤ S.bs) (hd : 3 ≤ d) : yT xPr G LY xC277 0 [some (2, S.p k), some (vi z)] [] S d (fun r S' => ∃ q, r = (1, (2, q)) ∧ S' = ycp (ynew S q 10 z.toNat) k 0 5 0 (S.n k)) := by
  refine yT_pad 1 ?_
  show yT xPr G LY xC277 0 [some (2, S.p k), some (vi z), none] [] S d _
  obtain ⟨d, rfl⟩ : ∃ q, d = q + 1 := ⟨d - 1, by omega⟩
  have ka : yact S k := Or.inl hk
  refine r_load (i := 0) (u := 1) (w := 0) rfl rfl rfl ?_
  refine r_load (i := 1) (u := 0) (w := 2) rfl rfl rfl ?_
  refine g_len (i := 2) (k := k) rfl rfl ka (by omega) fun hn => ?_
  refine c_ne (i := 3) (v := 8) rfl ⟨by omega, by omega⟩ ⟨by omega, by omega⟩ (fun h1 => ?_) (fun h1 => absurd h1 (by omega))
  refine r_load (i := 8) (u := 1) (w := 0) rfl rfl rfl ?_
  refine r_new (i := 9) (u := 10) rfl rfl (by decide) (by omega) hz2 hc hs fun q => ?_
  have k1 : yact (ynew S q 10 z.toNat) k := Or.inl hk
  have k5 : yact (ynew S q 10 z.toNat) 5 := Or.inr ⟨rfl, rfl⟩
  have en : (ynew S q 10 z.toNat).n k = S.n k := ynew_n hk
  have ep : (ynew S q 10 z.toNat).p k = S.p k := ynew_p hk
  have eg : yG (ynew S q 10 z.toNat) k = 10 := (yG_lt (S := S) hk).trans hg
  refine r_store (i := 10) (u := 2) (w := 2) (L1 := [some (2, S.p k), some (vi z), some (2, q)]) rfl rfl rfl rfl ?_
  refine r_load (i := 11) (u := 0) (w := 2) rfl rfl rfl ?_
  refine r_const (i := 12) (u := 0) (z := 0) rfl rfl ?_
  refine r_load (i := 13) (u := 2) (w := 2) rfl rfl rfl ?_
  refine r_const (i := 14) (u := 0) (z := 0) rfl rfl ?_
  refine r_load (i := 15) (u := 0) (w := 2) rfl rfl rfl ?_
  refine g_len (i := 16) (k := k) rfl ep k1 (by omega) fun hn2 => ?_
  rw [en]
  refine r_load (i := 17) (u := 1) (w := 0) rfl rfl rfl ?_
  refine r_call (i := 18) (u := 65535) (v := 269) (w := 0) (b := 2) (na := 514) (C2 := xC269) (as := [vi (S.n k : Int), vi z]) (s := [vi 0, (2, q), vi 0, (2, S.p k)]) rfl rfl rfl rfl rfl rfl rfl (sp269 (x := (S.n k : Int)) (y := z) ⟨by omega, by omega⟩ ⟨by omega, by omega⟩ (by omega)) (fun r S2 hq => ?_)
  obtain ⟨z9, rfl, a1, a2, a3, a4, rfl⟩ := hq
  refine Or.inr (Or.inl ⟨rfl, ?_⟩)
  obtain rfl : z9 = (S.n k : Int) := by omega
  refine g_copy (i := 19) (k1 := k) (k2 := 5) (m := (S.n k : Int)) (z1 := 0) (z2 := 0) rfl ep rfl k1 k5 (by omega) (by omega) rfl (by rw [eg]; rfl) (by omega) (by decide) (by decide) (by omega) (by rw [en]; omega) (by show (0 : Int) + S.n k ≤ ((z.toNat : Nat) : Int); omega) ?_
  refine r_load (i := 20) (u := 2) (w := 2) rfl rfl rfl ?_
  exact r_retA (i := 21) rfl rfl ⟨q, rfl, by rw [Int.toNat_natCast]; rfl⟩
theorem r_grow10 {k b v w m : Nat} {ks : List yk} {z : Int} (hI : yI S) (h17 : yq C i 17 65535 277 0 = true) (hb17 : Nat.beq (xrb (xrow C i)) 2 = true) (hu : yuq k b v 0 LY = true) (h11 : yq C (i + 1) 11 2 v w = true) (hb : LY[b]? = some (.o w m ks)) (hkf : ks[v]? = some (.g k)) (hl : Nat.ble (((2, b) :: st : List xv)).length 8 = true) (hk : k < 5) (hg : yG S k = 10) (hz : (S.n k : Int) < z) (hz2 : z < 1048576) (hc : 1 ≤ S.bc) (hs : z ≤ S.bs) (hd : 3 ≤ d)
    (kk : ∀ S', yGr k z.toNat S S' → yT xPr G LY C (i + 1 + 1) L st S' (d + 1) Q) : yT xPr G LY C i L (vi z :: (2, S.p k) :: (2, b) :: st) S (d + 1) Q := by
  refine r_call (u := 65535) (v := 277) (w := 0) (b := 2) (na := 770) (C2 := xC277) (as := [(2, S.p k), vi z]) (s := (2, b) :: st) h17 hb17 rfl rfl hl rfl rfl (cp10 hI hk hg hz hz2 hc hs hd) (fun r S2 hq => ?_)
  obtain ⟨q, rfl, rfl⟩ := hq
  refine Or.inr (Or.inl ⟨rfl, ?_⟩)
  have eg : yG (ycp (ynew S q 10 z.toNat) k 0 5 0 (S.n k)) k = 10 := (yG_lt (S := S) hk).trans hg
  refine r_take (S := ycp (ynew S q 10 z.toNat) k 0 5 0 (S.n k)) rfl hu h11 hb hkf rfl (by rw [eg]; rfl) (kk _ ?_)
  exact yGr_of hk (by omega) hc (by omega)

theorem g_bload {k : Nat} {z : Int} (h : yq C i 14 8 0 0 = true) (hk : Nat.blt k 5 = true) (hg : yG S k = 8) (h0 : 0 ≤ z) (hz : z < S.n k) (kk : -128 ≤ S.a (100 + k) z.toNat ∧ S.a (100 + k) z.toNat ≤ 127 → yT P G ly C (i + 1) L (vi (S.a (100 + k) z.toNat) :: st) S d Q) : yT P G ly C i L (vi z :: (2, S.p k) :: st) S d Q := by
  rw [Nat.blt_eq] at hk
  refine r_galoadI (by rw [hg]; exact h) (Or.inl hk) (Or.inr hg) h0 hz (fun h9 => kk ?_)
  rw [hg] at h9
  exact h9
theorem g_iload {k : Nat} {z : Int} (h : yq C i 14 10 0 0 = true) (hk : Nat.blt k 5 = true) (hg : yG S k = 10) (h0 : 0 ≤ z) (hz : z < S.n k) (kk : Rg (S.a (100 + k) z.toNat) → yT P G ly C (i + 1) L (vi (S.a (100 + k) z.toNat) :: st) S d Q) : yT P G ly C i L (vi z :: (2, S.p k) :: st) S d Q := by
  rw [Nat.blt_eq] at hk
  refine r_galoadI (by rw [hg]; exact h) (Or.inl hk) (Or.inl hg) h0 hz (fun h9 => kk ?_)
  rw [hg] at h9
  exact h9
theorem yFr.grow {MF : List (Nat × Nat)} {MA : List Nat} {S1 S2 : yS} {k m : Nat} (h : yFr MF MA S S1) (hG : yGr k m S1 S2) (e : yin MA (100 + k) = true) (e5 : yin MA 105 = true) : yFr MF MA S S2 := by
  refine yFr.mk' ⟨fun b w e' => by rw [hG.f]; exact h.f e', fun b e' j => ?_⟩
  rw [hG.a b (fun h9 => by rw [h9, e] at e'; cases e') (fun h9 => by rw [h9, e5] at e'; cases e')]
  exact h.a e' j
theorem yRm.grow {MN : List Nat} {S1 S2 : yS} {k m : Nat} (h : yRm MN S S1) (hG : yGr k m S1 S2) (hk : k < 5) (e : yin MN k = true) (h2 : 2 * S1.n k ≤ m) (h1 : 128 ≤ S1.n k) : yRm MN S S2 := by
  have hn : ∀ q, q < 5 → S2.n q = if q = k then m else S1.n q := by
    intro q hq
    by_cases e : q = k
    · rw [if_pos e, e]; exact hG.n1
    · rw [if_neg e]; exact hG.n q hq e
  have m0 := hn 0 (by decide)
  have m1 := hn 1 (by decide)
  have m2 := hn 2 (by decide)
  have m3 := hn 3 (by decide)
  have m4 := hn 4 (by decide)
  have hc := hG.c
  have hs := hG.s
  have hc1 := h.c
  have hs1 := h.s
  have ek : k = 0 ∨ k = 1 ∨ k = 2 ∨ k = 3 ∨ k = 4 := by omega
  refine yRm.mk' ⟨fun q hq => ?_, fun q e' => ?_, ?_, ?_⟩
  · have := h.n q hq
    rw [hn q hq]
    by_cases hqk : q = k
    · rw [if_pos hqk]; rw [hqk] at this ⊢; omega
    · rw [if_neg hqk]; exact this
  · rcases Nat.lt_or_ge q 5 with hq | hq
    · rcases h.e e' with h9 | h9
      · refine Or.inl ?_
        rw [hn q hq, if_neg (fun h8 => by rw [h8, e] at e'; cases e')]
        exact h9
      · omega
    · exact Or.inr hq
  · rcases ek with rfl | rfl | rfl | rfl | rfl <;> simp at m0 m1 m2 m3 m4 <;> omega
  · rcases ek with rfl | rfl | rfl | rfl | rfl <;> simp at m0 m1 m2 m3 m4 <;> omega
theorem yX.grow {FF : List (Nat × Nat)} {FA : List Nat} {X : yS → Prop} {S' : yS} {k m : Nat} (h : yX FF FA X) (hx : X S) (hG : yGr k m S S') (e : yin FA (100 + k) = false) (e5 : yin FA 105 = false) : X S' := by
  refine h S S' (fun b w _ => by rw [hG.f]) (fun b e' j => ?_) hx
  rw [hG.a b (fun h9 => by rw [h9, e] at e'; cases e') (fun h9 => by rw [h9, e5] at e'; cases e')]
/-! the pool: its rows, with t bytes and c entries -/
def PA (S : yS) (t c : Int) : Prop := (∀ j, j < 64 → 0 ≤ S.a 37 j ∧ S.a 37 j ≤ c) ∧ ∀ e : Nat, 1 ≤ e → (e : Int) ≤ c → 0 ≤ S.a 102 e ∧ S.a 102 e ≤ c ∧ 0 ≤ S.a 103 e ∧ S.a 103 e ≤ t
def PLat (S : yS) (t : Int) : Prop := (0 ≤ S.f 36 5 ∧ S.f 36 5 < S.n 3 ∧ S.n 2 = S.n 3 ∧ 3 * S.f 36 5 ≤ t) ∧ PA S t (S.f 36 5)
abbrev PL (S : yS) : Prop := PLat S (S.f 31 1)
theorem PLat.n {t : Int} (h : PLat S t) : 0 ≤ S.f 36 5 ∧ S.f 36 5 < S.n 3 ∧ S.n 2 = S.n 3 ∧ 3 * S.f 36 5 ≤ t := h.1
theorem PA.up {S' : yS} {t t' c : Int} (h : PA S t c) (ht : t ≤ t') (a37 : ∀ j, S'.a 37 j = S.a 37 j) (a102 : ∀ j, S'.a 102 j = S.a 102 j) (a103 : ∀ j, S'.a 103 j = S.a 103 j) : PA S' t' c := by
  refine ⟨fun j hj => ?_, fun e he1 he2 => ?_⟩
  · rw [a37]; exact h.1 j hj
  · rw [a102, a103]
    have := h.2 e he1 he2
    omega
theorem PLat.up {S' : yS} {t t' : Int} (h : PLat S t) (e5 : S'.f 36 5 = S.f 36 5) (ht : t ≤ t') (n3 : S'.n 3 = S.n 3) (n2 : S'.n 2 = S.n 2) (a37 : ∀ j, S'.a 37 j = S.a 37 j) (a102 : ∀ j, S'.a 102 j = S.a 102 j) (a103 : ∀ j, S'.a 103 j = S.a 103 j) : PLat S' t' := by
  obtain ⟨h1, h2⟩ := h
  refine ⟨by omega, ?_⟩
  rw [e5]
  exact h2.up ht a37 a102 a103
theorem PTx.setf {t : Int} (h : PLat S t) {b w : Nat} {z : Int} (e : yin2 [(36, 5)] b w = false) : PLat (ysf S b w z) t := by
  have hne : (ysf S b w z).f 36 5 = S.f 36 5 := by
    refine ysf_ne ?_
    by_cases h1 : 36 = b
    · by_cases h2 : 5 = w
      · subst h1 h2; cases e
      · exact Or.inr h2
    · exact Or.inl h1
  exact h.up hne (Int.le_refl _) rfl rfl (fun _ => rfl) (fun _ => rfl) (fun _ => rfl)
theorem PTx.seta {t : Int} (h : PLat S t) {b j : Nat} {z : Int} (e : yin [37, 102, 103] b = false) : PLat (ysa S b j z) t := by
  have hne : ∀ b', yin [37, 102, 103] b' = true → ∀ j', (ysa S b j z).a b' j' = S.a b' j' := fun b' e' j' => ysa_ne (Or.inl (fun h1 => by subst h1; rw [e] at e'; cases e'))
  exact h.up rfl (Int.le_refl _) rfl rfl (hne 37 rfl) (hne 102 rfl) (hne 103 rfl)
theorem PTx.fr {t : Int} {MF : List (Nat × Nat)} {MA MN : List Nat} {S' : yS} (h : PLat S t) (hF : yFr MF MA S S') (hR : yRm MN S S') (e1 : ydj2 [(36, 5)] MF = true) (e2 : ydj1 [37, 102, 103] MA = true) (e3 : ydj1 [2, 3] MN = true) : PLat S' t :=
  h.up (hF.f (ydj2_of e1 rfl)) (Int.le_refl _) (hR.eq (ydj1_of e3 rfl) rfl) (hR.eq (ydj1_of e3 rfl) rfl) (hF.a (ydj1_of e2 rfl)) (hF.a (ydj1_of e2 rfl)) (hF.a (ydj1_of e2 rfl))
theorem PTx.grow {t : Int} {S' : yS} {k m : Nat} (h : PLat S t) (hG : yGr k m S S') (hk : k < 2 ∨ k = 4) : PLat S' t :=
  h.up (by rw [hG.f]) (Int.le_refl _) (hG.n 3 (by decide) (by omega)) (hG.n 2 (by decide) (by omega)) (fun j => by rw [hG.a 37 (by omega) (by decide)]) (fun j => by rw [hG.a 102 (by omega) (by decide)]) (fun j => by rw [hG.a 103 (by omega) (by decide)])
theorem PLx.setf (h : PL S) {b w : Nat} {z : Int} (e : yin2 [(36, 5), (31, 1)] b w = false) : PL (ysf S b w z) := by
  have h31 : (ysf S b w z).f 31 1 = S.f 31 1 := by
    refine ysf_ne ?_
    by_cases h1 : 31 = b
    · by_cases h2 : 1 = w
      · subst h1 h2; cases e
      · exact Or.inr h2
    · exact Or.inl h1
  have h36 : yin2 [(36, 5)] b w = false := by
    cases h9 : yin2 [(36, 5)] b w with
    | false => rfl
    | true =>
      have h9 : (Nat.beq 36 b && Nat.beq 5 w || false) = true := h9
      have e : (Nat.beq 36 b && Nat.beq 5 w || (Nat.beq 31 b && Nat.beq 1 w || false)) = false := e
      rw [Bool.or_false] at h9
      rw [h9] at e
      cases e
  show PLat (ysf S b w z) ((ysf S b w z).f 31 1)
  rw [h31]
  exact PTx.setf h h36
theorem PLx.seta (h : PL S) {b j : Nat} {z : Int} (e : yin [37, 102, 103] b = false) : PL (ysa S b j z) := PTx.seta h e
theorem PLx.fr {MF : List (Nat × Nat)} {MA MN : List Nat} {S' : yS} (h : PL S) (hF : yFr MF MA S S') (hR : yRm MN S S') (e1 : ydj2 [(36, 5), (31, 1)] MF = true) (e2 : ydj1 [37, 102, 103] MA = true) (e3 : ydj1 [2, 3] MN = true) : PL S' :=
  PLat.up h (hF.f (ydj2_of e1 rfl)) (by rw [hF.f (ydj2_of e1 rfl)]; exact Int.le_refl _) (hR.eq (ydj1_of e3 rfl) rfl) (hR.eq (ydj1_of e3 rfl) rfl) (hF.a (ydj1_of e2 rfl)) (hF.a (ydj1_of e2 rfl)) (hF.a (ydj1_of e2 rfl))
theorem PLx.grow {S' : yS} {k m : Nat} (h : PL S) (hG : yGr k m S S') (hk : k < 2 ∨ k = 4) : PL S' := by
  have := PTx.grow h hG hk
  show PLat S' (S'.f 31 1)
  rw [hG.f]
  exact this
theorem PAx.setf {t c : Int} (h : PA S t c) {b w : Nat} {z : Int} (e : yin2 [] b w = false) : PA (ysf S b w z) t c := h.up (Int.le_refl _) (fun _ => rfl) (fun _ => rfl) (fun _ => rfl)
theorem PAx.seta {t c : Int} (h : PA S t c) {b j : Nat} {z : Int} (e : yin [37, 102, 103] b = false) : PA (ysa S b j z) t c := by
  have hne : ∀ b', yin [37, 102, 103] b' = true → ∀ j', (ysa S b j z).a b' j' = S.a b' j' := fun b' e' j' => ysa_ne (Or.inl (fun h1 => by subst h1; rw [e] at e'; cases e'))
  exact h.up (Int.le_refl _) (hne 37 rfl) (hne 102 rfl) (hne 103 rfl)
theorem PAx.fr {t c : Int} {MF : List (Nat × Nat)} {MA MN : List Nat} {S' : yS} (h : PA S t c) (hF : yFr MF MA S S') (hR : yRm MN S S') (e1 : ydj2 [] MF = true) (e2 : ydj1 [37, 102, 103] MA = true) (e3 : ydj1 [] MN = true) : PA S' t c := h.up (Int.le_refl _) (hF.a (ydj1_of e2 rfl)) (hF.a (ydj1_of e2 rfl)) (hF.a (ydj1_of e2 rfl))
theorem PAx.grow {t c : Int} {S' : yS} {k m : Nat} (h : PA S t c) (hG : yGr k m S S') (h2 : c < S.n 2) (h3 : c < S.n 3) : PA S' t c := by
  by_cases hk2 : k = 2
  · subst hk2
    refine ⟨fun j hj => by rw [hG.a 37 (by decide) (by decide)]; exact h.1 j hj, fun e he1 he2 => ?_⟩
    rw [hG.a 103 (by decide) (by decide)]
    have e9 := hG.g e (by omega)
    have e9 : S'.a 102 e = S.a 102 e := e9
    rw [e9]
    exact h.2 e he1 he2
  · by_cases hk3 : k = 3
    · subst hk3
      refine ⟨fun j hj => by rw [hG.a 37 (by decide) (by decide)]; exact h.1 j hj, fun e he1 he2 => ?_⟩
      rw [hG.a 102 (by decide) (by decide)]
      have e9 := hG.g e (by omega)
      have e9 : S'.a 103 e = S.a 103 e := e9
      rw [e9]
      exact h.2 e he1 he2
    · exact h.up (Int.le_refl _) (fun j => by rw [hG.a 37 (by omega) (by decide)]) (fun j => by rw [hG.a 102 (by omega) (by decide)]) (fun j => by rw [hG.a 103 (by omega) (by decide)])
theorem PA.push {S' : yS} {t c : Int} {q : Nat} (h : PA S t c) (hc : 0 ≤ c) (ht : 0 ≤ t) {x : Int} (hx : 0 ≤ x ∧ x ≤ c) (e : ∀ b j, S'.a b j = (ysa (ysa (ysa S 103 (c + 1).toNat t) 102 (c + 1).toNat x) 37 q (c + 1)).a b j) : PA S' t (c + 1) := by
  have e37 : ∀ j, S'.a 37 j = cond (Nat.beq j q) (c + 1) (S.a 37 j) := fun j => e 37 j
  have e102 : ∀ j, S'.a 102 j = cond (Nat.beq j (c + 1).toNat) x (S.a 102 j) := fun j => e 102 j
  have e103 : ∀ j, S'.a 103 j = cond (Nat.beq j (c + 1).toNat) t (S.a 103 j) := fun j => e 103 j
  refine ⟨fun j hj => ?_, fun w h1 h2 => ?_⟩
  · rw [e37]
    have := h.1 j hj
    cases Nat.beq j q with
    | true => rw [cond_true]; omega
    | false => rw [cond_false]; omega
  · rw [e102, e103]
    by_cases hw : w = (c + 1).toNat
    · rw [hw, ybeqT, cond_true, cond_true]; omega
    · rw [ybeqF hw, cond_false, cond_false]
      have := h.2 w h1 (by omega)
      omega
theorem PL_push {Sb S' : yS} {t c x v : Int} {i1 i2 q : Nat} (h : PA Sb t c) (hc : 0 ≤ c) (ht : 0 ≤ t) (hx : 0 ≤ x ∧ x ≤ c) (hi1 : i1 = (c + 1).toNat) (hi2 : i2 = (c + 1).toNat) (hv : v = c + 1) (e : ∀ b j, S'.a b j = (ysa (ysa (ysa Sb 103 i1 t) 102 i2 x) 37 q v).a b j) (h5 : S'.f 36 5 = c + 1) (hn : S'.f 36 5 < S'.n 3 ∧ S'.n 2 = S'.n 3) (hu : t ≤ S'.f 31 1) (h3 : 3 * (c + 1) ≤ S'.f 31 1) : PL S' := by
  subst hi1 hi2 hv
  refine ⟨⟨by omega, hn.1, hn.2, by omega⟩, ?_⟩
  rw [h5]
  exact (PA.push h hc ht hx e).up hu (fun _ => rfl) (fun _ => rfl) (fun _ => rfl)
theorem PA_0 {t : Int} (h : ∀ j, j < 64 → S.a 37 j = 0) : PA S t 0 := ⟨fun j hj => by rw [h j hj]; decide, fun e h1 h2 => absurd h2 (by omega)⟩
theorem PL_0 (h5 : S.f 36 5 = 0) (hn : 128 ≤ S.n 3) (h2 : S.n 2 = S.n 3) (hu : 0 ≤ S.f 31 1) (h : ∀ j, j < 64 → S.a 37 j = 0) : PL S := by
  refine ⟨⟨by omega, by omega, h2, by omega⟩, ?_⟩
  rw [h5]
  exact PA_0 h
/-! the pool's two rows are of one length -/
def N23 (S : yS) : Prop := S.n 2 = S.n 3
theorem N23x.setf (h : N23 S) {b w : Nat} {z : Int} (e : yin2 [] b w = false) : N23 (ysf S b w z) := h
theorem N23x.seta (h : N23 S) {b j : Nat} {z : Int} (e : yin [] b = false) : N23 (ysa S b j z) := h
theorem N23x.fr {MF : List (Nat × Nat)} {MA MN : List Nat} {S' : yS} (h : N23 S) (hF : yFr MF MA S S') (hR : yRm MN S S') (e1 : ydj2 [] MF = true) (e2 : ydj1 [] MA = true) (e3 : ydj1 [2, 3] MN = true) : N23 S' := by
  unfold N23
  rw [hR.eq (ydj1_of e3 rfl) rfl, hR.eq (ydj1_of e3 rfl) rfl]
  exact h
theorem N23x.grow {S' : yS} {k m : Nat} (h : N23 S) (hG : yGr k m S S') (hk : k < 2 ∨ k = 4) : N23 S' := by
  unfold N23
  rw [hG.n 2 (by decide) (by omega), hG.n 3 (by decide) (by omega)]
  exact h
end
theorem slv1 : slen 1 = 4 := rfl
theorem slv2 : slen 2 = 13 := rfl
theorem slv3 : slen 3 = 10 := rfl
theorem slv4 : slen 4 = 2 := rfl
theorem slv5 : slen 5 = 16 := rfl
theorem slv6 : slen 6 = 19 := rfl
theorem slv7 : slen 7 = 15 := rfl
theorem slv8 : slen 8 = 26 := rfl
theorem slv9 : slen 9 = 2 := rfl
theorem slv10 : slen 10 = 2 := rfl
theorem slv11 : slen 11 = 13 := rfl
theorem slv12 : slen 12 = 6 := rfl
theorem slv13 : slen 13 = 4 := rfl
theorem slv14 : slen 14 = 0 := rfl
theorem slv15 : slen 15 = 17 := rfl
theorem slv16 : slen 16 = 14 := rfl
theorem slv17 : slen 17 = 17 := rfl
theorem slv18 : slen 18 = 7 := rfl
theorem slv19 : slen 19 = 22 := rfl
theorem slv20 : slen 20 = 19 := rfl
theorem slv21 : slen 21 = 22 := rfl
theorem slv22 : slen 22 = 11 := rfl
theorem slv23 : slen 23 = 2 := rfl
theorem slv24 : slen 24 = 58 := rfl
theorem slv25 : slen 25 = 8 := rfl
theorem slv26 : slen 26 = 9 := rfl
theorem slv27 : slen 27 = 12 := rfl
theorem slv28 : slen 28 = 3 := rfl
theorem slv29 : slen 29 = 3 := rfl
theorem slv30 : slen 30 = 3 := rfl
theorem slv31 : slen 31 = 5 := rfl
theorem slv32 : slen 32 = 21 := rfl
theorem slv33 : slen 33 = 2 := rfl
theorem slv34 : slen 34 = 46 := rfl
theorem slv35 : slen 35 = 6 := rfl
theorem slv36 : slen 36 = 24 := rfl
theorem slv37 : slen 37 = 13 := rfl
theorem slv38 : slen 38 = 10 := rfl
theorem slv39 : slen 39 = 4 := rfl
theorem slv40 : slen 40 = 2 := rfl
theorem slv41 : slen 41 = 16 := rfl
theorem slv42 : slen 42 = 19 := rfl
theorem slv43 : slen 43 = 15 := rfl
theorem slv44 : slen 44 = 26 := rfl
theorem slv45 : slen 45 = 2 := rfl
theorem slv46 : slen 46 = 2 := rfl
theorem slv47 : slen 47 = 13 := rfl
theorem slv48 : slen 48 = 6 := rfl
theorem slv49 : slen 49 = 4 := rfl
theorem slv50 : slen 50 = 13 := rfl
theorem slv51 : slen 51 = 17 := rfl
theorem slv52 : slen 52 = 14 := rfl
theorem slv53 : slen 53 = 17 := rfl
theorem slv54 : slen 54 = 7 := rfl
theorem slv55 : slen 55 = 22 := rfl
theorem slv56 : slen 56 = 19 := rfl
theorem slv57 : slen 57 = 22 := rfl
theorem slv58 : slen 58 = 2 := rfl
theorem slv59 : slen 59 = 58 := rfl
theorem slv60 : slen 60 = 11 := rfl
theorem slv61 : slen 61 = 8 := rfl
theorem slv62 : slen 62 = 9 := rfl
theorem slv63 : slen 63 = 12 := rfl
theorem slv64 : slen 64 = 3 := rfl
theorem slv65 : slen 65 = 3 := rfl
theorem slv66 : slen 66 = 3 := rfl
theorem slv67 : slen 67 = 5 := rfl
theorem slv68 : slen 68 = 2 := rfl
theorem slv69 : slen 69 = 21 := rfl
theorem slv70 : slen 70 = 46 := rfl
theorem slv71 : slen 71 = 24 := rfl
theorem slv72 : slen 72 = 10 := rfl
end XNC
