set_option linter.unusedVariables false
noncomputable section XNC
/-! in which order the types are met: a list as a stack, a list of those met -/
def dfs (ch : Int → List Int) : Nat → List Int → List Int → Option (List Int)
  | 0, s, acc => match s with
    | [] => some acc
    | _ :: _ => none
  | n + 1, s, acc => match s with
    | [] => some acc
    | f :: r => if f ∈ acc then dfs ch n r acc else dfs ch n (ch f ++ r) (acc ++ [f])
theorem dfs_nil {ch : Int → List Int} {acc : List Int} : ∀ n, dfs ch n [] acc = some acc := by
  intro n
  cases n with
  | zero => rfl
  | succ n => rfl
theorem dfs_in {ch : Int → List Int} {n : Nat} {f : Int} {r acc : List Int} (h : f ∈ acc) : dfs ch (n + 1) (f :: r) acc = dfs ch n r acc := by
  show (if f ∈ acc then dfs ch n r acc else dfs ch n (ch f ++ r) (acc ++ [f])) = _
  rw [if_pos h]
theorem dfs_new {ch : Int → List Int} {n : Nat} {f : Int} {r acc : List Int} (h : ¬ f ∈ acc) : dfs ch (n + 1) (f :: r) acc = dfs ch n (ch f ++ r) (acc ++ [f]) := by
  show (if f ∈ acc then dfs ch n r acc else dfs ch n (ch f ++ r) (acc ++ [f])) = _
  rw [if_neg h]
theorem dfs_up {ch : Int → List Int} : ∀ (n : Nat) (s acc o : List Int), dfs ch n s acc = some o → dfs ch (n + 1) s acc = some o := by
  intro n
  induction n with
  | zero =>
    intro s acc o h
    cases s with
    | nil => exact h
    | cons f r => cases h
  | succ n ih =>
    intro s acc o h
    cases s with
    | nil => exact h
    | cons f r =>
      by_cases e : f ∈ acc
      · rw [dfs_in e] at h ⊢
        exact ih r acc o h
      · rw [dfs_new e] at h ⊢
        exact ih _ _ o h
theorem dfs_le {ch : Int → List Int} {n : Nat} {s acc o : List Int} (h : dfs ch n s acc = some o) : ∀ k, dfs ch (n + k) s acc = some o := by
  intro k
  induction k with
  | zero => exact h
  | succ k ih => exact dfs_up _ s acc o ih
theorem dfs_det {ch : Int → List Int} {n m : Nat} {s acc o o2 : List Int} (h : dfs ch n s acc = some o) (h2 : dfs ch m s acc = some o2) : o = o2 := by
  have h3 := dfs_le h m
  have h4 := dfs_le h2 n
  rw [Nat.add_comm m n] at h4
  exact Option.some.inj (h3.symm.trans h4)
def DF (ch : Int → List Int) (s acc o : List Int) : Prop := ∃ n, dfs ch n s acc = some o
theorem DF_nil {ch : Int → List Int} {acc : List Int} : DF ch [] acc acc := ⟨0, rfl⟩
theorem DF_in {ch : Int → List Int} {f : Int} {r acc o : List Int} (h : f ∈ acc) (d : DF ch r acc o) : DF ch (f :: r) acc o := by
  obtain ⟨n, e⟩ := d
  exact ⟨n + 1, (dfs_in h).trans e⟩
theorem DF_new {ch : Int → List Int} {f : Int} {r acc o : List Int} (h : ¬ f ∈ acc) (d : DF ch (ch f ++ r) (acc ++ [f]) o) : DF ch (f :: r) acc o := by
  obtain ⟨n, e⟩ := d
  exact ⟨n + 1, (dfs_new h).trans e⟩
theorem DF_det {ch : Int → List Int} {s acc o o2 : List Int} (h : DF ch s acc o) (h2 : DF ch s acc o2) : o = o2 := by
  obtain ⟨n, e⟩ := h
  obtain ⟨m, e2⟩ := h2
  exact dfs_det e e2
theorem dfs_app {ch : Int → List Int} : ∀ (n : Nat) (s acc a : List Int), dfs ch n s acc = some a → ∀ (r o : List Int) (m : Nat), dfs ch m r a = some o → ∃ k, dfs ch k (s ++ r) acc = some o := by
  intro n
  induction n with
  | zero =>
    intro s acc a h r o m h2
    cases s with
    | nil => have e : acc = a := Option.some.inj h
             subst e
             exact ⟨m, h2⟩
    | cons f q => cases h
  | succ n ih =>
    intro s acc a h r o m h2
    cases s with
    | nil => have e : acc = a := Option.some.inj h
             subst e
             exact ⟨m, h2⟩
    | cons f q =>
      by_cases e : f ∈ acc
      · rw [dfs_in e] at h
        obtain ⟨k, hk⟩ := ih q acc a h r o m h2
        exact ⟨k + 1, (dfs_in e).trans hk⟩
      · rw [dfs_new e] at h
        obtain ⟨k, hk⟩ := ih _ _ a h r o m h2
        refine ⟨k + 1, (dfs_new e).trans ?_⟩
        rw [← List.append_assoc]
        exact hk
theorem DF_app {ch : Int → List Int} {s r a0 a1 o : List Int} (h : DF ch s a0 a1) (h2 : DF ch r a1 o) : DF ch (s ++ r) a0 o := by
  obtain ⟨n, e⟩ := h
  obtain ⟨m, e2⟩ := h2
  exact dfs_app n s a0 a1 e r o m e2
theorem dfs_all {ch : Int → List Int} {R : Int → Prop} (hc : ∀ f, R f → ∀ x ∈ ch f, R x) : ∀ (n : Nat) (s acc o : List Int), dfs ch n s acc = some o → (∀ x ∈ s, R x) → (∀ x ∈ acc, R x) → ∀ x ∈ o, R x := by
  intro n
  induction n with
  | zero =>
    intro s acc o h hs ha
    cases s with
    | nil => have e : acc = o := Option.some.inj h
             subst e
             exact ha
    | cons f q => cases h
  | succ n ih =>
    intro s acc o h hs ha
    cases s with
    | nil => have e : acc = o := Option.some.inj h
             subst e
             exact ha
    | cons f q =>
      have hq : ∀ x ∈ q, R x := fun x hx => hs x (List.mem_cons_of_mem _ hx)
      have hf : R f := hs f List.mem_cons_self
      by_cases e : f ∈ acc
      · rw [dfs_in e] at h
        exact ih q acc o h hq ha
      · rw [dfs_new e] at h
        refine ih _ _ o h (fun x hx => ?_) (fun x hx => ?_)
        · rcases List.mem_append.mp hx with h1 | h1
          · exact hc f hf x h1
          · exact hq x h1
        · rcases List.mem_append.mp hx with h1 | h1
          · exact ha x h1
          · rw [List.mem_singleton.mp h1]; exact hf
theorem DF_all {ch : Int → List Int} {R : Int → Prop} {s acc o : List Int} (hc : ∀ f, R f → ∀ x ∈ ch f, R x) (h : DF ch s acc o) (hs : ∀ x ∈ s, R x) (ha : ∀ x ∈ acc, R x) : ∀ x ∈ o, R x := by
  obtain ⟨n, e⟩ := h
  exact dfs_all hc n s acc o e hs ha
/-! rows as lists -/
def rL (S : yS) (b : Nat) : Nat → List Int
  | 0 => []
  | n + 1 => rL S b n ++ [S.a b n]
theorem rL_len {S : yS} {b : Nat} : ∀ n, (rL S b n).length = n := by
  intro n
  induction n with
  | zero => rfl
  | succ n ih => show (rL S b n ++ [S.a b n]).length = n + 1; rw [List.length_append, ih]; rfl
theorem rL_eq {S S1 : yS} {b c : Nat} : ∀ n : Nat, (∀ j, j < n → S1.a c j = S.a b j) → rL S1 c n = rL S b n := by
  intro n
  induction n with
  | zero => intro _; rfl
  | succ n ih =>
    intro h
    show rL S1 c n ++ [S1.a c n] = rL S b n ++ [S.a b n]
    rw [ih (fun j hj => h j (by omega)), h n (by omega)]
theorem rL_mem {S : yS} {b : Nat} {x : Int} : ∀ n : Nat, x ∈ rL S b n ↔ ∃ j, j < n ∧ x = S.a b j := by
  intro n
  induction n with
  | zero => exact ⟨fun h => absurd h List.not_mem_nil, fun ⟨j, hj, _⟩ => absurd hj (by omega)⟩
  | succ n ih =>
    show x ∈ rL S b n ++ [S.a b n] ↔ _
    rw [List.mem_append, ih, List.mem_singleton]
    constructor
    · rintro (⟨j, hj, e⟩ | e)
      · exact ⟨j, by omega, e⟩
      · exact ⟨n, by omega, e⟩
    · rintro ⟨j, hj, e⟩
      by_cases hn : j = n
      · subst hn; exact Or.inr e
      · exact Or.inl ⟨j, by omega, e⟩
theorem rL_s {S : yS} {b : Nat} {k : Int} (h : 0 ≤ k) : rL S b (k + 1).toNat = rL S b k.toNat ++ [S.a b k.toNat] := by
  have e : (k + 1).toNat = k.toNat + 1 := by omega
  rw [e]
  rfl
theorem rL_push {S S1 : yS} {b : Nat} {c z : Int} (h0 : 0 ≤ c) (e : ∀ j, S1.a b j = (ysa S b c.toNat z).a b j) : rL S1 b (c + 1).toNat = rL S b c.toNat ++ [z] := by
  rw [rL_s h0, e c.toNat, ysa_eq, rL_eq c.toNat (fun j hj => (e j).trans (ysa_ne (Or.inr (by omega))))]
theorem rL_up {S : yS} {b m : Nat} : ∀ k : Nat, ∃ R, rL S b (m + k) = rL S b m ++ R := by
  intro k
  induction k with
  | zero => exact ⟨[], (List.append_nil _).symm⟩
  | succ k ih =>
    obtain ⟨R, hR⟩ := ih
    refine ⟨R ++ [S.a b (m + k)], ?_⟩
    show rL S b (m + k) ++ [S.a b (m + k)] = _
    rw [hR, List.append_assoc]
theorem rL_pre {S : yS} {b n : Nat} {A B : List Int} (h : rL S b n = A ++ B) : rL S b A.length = A := by
  have hl : A.length + B.length = n := by rw [← List.length_append, ← h, rL_len]
  obtain ⟨R, hR⟩ := rL_up (S := S) (b := b) (m := A.length) B.length
  rw [hl, h] at hR
  exact (List.append_inj hR (rL_len _).symm).1.symm
def chI (S : yS) (b : Nat) (t : Int) : Nat → List Int
  | 0 => []
  | n + 1 => chI S b t n ++ [S.a b (4 * t + n).toNat]
theorem chI_eq {S S1 : yS} {b c : Nat} {t : Int} (h : ∀ j, S1.a c j = S.a b j) : ∀ n : Nat, chI S1 c t n = chI S b t n := by
  intro n
  induction n with
  | zero => rfl
  | succ n ih => show chI S1 c t n ++ [S1.a c (4 * t + n).toNat] = chI S b t n ++ [S.a b (4 * t + n).toNat]; rw [ih, h]
theorem chI_s {S : yS} {b : Nat} {t k : Int} (h : 0 ≤ k) : chI S b t (k + 1).toNat = chI S b t k.toNat ++ [S.a b (4 * t + k).toNat] := by
  have e : (k + 1).toNat = k.toNat + 1 := by omega
  have e2 : ((k.toNat : Nat) : Int) = k := by omega
  rw [e]
  show chI S b t k.toNat ++ [S.a b (4 * t + (k.toNat : Int)).toNat] = _
  rw [e2]
theorem chI_mem {S : yS} {b : Nat} {t x : Int} : ∀ n : Nat, x ∈ chI S b t n → ∃ j : Nat, j < n ∧ x = S.a b (4 * t + j).toNat := by
  intro n
  induction n with
  | zero => intro h; exact absurd h List.not_mem_nil
  | succ n ih =>
    intro h
    rcases List.mem_append.mp h with h1 | h1
    · obtain ⟨j, hj, e⟩ := ih h1
      exact ⟨j, by omega, e⟩
    · exact ⟨n, by omega, List.mem_singleton.mp h1⟩
def chC (S : yS) (t : Int) : List Int := chI S 8 t (S.a 7 t.toNat).toNat
def chM (S : yS) (t : Int) : List Int := chI S 50 t (S.a 51 t.toNat).toNat
theorem chC_eq {S S1 : yS} (h7 : ∀ j, S1.a 7 j = S.a 7 j) (h8 : ∀ j, S1.a 8 j = S.a 8 j) : chC S1 = chC S := by
  funext t
  unfold chC
  rw [chI_eq h8, h7]
theorem chM_eq {S S1 : yS} (h7 : ∀ j, S1.a 51 j = S.a 51 j) (h8 : ∀ j, S1.a 50 j = S.a 50 j) : chM S1 = chM S := by
  funext t
  unfold chM
  rw [chI_eq h8, h7]
def chn (par : Int → Int) : Nat → Int → List Int
  | 0, _ => []
  | n + 1, t => if t < 0 then [] else t :: chn par n (par t)
theorem chn_neg {par : Int → Int} {n : Nat} {t : Int} (h : t < 0) : chn par n t = [] := by
  cases n with
  | zero => rfl
  | succ n => show (if t < 0 then [] else t :: chn par n (par t)) = []; rw [if_pos h]
theorem chn_pos {par : Int → Int} {n : Nat} {t : Int} (h : 0 ≤ t) : chn par (n + 1) t = t :: chn par n (par t) := by
  show (if t < 0 then [] else t :: chn par n (par t)) = _
  rw [if_neg (by omega)]
theorem chn_all {par : Int → Int} {R : Int → Prop} (hc : ∀ t, R t → 0 ≤ par t → R (par t)) : ∀ (n : Nat) (t : Int), (0 ≤ t → R t) → ∀ x ∈ chn par n t, R x := by
  intro n
  induction n with
  | zero => intro t _ x hx; exact absurd hx List.not_mem_nil
  | succ n ih =>
    intro t ht x hx
    by_cases h : t < 0
    · rw [chn_neg h] at hx; exact absurd hx List.not_mem_nil
    · rw [chn_pos (by omega)] at hx
      rcases List.mem_cons.mp hx with h1 | h1
      · rw [h1]; exact ht (by omega)
      · exact ih (par t) (hc t (ht (by omega))) x h1
theorem chn_congr {par par2 : Int → Int} {R : Int → Prop} (hc : ∀ t, R t → 0 ≤ par t → R (par t)) (he : ∀ t, R t → par2 t = par t) : ∀ (n : Nat) (t : Int), (0 ≤ t → R t) → chn par2 n t = chn par n t := by
  intro n
  induction n with
  | zero => intro t _; rfl
  | succ n ih =>
    intro t ht
    by_cases h : t < 0
    · rw [chn_neg h, chn_neg h]
    · rw [chn_pos (by omega), chn_pos (by omega), he t (ht (by omega)), ih (par t) (hc t (ht (by omega)))]
def flt (ch : Int → List Int) : List Int → List Int
  | [] => []
  | t :: r => ch t ++ flt ch r
theorem flt_app {ch : Int → List Int} : ∀ a b : List Int, flt ch (a ++ b) = flt ch a ++ flt ch b := by
  intro a
  induction a with
  | nil => intro b; rfl
  | cons t r ih => intro b; show ch t ++ flt ch (r ++ b) = (ch t ++ flt ch r) ++ flt ch b; rw [ih, List.append_assoc]
theorem flt_snoc {ch : Int → List Int} {a : List Int} {t : Int} : flt ch (a ++ [t]) = flt ch a ++ ch t := by
  rw [flt_app]
  show flt ch a ++ (ch t ++ []) = _
  rw [List.append_nil]
theorem flt_mem {ch : Int → List Int} {x : Int} : ∀ a : List Int, x ∈ flt ch a → ∃ t ∈ a, x ∈ ch t := by
  intro a
  induction a with
  | nil => intro h; exact absurd h List.not_mem_nil
  | cons t r ih =>
    intro h
    rcases List.mem_append.mp h with h1 | h1
    · exact ⟨t, List.mem_cons_self, h1⟩
    · obtain ⟨q, hq, e⟩ := ih h1
      exact ⟨q, List.mem_cons_of_mem _ hq, e⟩
/-! what is counted: a type's methods in their order, each that is wanted and like none before -/
def cM (ok : Nat → Bool) (sm : Int → Nat → Bool) (acc : List Int) : Nat → List Int
  | 0 => acc
  | n + 1 => cond (ok n && !((cM ok sm acc n).any fun x => sm x n)) (cM ok sm acc n ++ [(n : Int)]) (cM ok sm acc n)
theorem cM_y {ok : Nat → Bool} {sm : Int → Nat → Bool} {acc : List Int} {m : Int} (h0 : 0 ≤ m) (h1 : ok m.toNat = true) (h2 : ∀ x ∈ cM ok sm acc m.toNat, sm x m.toNat = false) : cM ok sm acc (m + 1).toNat = cM ok sm acc m.toNat ++ [m] := by
  have e : (m + 1).toNat = m.toNat + 1 := by omega
  have e2 : ((m.toNat : Nat) : Int) = m := by omega
  have h3 : ((cM ok sm acc m.toNat).any fun x => sm x m.toNat) = false := by
    rw [List.any_eq_false]
    intro x hx
    rw [h2 x hx]
    exact Bool.false_ne_true
  rw [e]
  show cond (ok m.toNat && !((cM ok sm acc m.toNat).any fun x => sm x m.toNat)) (cM ok sm acc m.toNat ++ [((m.toNat : Nat) : Int)]) (cM ok sm acc m.toNat) = _
  rw [h1, h3, e2]
  rfl
theorem cM_n1 {ok : Nat → Bool} {sm : Int → Nat → Bool} {acc : List Int} {m : Int} (h0 : 0 ≤ m) (h1 : ok m.toNat = false) : cM ok sm acc (m + 1).toNat = cM ok sm acc m.toNat := by
  have e : (m + 1).toNat = m.toNat + 1 := by omega
  rw [e]
  show cond (ok m.toNat && !((cM ok sm acc m.toNat).any fun x => sm x m.toNat)) (cM ok sm acc m.toNat ++ [((m.toNat : Nat) : Int)]) (cM ok sm acc m.toNat) = _
  rw [h1]
  rfl
theorem cM_n2 {ok : Nat → Bool} {sm : Int → Nat → Bool} {acc : List Int} {m x : Int} (h0 : 0 ≤ m) (hx : x ∈ cM ok sm acc m.toNat) (h1 : sm x m.toNat = true) : cM ok sm acc (m + 1).toNat = cM ok sm acc m.toNat := by
  have e : (m + 1).toNat = m.toNat + 1 := by omega
  have h3 : ((cM ok sm acc m.toNat).any fun x => sm x m.toNat) = true := List.any_eq_true.mpr ⟨x, hx, h1⟩
  rw [e]
  show cond (ok m.toNat && !((cM ok sm acc m.toNat).any fun x => sm x m.toNat)) (cM ok sm acc m.toNat ++ [((m.toNat : Nat) : Int)]) (cM ok sm acc m.toNat) = _
  rw [h3, Bool.not_true, Bool.and_false]
  rfl
def cAll (ok : Int → Nat → Bool) (sm : Int → Nat → Bool) (M : Nat) : List Int → List Int → List Int
  | [], acc => acc
  | t :: r, acc => cAll ok sm M r (cM (ok t) sm acc M)
theorem cAll_app {ok : Int → Nat → Bool} {sm : Int → Nat → Bool} {M : Nat} : ∀ (a b acc : List Int), cAll ok sm M (a ++ b) acc = cAll ok sm M b (cAll ok sm M a acc) := by
  intro a
  induction a with
  | nil => intro b acc; rfl
  | cons t r ih => intro b acc; exact ih b _
theorem cAll_snoc {ok : Int → Nat → Bool} {sm : Int → Nat → Bool} {M : Nat} {a acc : List Int} {t : Int} : cAll ok sm M (a ++ [t]) acc = cM (ok t) sm (cAll ok sm M a acc) M := cAll_app a [t] acc
/-- everything counted is a method -/
theorem cM_lt {ok : Nat → Bool} {sm : Int → Nat → Bool} {acc : List Int} {M : Nat} (ha : ∀ x ∈ acc, 0 ≤ x ∧ x < (M : Int)) : ∀ n, n ≤ M → ∀ x ∈ cM ok sm acc n, 0 ≤ x ∧ x < (M : Int) := by
  intro n
  induction n with
  | zero => intro _; exact ha
  | succ n ih =>
    intro hn x hx
    have h2 := ih (by omega)
    unfold cM at hx
    cases hb : (ok n && !((cM ok sm acc n).any fun x => sm x n)) with
    | false => rw [hb] at hx; exact h2 x hx
    | true =>
      rw [hb] at hx
      rcases List.mem_append.mp hx with h1 | h1
      · exact h2 x h1
      · have := List.mem_singleton.mp h1
        omega
theorem cM_congr {ok ok2 : Nat → Bool} {sm sm2 : Int → Nat → Bool} {acc : List Int} {M : Nat} (h1 : ∀ m, m < M → ok2 m = ok m) (h2 : ∀ (x : Int) (m : Nat), 0 ≤ x → x < (M : Int) → m < M → sm2 x m = sm x m) (ha : ∀ x ∈ acc, 0 ≤ x ∧ x < (M : Int)) : ∀ n, n ≤ M → cM ok2 sm2 acc n = cM ok sm acc n := by
  intro n
  induction n with
  | zero => intro _; rfl
  | succ n ih =>
    intro hn
    have h3 := ih (by omega)
    have h4 : ((cM ok sm acc n).any fun x => sm2 x n) = ((cM ok sm acc n).any fun x => sm x n) := by
      have hl := cM_lt (ok := ok) (sm := sm) ha n (by omega)
      cases hb : ((cM ok sm acc n).any fun x => sm x n) with
      | true =>
        obtain ⟨x, hx, e⟩ := List.any_eq_true.mp hb
        exact List.any_eq_true.mpr ⟨x, hx, by rw [h2 x n (hl x hx).1 (hl x hx).2 (by omega)]; exact e⟩
      | false =>
        rw [List.any_eq_false] at hb ⊢
        intro x hx
        rw [h2 x n (hl x hx).1 (hl x hx).2 (by omega)]
        exact hb x hx
    show cond (ok2 n && !((cM ok2 sm2 acc n).any fun x => sm2 x n)) (cM ok2 sm2 acc n ++ [(n : Int)]) (cM ok2 sm2 acc n) = cond (ok n && !((cM ok sm acc n).any fun x => sm x n)) (cM ok sm acc n ++ [(n : Int)]) (cM ok sm acc n)
    rw [h3, h1 n (by omega), h4]
theorem cAll_lt {ok : Int → Nat → Bool} {sm : Int → Nat → Bool} {M : Nat} : ∀ (l acc : List Int), (∀ x ∈ acc, 0 ≤ x ∧ x < (M : Int)) → ∀ x ∈ cAll ok sm M l acc, 0 ≤ x ∧ x < (M : Int) := by
  intro l
  induction l with
  | nil => intro acc ha; exact ha
  | cons t r ih => intro acc ha; exact ih _ (cM_lt ha M (Nat.le_refl _))
theorem cAll_congr {ok ok2 : Int → Nat → Bool} {sm sm2 : Int → Nat → Bool} {M : Nat} (h2 : ∀ (x : Int) (m : Nat), 0 ≤ x → x < (M : Int) → m < M → sm2 x m = sm x m) : ∀ (l acc : List Int), (∀ t ∈ l, ∀ m, m < M → ok2 t m = ok t m) → (∀ x ∈ acc, 0 ≤ x ∧ x < (M : Int)) → cAll ok2 sm2 M l acc = cAll ok sm M l acc := by
  intro l
  induction l with
  | nil => intro acc _ _; rfl
  | cons t r ih =>
    intro acc h1 ha
    show cAll ok2 sm2 M r (cM (ok2 t) sm2 acc M) = cAll ok sm M r (cM (ok t) sm acc M)
    rw [cM_congr (h1 t List.mem_cons_self) h2 ha M (Nat.le_refl _)]
    exact ih _ (fun q hq => h1 q (List.mem_cons_of_mem _ hq)) (cM_lt ha M (Nat.le_refl _))
/-- two of a list stand in R: a later one, and an earlier one -/
def pr (R : Int → Int → Prop) : List Int → Prop
  | [] => False
  | x :: r => (∃ y ∈ r, R y x) ∨ pr R r
theorem pr_snoc {R : Int → Int → Prop} {z : Int} : ∀ l : List Int, pr R (l ++ [z]) ↔ pr R l ∨ ∃ x ∈ l, R z x := by
  intro l
  induction l with
  | nil =>
    constructor
    · rintro (⟨y, hy, -⟩ | h)
      · exact absurd hy List.not_mem_nil
      · exact absurd h id
    · rintro (h | ⟨y, hy, -⟩)
      · exact absurd h id
      · exact absurd hy List.not_mem_nil
  | cons x r ih =>
    constructor
    · rintro (⟨y, hy, h⟩ | h)
      · rcases List.mem_append.mp hy with h1 | h1
        · exact Or.inl (Or.inl ⟨y, h1, h⟩)
        · rw [List.mem_singleton.mp h1] at h
          exact Or.inr ⟨x, List.mem_cons_self, h⟩
      · rcases ih.mp h with h1 | ⟨y, hy, h1⟩
        · exact Or.inl (Or.inr h1)
        · exact Or.inr ⟨y, List.mem_cons_of_mem _ hy, h1⟩
    · rintro ((⟨y, hy, h⟩ | h) | ⟨y, hy, h⟩)
      · exact Or.inl ⟨y, List.mem_append_left _ hy, h⟩
      · exact Or.inr (ih.mpr (Or.inl h))
      · rcases List.mem_cons.mp hy with h1 | h1
        · rw [h1] at h
          exact Or.inl ⟨z, List.mem_append_right _ (List.mem_singleton.mpr rfl), h⟩
        · exact Or.inr (ih.mpr (Or.inr ⟨y, h1, h⟩))
theorem pr_imp {R Q : Int → Int → Prop} : ∀ l : List Int, (∀ x ∈ l, ∀ y ∈ l, R y x → Q y x) → pr R l → pr Q l := by
  intro l
  induction l with
  | nil => intro _ h; exact h
  | cons x r ih =>
    intro hi h
    rcases h with ⟨y, hy, h⟩ | h
    · exact Or.inl ⟨y, hy, hi x List.mem_cons_self y (List.mem_cons_of_mem _ hy) h⟩
    · exact Or.inr (ih (fun a ha b hb => hi a (List.mem_cons_of_mem _ ha) b (List.mem_cons_of_mem _ hb)) h)
theorem pr_filter {R : Int → Int → Prop} {p : Int → Bool} : ∀ l : List Int, pr R (l.filter p) ↔ pr (fun y x => p y = true ∧ p x = true ∧ R y x) l := by
  intro l
  induction l with
  | nil => exact Iff.rfl
  | cons x r ih =>
    by_cases hp : p x = true
    · rw [List.filter_cons_of_pos hp]
      constructor
      · rintro (⟨y, hy, h⟩ | h)
        · obtain ⟨h1, h2⟩ := List.mem_filter.mp hy
          exact Or.inl ⟨y, h1, h2, hp, h⟩
        · exact Or.inr (ih.mp h)
      · rintro (⟨y, hy, h1, h2, h⟩ | h)
        · exact Or.inl ⟨y, List.mem_filter.mpr ⟨hy, h1⟩, h⟩
        · exact Or.inr (ih.mpr h)
    · rw [List.filter_cons_of_neg hp]
      constructor
      · intro h; exact Or.inr (ih.mp h)
      · rintro (⟨y, hy, h1, h2, h⟩ | h)
        · exact absurd h2 hp
        · exact ih.mpr h
theorem pr_row {S : yS} {b : Nat} {R : Int → Int → Prop} : ∀ n : Nat, pr R (rL S b n) ↔ ∃ i j : Nat, j < i ∧ i < n ∧ R (S.a b i) (S.a b j) := by
  intro n
  induction n with
  | zero => exact ⟨fun h => absurd h id, fun ⟨i, j, _, h, _⟩ => absurd h (by omega)⟩
  | succ n ih =>
    show pr R (rL S b n ++ [S.a b n]) ↔ _
    rw [pr_snoc, ih]
    constructor
    · rintro (⟨i, j, hj, hi, h⟩ | ⟨x, hx, h⟩)
      · exact ⟨i, j, hj, by omega, h⟩
      · obtain ⟨j, hj, rfl⟩ := (rL_mem _).mp hx
        exact ⟨n, j, hj, by omega, h⟩
    · rintro ⟨i, j, hj, hi, h⟩
      by_cases e : i = n
      · subst e
        exact Or.inr ⟨S.a b j, (rL_mem _).mpr ⟨j, hj, rfl⟩, h⟩
      · exact Or.inl ⟨i, j, hj, by omega, h⟩
/-- none of those counted is like one before it -/
theorem cM_npr {ok : Nat → Bool} {sm : Int → Nat → Bool} {acc : List Int} (h : ¬ pr (fun y x => sm x y.toNat = true) acc) : ∀ n, ¬ pr (fun y x => sm x y.toNat = true) (cM ok sm acc n) := by
  intro n
  induction n with
  | zero => exact h
  | succ n ih =>
    unfold cM
    cases hb : (ok n && !((cM ok sm acc n).any fun x => sm x n)) with
    | false => exact ih
    | true =>
      show ¬ pr _ (cM ok sm acc n ++ [(n : Int)])
      rw [pr_snoc]
      rintro (q | ⟨x, hx, q⟩)
      · exact ih q
      · have hb2 : ((cM ok sm acc n).any fun x => sm x n) = true := List.any_eq_true.mpr ⟨x, hx, q⟩
        rw [hb2, Bool.not_true, Bool.and_false] at hb
        cases hb
theorem cAll_npr {ok : Int → Nat → Bool} {sm : Int → Nat → Bool} {M : Nat} : ∀ (l acc : List Int), ¬ pr (fun y x => sm x y.toNat = true) acc → ¬ pr (fun y x => sm x y.toNat = true) (cAll ok sm M l acc) := by
  intro l
  induction l with
  | nil => intro acc h; exact h
  | cons t r ih => intro acc h; exact ih _ (cM_npr h M)
/-! faces are interfaces, a class's parent is a class -/
def RI (S : yS) : Prop := (∀ x i : Int, 0 ≤ x → x < S.f 1 7 → 0 ≤ i → i < S.a 7 x.toNat → S.a 2 (S.a 8 (4 * x + i).toNat).toNat = 1) ∧ (∀ x : Int, 1 ≤ x → x < S.f 1 7 → S.a 2 x.toNat = 0 → S.a 2 (S.a 5 x.toNat).toNat = 0)
theorem RIx : yX [(1, 7)] [2, 5, 7, 8] RI := by
  intro S S' hf ha h
  have e := hf 1 7 rfl
  have e2 : S'.a 2 = S.a 2 := funext (fun j => ha 2 rfl j)
  have e5 : S'.a 5 = S.a 5 := funext (fun j => ha 5 rfl j)
  have e7 : S'.a 7 = S.a 7 := funext (fun j => ha 7 rfl j)
  have e8 : S'.a 8 = S.a 8 := funext (fun j => ha 8 rfl j)
  unfold RI at h ⊢
  rw [e, e2, e5, e7, e8]
  exact h
def sT (S0 S : yS) : Prop := S.f 1 7 = S0.f 1 7 ∧ ∀ j, S.a 2 j = S0.a 2 j ∧ S.a 5 j = S0.a 5 j ∧ S.a 7 j = S0.a 7 j ∧ S.a 8 j = S0.a 8 j
theorem sT_fr {S0 S : yS} {MF : List (Nat × Nat)} {MA : List Nat} (hF : yFr MF MA S0 S) (s1 : ydj2 [(1, 7)] MF = true) (s2 : ydj1 [2, 5, 7, 8] MA = true) : sT S0 S :=
  ⟨hF.f (ydj2_of s1 rfl), fun j => ⟨hF.a (ydj1_of s2 rfl) j, hF.a (ydj1_of s2 rfl) j, hF.a (ydj1_of s2 rfl) j, hF.a (ydj1_of s2 rfl) j⟩⟩
theorem sT_RI {S0 S : yS} (e : sT S0 S) (h : RI S0) : RI S := by
  refine ⟨fun x i x0 x1 i0 i1 => ?_, fun x x0 x1 x2 => ?_⟩
  · rw [(e.2 _).1, (e.2 _).2.2.2]
    rw [(e.2 _).2.2.1] at i1
    rw [e.1] at x1
    exact h.1 x i x0 x1 i0 i1
  · rw [(e.2 _).1, (e.2 _).2.1]
    rw [(e.2 _).1] at x2
    rw [e.1] at x1
    exact h.2 x x0 x1 x2
theorem sT_FC {S0 S : yS} (e : sT S0 S) (h : FC S0) : FC S := by
  refine ⟨fun x x0 x1 => ?_, fun x i x0 x1 i0 i1 => ?_, fun x x0 => ?_⟩
  · rw [(e.2 _).2.1]
    rw [e.1] at x1
    exact h.1 x x0 x1
  · rw [(e.2 _).2.2.2, e.1]
    rw [(e.2 _).2.2.1] at i1
    rw [e.1] at x1
    exact h.2.1 x i x0 x1 i0 i1
  · rw [(e.2 _).2.2.1]
    rw [e.1] at x0
    exact h.2.2 x x0
/-! the class: order, met -/
def CMt (S : yS) (P acc : List Int) : Prop := rL S 19 (S.f 17 10).toNat = P ++ acc ∧ (∀ x : Int, 0 ≤ x → x ≤ 19 → (bt (S.f 17 8) x ↔ x ∈ acc)) ∧ (∀ x ∈ P, S.a 2 x.toNat = 0) ∧ (∀ x ∈ acc, S.a 2 x.toNat = 1) ∧ (∀ x ∈ P ++ acc, 0 ≤ x ∧ x < S.f 1 7) ∧ (∀ i j : Nat, i < j → (j : Int) < S.f 17 10 → S.a 19 i ≠ S.a 19 j)
theorem CMt_out {S : yS} {P acc : List Int} {f : Int} (h : CMt S P acc) (hb : ¬ bt (S.f 17 8) f) (f0 : 0 ≤ f) (f1 : f ≤ 19) (hi : S.a 2 f.toNat = 1) : ¬ f ∈ P ++ acc := by
  intro hm
  rcases List.mem_append.mp hm with h1 | h1
  · have := h.2.2.1 f h1
    omega
  · exact hb ((h.2.1 f f0 f1).mpr h1)
theorem CMt_row {S : yS} {P acc : List Int} (h : CMt S P acc) : ∀ j : Nat, (j : Int) < S.f 17 10 → S.a 19 j ∈ P ++ acc := by
  intro j hj
  rw [← h.1]
  exact (rL_mem _).mpr ⟨j, by omega, rfl⟩
theorem CMt_room {S : yS} {P acc : List Int} {f : Int} (h : CMt S P acc) (hb : ¬ bt (S.f 17 8) f) (f0 : 0 ≤ f) (f1 : f < S.f 1 7) (n20 : S.f 1 7 ≤ 20) (hi : S.a 2 f.toNat = 1) (o0 : 0 ≤ S.f 17 10) : S.f 17 10 + 1 ≤ S.f 1 7 := by
  have hn := CMt_out h hb f0 (by omega) hi
  have hr := CMt_row h
  have := pigeon (S.f 1 7).toNat ((S.f 17 10).toNat + 1) (fun i => if i < (S.f 17 10).toNat then S.a 19 i else f) (fun i j hij hj => by
      have hi : i < (S.f 17 10).toNat := by omega
      simp only [hi, if_true]
      by_cases hj2 : j < (S.f 17 10).toNat
      · simp only [hj2, if_true]; exact h.2.2.2.2.2 i j hij (by omega)
      · simp only [hj2, if_false]; intro e; exact hn (e ▸ hr i (by omega))) (fun i hi => by
      by_cases hi2 : i < (S.f 17 10).toNat
      · simp only [hi2, if_true]
        have := h.2.2.2.2.1 _ (hr i (by omega))
        omega
      · simp only [hi2, if_false]; omega)
  omega
theorem D19_push {S S1 : yS} {f : Int} (hd : ∀ i j : Nat, i < j → (j : Int) < S.f 17 10 → S.a 19 i ≠ S.a 19 j) (hn : ∀ j : Nat, (j : Int) < S.f 17 10 → S.a 19 j ≠ f) (o0 : 0 ≤ S.f 17 10) (e10 : S1.f 17 10 = S.f 17 10 + 1) (e19 : ∀ j, S1.a 19 j = (ysa S 19 (S.f 17 10).toNat f).a 19 j) : ∀ i j : Nat, i < j → (j : Int) < S1.f 17 10 → S1.a 19 i ≠ S1.a 19 j := by
  intro i j hij hj
  have hq : ∀ i : Nat, i ≠ (S.f 17 10).toNat → S1.a 19 i = S.a 19 i := fun i hi => (e19 i).trans (ysa_ne (Or.inr hi))
  have hl : S1.a 19 (S.f 17 10).toNat = f := (e19 _).trans ysa_eq
  rw [hq i (by omega)]
  by_cases hj2 : j = (S.f 17 10).toNat
  · rw [hj2, hl]; exact hn i (by omega)
  · rw [hq j hj2]; exact hd i j hij (by omega)
theorem CMt_push {S S1 : yS} {P acc : List Int} {f : Int} (h : CMt S P acc) (hb : ¬ bt (S.f 17 8) f) (f0 : 0 ≤ f) (f1 : f < S.f 1 7) (n20 : S.f 1 7 ≤ 20) (hi : S.a 2 f.toNat = 1) (o0 : 0 ≤ S.f 17 10) (e8 : S1.f 17 8 = yor (S.f 17 8) (yshl 1 f)) (e10 : S1.f 17 10 = S.f 17 10 + 1) (e19 : ∀ j, S1.a 19 j = (ysa S 19 (S.f 17 10).toNat f).a 19 j) (e2 : ∀ j, S1.a 2 j = S.a 2 j) (e7 : S1.f 1 7 = S.f 1 7) : CMt S1 P (acc ++ [f]) := by
  have hn := CMt_out h hb f0 (by omega) hi
  have hr := CMt_row h
  refine ⟨?_, ?_, ?_, ?_, ?_, ?_⟩
  · rw [e10, rL_push o0 e19, h.1, List.append_assoc]
  · intro x x0 x1
    have a := bt_or (a := S.f 17 8) (b := yshl 1 f) x0 (by omega : x < 32)
    have b := bt_shl (n := f) f0 (by omega) x0 (by omega : x < 32)
    have c := h.2.1 x x0 x1
    rw [e8]
    constructor
    · intro q
      rcases a.mp q with q1 | q1
      · exact List.mem_append_left _ (c.mp q1)
      · exact List.mem_append_right _ (List.mem_singleton.mpr (b.mp q1))
    · intro q
      rcases List.mem_append.mp q with q1 | q1
      · exact a.mpr (Or.inl (c.mpr q1))
      · exact a.mpr (Or.inr (b.mpr (List.mem_singleton.mp q1)))
  · intro x hx; rw [e2]; exact h.2.2.1 x hx
  · intro x hx
    rw [e2]
    rcases List.mem_append.mp hx with h1 | h1
    · exact h.2.2.2.1 x h1
    · rw [List.mem_singleton.mp h1]; exact hi
  · intro x hx
    rw [← List.append_assoc] at hx
    rw [e7]
    rcases List.mem_append.mp hx with h1 | h1
    · exact h.2.2.2.2.1 x h1
    · rw [List.mem_singleton.mp h1]; exact ⟨f0, f1⟩
  · exact D19_push h.2.2.2.2.2 (fun j hj e => hn (e ▸ hr j hj)) o0 e10 e19
def mtH (S : yS) (f dp : Int) : Prop := RI S ∧ FC S ∧ (0 ≤ f ∧ f < S.f 1 7) ∧ S.a 2 f.toNat = 1 ∧ dp ≤ S.f 17 10 ∧ 0 ≤ S.f 17 10 ∧ S.f 1 7 ≤ 20
/-- what meet does -/
def mtQ (S S1 : yS) (f dp : Int) : Prop := mtH S f dp → ∀ P acc : List Int, CMt S P acc → ∃ acc2, CMt S1 P acc2 ∧ DF (chC S) [f] acc acc2
def mtL (S0 S : yS) (f dp j : Int) : Prop := mtH S0 f dp → ∀ P acc : List Int, CMt S0 P acc → ∃ acc2, CMt S P acc2 ∧ DF (chC S0) (chI S0 8 f j.toNat) (acc ++ [f]) acc2 ∧ ¬ f ∈ acc
theorem mt_in {S : yS} {f dp : Int} (hb : yand (yshr (S.f 17 8) f) 1 ≠ 0) : mtQ S S f dp := by
  intro hh P acc hc
  have n20 := hh.2.2.2.2.2.2
  exact ⟨acc, hc, DF_in ((hc.2.1 f hh.2.2.1.1 (by omega)).mp hb) DF_nil⟩
theorem mt_full {S : yS} {f dp : Int} (hb : yand (yshr (S.f 17 8) f) 1 = 0) (h : 20 ≤ dp ∨ 20 ≤ S.f 17 10) : mtQ S S f dp := by
  intro hh P acc hc
  obtain ⟨-, -, ⟨f0, f1⟩, hi, d1, o0, n20⟩ := hh
  have := CMt_room hc (fun q => q hb) f0 f1 n20 hi o0
  exfalso
  omega
theorem mtL_0 {S S1 : yS} {f dp : Int} (hb : yand (yshr (S.f 17 8) f) 1 = 0) (e8 : S1.f 17 8 = yor (S.f 17 8) (yshl 1 f)) (e10 : S1.f 17 10 = S.f 17 10 + 1) (e19 : ∀ j, S1.a 19 j = (ysa S 19 (S.f 17 10).toNat f).a 19 j) (e2 : ∀ j, S1.a 2 j = S.a 2 j) (e7 : S1.f 1 7 = S.f 1 7) : mtL S S1 f dp 0 := by
  intro hh P acc hc
  obtain ⟨-, -, ⟨f0, f1⟩, hi, d1, o0, n20⟩ := hh
  have hb2 : ¬ bt (S.f 17 8) f := fun q => q hb
  exact ⟨acc ++ [f], CMt_push hc hb2 f0 f1 n20 hi o0 e8 e10 e19 e2 e7, DF_nil, fun q => CMt_out hc hb2 f0 (by omega) hi (List.mem_append_right _ q)⟩
theorem mtL_s {S0 S S1 : yS} {f dp j z : Int} (h : mtL S0 S f dp j) (hT : sT S0 S) (j0 : 0 ≤ j) (j1 : j < S.a 7 f.toNat) (o1 : S0.f 17 10 + 1 ≤ S.f 17 10) (hz : z = S.a 8 (4 * f + j).toNat) (hq : mtQ S S1 z (dp + 1)) : mtL S0 S1 f dp (j + 1) := by
  intro hh P acc hc
  obtain ⟨hr, hf, ⟨f0, f1⟩, hi, d1, o0, n20⟩ := id hh
  obtain ⟨acc2, hc2, hd, hn⟩ := h hh P acc hc
  have e2 : ∀ k, S.a 2 k = S0.a 2 k := fun k => (hT.2 k).1
  have e7 : ∀ k, S.a 7 k = S0.a 7 k := fun k => (hT.2 k).2.2.1
  have e8 : ∀ k, S.a 8 k = S0.a 8 k := fun k => (hT.2 k).2.2.2
  have e1 : S.f 1 7 = S0.f 1 7 := hT.1
  have hr2 : RI S := sT_RI hT hr
  have hf2 : FC S := sT_FC hT hf
  have hz1 : S.a 2 z.toNat = 1 := by rw [hz]; exact hr2.1 f j f0 (by omega) j0 j1
  have hz2 : 0 ≤ z ∧ z < S.f 1 7 := by rw [hz]; exact hf2.2.1 f j f0 (by omega) j0 j1
  obtain ⟨acc3, hc3, hd3⟩ := hq ⟨hr2, hf2, hz2, hz1, by omega, by omega, by omega⟩ P acc2 hc2
  refine ⟨acc3, hc3, ?_, hn⟩
  rw [chC_eq e7 e8] at hd3
  rw [chI_s j0, ← e8, ← hz]
  exact DF_app hd hd3
theorem mt_end {S0 S : yS} {f dp j : Int} (h : mtL S0 S f dp j) (hj : S0.a 7 f.toNat = j) : mtQ S0 S f dp := by
  intro hh P acc hc
  obtain ⟨acc2, hc2, hd, hn⟩ := h hh P acc hc
  refine ⟨acc2, hc2, DF_new hn ?_⟩
  rw [List.append_nil]
  unfold chC
  rw [hj]
  exact hd
/-! meetAll -/
def parC (S : yS) (t : Int) : Int := S.a 5 t.toNat
def parM (S : yS) (t : Int) : Int := S.a 49 t.toNat
def maH (S : yS) : Prop := RI S ∧ FC S ∧ (0 ≤ S.f 17 6 ∧ S.f 17 6 < S.f 1 7) ∧ S.a 2 (S.f 17 6).toNat = 0 ∧ S.a 5 0 < 0 ∧ S.f 1 7 ≤ 20 ∧ (∀ j : Nat, (j : Int) < S.f 17 7 → 0 ≤ S.a 18 j ∧ S.a 18 j < S.f 1 7 ∧ S.a 2 (S.a 18 j).toNat = 1)
def chP (S : yS) : List Int := chn (parC S) 20 (S.f 17 6)
def maQ (S S1 : yS) : Prop := maH S → ∃ acc, rL S1 19 (S1.f 17 10).toNat = chP S ++ acc ∧ DF (chC S) (flt (chC S) (chP S) ++ rL S 18 (S.f 17 7).toNat) [] acc
def mC0 (S0 S : yS) (t : Int) : Prop := maH S0 → CMt S (rL S 19 (S.f 17 10).toNat) [] ∧ rL S 19 (S.f 17 10).toNat ++ chn (parC S0) (20 - S.f 17 10).toNat t = chP S0 ∧ (0 ≤ t → t < S0.f 1 7 ∧ S0.a 2 t.toNat = 0 ∧ ∀ x ∈ rL S 19 (S.f 17 10).toNat, t < x)
theorem bt_z {x : Int} (h0 : 0 ≤ x) (h1 : x < 32) : ¬ bt 0 x := by
  rw [bt_iff h0 h1]
  have e : enc 0 = 0 := rfl
  rw [e, Nat.zero_testBit]
  exact Bool.false_ne_true
theorem mC0_0 {S0 S : yS} {t : Int} (ht : t = S0.f 17 6) (e8 : S.f 17 8 = 0) (e10 : S.f 17 10 = 0) : mC0 S0 S t := by
  intro hh
  have e : rL S 19 (S.f 17 10).toNat = [] := by rw [e10]; rfl
  refine ⟨⟨by rw [List.append_nil], fun x x0 x1 => ?_, ?_, ?_, ?_, ?_⟩, ?_, ?_⟩
  · rw [e8]; exact ⟨fun q => absurd q (bt_z x0 (by omega)), fun q => absurd q List.not_mem_nil⟩
  · rw [e]; intro x hx; exact absurd hx List.not_mem_nil
  · intro x hx; exact absurd hx List.not_mem_nil
  · rw [e]; intro x hx; exact absurd hx List.not_mem_nil
  · intro i j _ hj; exact absurd hj (by omega)
  · rw [e, e10, ht]; rfl
  · intro _
    rw [ht, e]
    exact ⟨hh.2.2.1.2, hh.2.2.2.1, fun x hx => absurd hx List.not_mem_nil⟩
theorem mC0_s {S0 S S1 : yS} {t t2 : Int} (h : mC0 S0 S t) (e2' : ∀ j, S.a 2 j = S0.a 2 j) (e7' : S.f 1 7 = S0.f 1 7) (t0 : 0 ≤ t) (o0 : 0 ≤ S.f 17 10) (o1 : S.f 17 10 < 20) (ht : t2 = S0.a 5 t.toNat) (e8 : S1.f 17 8 = S.f 17 8) (e10 : S1.f 17 10 = S.f 17 10 + 1) (e19 : ∀ j, S1.a 19 j = (ysa S 19 (S.f 17 10).toNat t).a 19 j) (e2 : ∀ j, S1.a 2 j = S.a 2 j) (e7 : S1.f 1 7 = S.f 1 7) : mC0 S0 S1 t2 := by
  intro hh
  obtain ⟨hc, he, hx⟩ := h hh
  obtain ⟨x1, x2, x3⟩ := hx t0
  have eL : rL S1 19 (S1.f 17 10).toNat = rL S 19 (S.f 17 10).toNat ++ [t] := by rw [e10]; exact rL_push o0 e19
  have hr := CMt_row hc
  rw [List.append_nil] at hr
  refine ⟨⟨by rw [List.append_nil], fun x x0 x1 => ?_, ?_, ?_, ?_, ?_⟩, ?_, ?_⟩
  · rw [e8]; exact hc.2.1 x x0 x1
  · rw [eL]
    intro x hm
    rw [e2]
    rcases List.mem_append.mp hm with h1 | h1
    · exact hc.2.2.1 x h1
    · rw [List.mem_singleton.mp h1, e2']; exact x2
  · intro x hm; exact absurd hm List.not_mem_nil
  · rw [eL, List.append_nil]
    intro x hm
    rw [e7]
    rcases List.mem_append.mp hm with h1 | h1
    · exact hc.2.2.2.2.1 x (List.mem_append_left _ h1)
    · rw [List.mem_singleton.mp h1, e7']; exact ⟨t0, x1⟩
  · exact D19_push hc.2.2.2.2.2 (fun j hj e => by have := x3 _ (hr j hj); omega) o0 e10 e19
  · rw [eL, e10, List.append_assoc]
    have e : (20 - S.f 17 10).toNat = (20 - (S.f 17 10 + 1)).toNat + 1 := by omega
    rw [e, chn_pos t0] at he
    have e3 : parC S0 t = t2 := ht.symm
    rw [e3] at he
    exact he
  · intro q0
    rcases Int.lt_or_le 0 t with p0 | p0
    · have f5 := hh.2.1.1 t (by omega) x1
      rw [ht]
      refine ⟨by omega, hh.1.2 t (by omega) x1 x2, ?_⟩
      rw [eL]
      intro x hm
      rcases List.mem_append.mp hm with h1 | h1
      · have := x3 x h1; omega
      · rw [List.mem_singleton.mp h1]; exact f5.2
    · have : t = 0 := by omega
      have h5 := hh.2.2.2.2.1
      rw [ht, this] at q0
      have q1 : S0.a 5 (0 : Int).toNat = S0.a 5 0 := rfl
      omega
def mC1 (S0 S : yS) (cl k : Int) : Prop := maH S0 → ∃ acc, CMt S (chP S0) acc ∧ cl = ((chP S0).length : Int) ∧ DF (chC S0) (flt (chC S0) (rL S 19 k.toNat)) [] acc
def mC2 (S0 S : yS) (cl k j : Int) : Prop := maH S0 → ∃ acc, CMt S (chP S0) acc ∧ cl = ((chP S0).length : Int) ∧ DF (chC S0) (flt (chC S0) (rL S 19 k.toNat) ++ chI S0 8 (S.a 19 k.toNat) j.toNat) [] acc
def mC3 (S0 S : yS) (j : Int) : Prop := maH S0 → ∃ acc, CMt S (chP S0) acc ∧ DF (chC S0) (flt (chC S0) (chP S0) ++ rL S0 18 j.toNat) [] acc
theorem mC1_0 {S0 S : yS} {t : Int} (h : mC0 S0 S t) (ht : t < 0 ∨ 20 ≤ S.f 17 10) (o0 : 0 ≤ S.f 17 10) : mC1 S0 S (S.f 17 10) 0 := by
  intro hh
  obtain ⟨hc, he, -⟩ := h hh
  have e : chn (parC S0) (20 - S.f 17 10).toNat t = [] := by
    rcases ht with q | q
    · exact chn_neg q
    · have : (20 - S.f 17 10).toNat = 0 := by omega
      rw [this]; rfl
  rw [e, List.append_nil] at he
  rw [he] at hc
  refine ⟨[], hc, ?_, DF_nil⟩
  rw [← he, rL_len]
  omega
theorem mC2_0 {S0 S : yS} {cl k : Int} (h : mC1 S0 S cl k) : mC2 S0 S cl k 0 := by
  intro hh
  obtain ⟨acc, hc, hl, hd⟩ := h hh
  refine ⟨acc, hc, hl, ?_⟩
  show DF (chC S0) (flt (chC S0) (rL S 19 k.toNat) ++ []) [] acc
  rw [List.append_nil]
  exact hd
theorem CMt_cl {S : yS} {P acc : List Int} (h : CMt S P acc) (o0 : 0 ≤ S.f 17 10) : (P.length : Int) ≤ S.f 17 10 := by
  have := congrArg List.length h.1
  rw [rL_len, List.length_append] at this
  omega
/-- a type met from the state S, in the frame of S0 -/
theorem mC_meet {S0 S S1 : yS} {P acc : List Int} {z : Int} (hh : maH S0) (hT : sT S0 S) (hc : CMt S P acc) (o0 : 0 ≤ S.f 17 10) (hz : 0 ≤ z ∧ z < S0.f 1 7) (hi : S0.a 2 z.toNat = 1) (hq : mtQ S S1 z 0) : ∃ acc2, CMt S1 P acc2 ∧ DF (chC S0) [z] acc acc2 := by
  obtain ⟨hr, hf, -, -, -, n20, -⟩ := id hh
  have e2 : ∀ k, S.a 2 k = S0.a 2 k := fun k => (hT.2 k).1
  have e7 : ∀ k, S.a 7 k = S0.a 7 k := fun k => (hT.2 k).2.2.1
  have e8 : ∀ k, S.a 8 k = S0.a 8 k := fun k => (hT.2 k).2.2.2
  have e1 : S.f 1 7 = S0.f 1 7 := hT.1
  have hr2 : RI S := sT_RI hT hr
  have hf2 : FC S := sT_FC hT hf
  have h9 := hq ⟨hr2, hf2, ⟨hz.1, by omega⟩, by rw [e2]; exact hi, by omega, o0, by omega⟩ P acc hc
  rw [chC_eq e7 e8] at h9
  exact h9
theorem mC2_s {S0 S S1 : yS} {cl k j z : Int} (h : mC2 S0 S cl k j) (hT : sT S0 S) (o0 : 0 ≤ S.f 17 10) (k0 : 0 ≤ k) (k1 : k < cl) (j0 : 0 ≤ j) (j1 : j < S.a 7 (S.a 19 k.toNat).toNat) (hz : z = S.a 8 (4 * S.a 19 k.toNat + j).toNat) (hk : ∀ i : Nat, (i : Int) < S.f 17 10 → S1.a 19 i = S.a 19 i) (hq : mtQ S S1 z 0) : mC2 S0 S1 cl k (j + 1) := by
  intro hh
  obtain ⟨acc, hc, hl, hd⟩ := h hh
  have e7 : ∀ k, S.a 7 k = S0.a 7 k := fun k => (hT.2 k).2.2.1
  have e8 : ∀ k, S.a 8 k = S0.a 8 k := fun k => (hT.2 k).2.2.2
  have e1 : S.f 1 7 = S0.f 1 7 := hT.1
  have hcl := CMt_cl hc o0
  have hx := hc.2.2.2.2.1 _ (CMt_row hc k.toNat (by omega))
  have hz8 : z = S0.a 8 (4 * S.a 19 k.toNat + j).toNat := by rw [hz, e8]
  have g1 := hh.1.1 (S.a 19 k.toNat) j hx.1 (by omega) j0 (by rw [← e7]; exact j1)
  have g2 := hh.2.1.2.1 (S.a 19 k.toNat) j hx.1 (by omega) j0 (by rw [← e7]; exact j1)
  rw [← hz8] at g1 g2
  obtain ⟨acc2, hc2, hd2⟩ := mC_meet hh hT hc o0 g2 g1 hq
  refine ⟨acc2, hc2, hl, ?_⟩
  rw [rL_eq (S := S) (b := 19) k.toNat (fun i hi => hk i (by omega)), hk k.toNat (by omega), chI_s j0, ← hz8, ← List.append_assoc]
  exact DF_app hd hd2
theorem mC1_s {S0 S : yS} {cl k j : Int} (h : mC2 S0 S cl k j) (k0 : 0 ≤ k) (e7 : ∀ k, S.a 7 k = S0.a 7 k) (hj : S.a 7 (S.a 19 k.toNat).toNat = j) : mC1 S0 S cl (k + 1) := by
  intro hh
  obtain ⟨acc, hc, hl, hd⟩ := h hh
  refine ⟨acc, hc, hl, ?_⟩
  rw [rL_s k0, flt_snoc]
  unfold chC at hd ⊢
  rw [← e7, hj]
  exact hd
theorem mC3_0 {S0 S : yS} {cl k : Int} (h : mC1 S0 S cl k) (k0 : 0 ≤ k) (hk : k = cl) : mC3 S0 S 0 := by
  intro hh
  obtain ⟨acc, hc, hl, hd⟩ := h hh
  refine ⟨acc, hc, ?_⟩
  show DF (chC S0) (flt (chC S0) (chP S0) ++ []) [] acc
  have e : k.toNat = (chP S0).length := by omega
  rw [e, rL_pre hc.1] at hd
  rw [List.append_nil]
  exact hd
theorem mC3_s {S0 S S1 : yS} {j z : Int} (h : mC3 S0 S j) (hT : sT S0 S) (e18 : ∀ k, S.a 18 k = S0.a 18 k) (e77 : S.f 17 7 = S0.f 17 7) (o0 : 0 ≤ S.f 17 10) (j0 : 0 ≤ j) (j1 : j < S.f 17 7) (hz : z = S.a 18 j.toNat) (hq : mtQ S S1 z 0) : mC3 S0 S1 (j + 1) := by
  intro hh
  obtain ⟨acc, hc, hd⟩ := h hh
  obtain ⟨g1, g2, g3⟩ := hh.2.2.2.2.2.2 j.toNat (by omega)
  have hz8 : z = S0.a 18 j.toNat := by rw [hz, e18]
  rw [← hz8] at g1 g2 g3
  obtain ⟨acc2, hc2, hd2⟩ := mC_meet hh hT hc o0 ⟨g1, g2⟩ g3 hq
  refine ⟨acc2, hc2, ?_⟩
  rw [rL_s j0, ← hz8, ← List.append_assoc]
  exact DF_app hd hd2
theorem ma_end {S0 S S1 : yS} {j : Int} (h : mC3 S0 S j) (hj : j = S0.f 17 7) (e10 : S1.f 17 10 = S.f 17 10) (e19 : ∀ j, S1.a 19 j = S.a 19 j) : maQ S0 S1 := by
  intro hh
  obtain ⟨acc, hc, hd⟩ := h hh
  refine ⟨acc, ?_, ?_⟩
  · rw [e10, rL_eq (S := S) (b := 19) _ (fun j _ => e19 j)]; exact hc.1
  · rw [← hj]; exact hd
/-! collectAll -/
def inhC (S : yS) (m : Int) : Prop := S.a 11 m.toNat ≠ 10 ∧ yand (S.a 12 m.toNat) 12 = 0 ∧ (yand (S.a 12 m.toNat) 7 ≠ 0 ∨ S.a 4 (S.a 10 m.toNat).toNat = S.a 4 (S.f 17 6).toNat)
def samC (S : yS) (x m : Int) : Prop := S.a 11 x.toNat = S.a 11 m.toNat ∧ S.a 13 x.toNat = S.a 13 m.toNat ∧ S.a 14 x.toNat = S.a 14 m.toNat
def nsS (S : yS) (k m : Int) : Prop := ∀ j : Nat, (j : Int) < k → ¬ samC S (S.a 20 j) m
theorem nsS_0 {S : yS} {m : Int} : nsS S 0 m := fun j hj => absurd hj (by omega)
theorem nsS_s {S : yS} {k m : Int} (h : nsS S k m) (h0 : 0 ≤ k) (hn : S.a 11 (S.a 20 k.toNat).toNat ≠ S.a 11 m.toNat ∨ S.a 13 (S.a 20 k.toNat).toNat ≠ S.a 13 m.toNat ∨ S.a 14 (S.a 20 k.toNat).toNat ≠ S.a 14 m.toNat) : nsS S (k + 1) m := by
  intro j hj
  by_cases e : j = k.toNat
  · rw [e]; intro q; unfold samC at q; omega
  · exact h j (by omega)
def isS (S : yS) (k m : Int) : Prop := ∃ j : Nat, (j : Int) < k ∧ samC S (S.a 20 j) m
theorem isS_of {S : yS} {k n m : Int} (h0 : 0 ≤ k) (h1 : k < n) (e1 : S.a 11 (S.a 20 k.toNat).toNat = S.a 11 m.toNat) (e2 : S.a 13 (S.a 20 k.toNat).toNat = S.a 13 m.toNat) (e3 : S.a 14 (S.a 20 k.toNat).toNat = S.a 14 m.toNat) : isS S n m := ⟨k.toNat, by omega, e1, e2, e3⟩
def okC (S : yS) (c t : Int) (m : Nat) : Bool := decide (S.a 10 m = t ∧ S.a 11 m ≠ 10 ∧ yand (S.a 12 m) 12 = 0 ∧ (yand (S.a 12 m) 7 ≠ 0 ∨ S.a 4 t.toNat = S.a 4 c.toNat))
def smC (S : yS) (x : Int) (m : Nat) : Bool := decide (S.a 11 x.toNat = S.a 11 m ∧ S.a 13 x.toNat = S.a 13 m ∧ S.a 14 x.toNat = S.a 14 m)
def nfC (S : yS) (x : Int) : Bool := decide (yand (S.a 12 x.toNat) 16 = 0)
def cnt (S : yS) : List Int := rL S 20 (S.f 17 11).toNat
def fnd (S : yS) : List Int := rL S 21 (S.f 17 12).toNat
def ctQ (S S1 : yS) (m : Int) : Prop := cnt S1 = cnt S ++ [m] ∧ (yand (S.a 12 m.toNat) 16 = 0 → fnd S1 = fnd S ++ [m]) ∧ (yand (S.a 12 m.toNat) 16 ≠ 0 → fnd S1 = fnd S)
theorem ct_y {S S1 : yS} {m : Int} (o0 : 0 ≤ S.f 17 11) (f0 : 0 ≤ S.f 17 12) (hy : yand (S.a 12 m.toNat) 16 = 0) (e11 : S1.f 17 11 = S.f 17 11 + 1) (e20 : ∀ j, S1.a 20 j = (ysa S 20 (S.f 17 11).toNat m).a 20 j) (e12 : S1.f 17 12 = S.f 17 12 + 1) (e21 : ∀ j, S1.a 21 j = (ysa S 21 (S.f 17 12).toNat m).a 21 j) : ctQ S S1 m := by
  refine ⟨?_, fun _ => ?_, fun q => absurd hy q⟩
  · unfold cnt; rw [e11]; exact rL_push o0 e20
  · unfold fnd; rw [e12]; exact rL_push f0 e21
theorem ct_n {S S1 : yS} {m : Int} (o0 : 0 ≤ S.f 17 11) (hy : yand (S.a 12 m.toNat) 16 ≠ 0) (e11 : S1.f 17 11 = S.f 17 11 + 1) (e20 : ∀ j, S1.a 20 j = (ysa S 20 (S.f 17 11).toNat m).a 20 j) (e12 : S1.f 17 12 = S.f 17 12) (e21 : ∀ j, S1.a 21 j = S.a 21 j) : ctQ S S1 m := by
  refine ⟨?_, fun q => absurd q hy, fun _ => ?_⟩
  · unfold cnt; rw [e11]; exact rL_push o0 e20
  · unfold fnd; rw [e12]; exact rL_eq _ (fun j _ => e21 j)
def caL (S0 : yS) (l : List Int) : List Int := cAll (okC S0 (S0.f 17 6)) (smC S0) (S0.f 9 8).toNat l []
def cA1 (S0 S : yS) (k : Int) : Prop := cnt S = caL S0 (rL S0 19 k.toNat) ∧ fnd S = (cnt S).filter (nfC S0)
def cA2 (S0 S : yS) (k m : Int) : Prop := cnt S = cM (okC S0 (S0.f 17 6) (S0.a 19 k.toNat)) (smC S0) (caL S0 (rL S0 19 k.toNat)) m.toNat ∧ fnd S = (cnt S).filter (nfC S0)
def caQ (S S1 : yS) : Prop := cnt S1 = caL S (rL S 19 (S.f 17 10).toNat) ∧ fnd S1 = (cnt S1).filter (nfC S)
theorem cA1_0 {S0 S : yS} (e11 : S.f 17 11 = 0) (e12 : S.f 17 12 = 0) : cA1 S0 S 0 := by
  have a : cnt S = [] := by unfold cnt; rw [e11]; rfl
  have b : fnd S = [] := by unfold fnd; rw [e12]; rfl
  exact ⟨a, by rw [a, b]; rfl⟩
theorem cA2_0 {S0 S : yS} {k : Int} (h : cA1 S0 S k) : cA2 S0 S k 0 := h
theorem cA1_s {S0 S : yS} {k m : Int} (h : cA2 S0 S k m) (k0 : 0 ≤ k) (hm : m = S0.f 9 8) : cA1 S0 S (k + 1) := by
  refine ⟨?_, h.2⟩
  rw [h.1, hm, rL_s k0]
  unfold caL
  rw [cAll_snoc]
theorem ca_end {S0 S : yS} {k : Int} (h : cA1 S0 S k) (hk : k = S0.f 17 10) : caQ S0 S := by
  unfold caQ
  rw [← hk]
  exact h
def sMm (S0 S : yS) : Prop := S.f 9 8 = S0.f 9 8 ∧ S.f 17 6 = S0.f 17 6 ∧ ∀ j, S.a 4 j = S0.a 4 j ∧ S.a 10 j = S0.a 10 j ∧ S.a 11 j = S0.a 11 j ∧ S.a 12 j = S0.a 12 j ∧ S.a 13 j = S0.a 13 j ∧ S.a 14 j = S0.a 14 j ∧ S.a 19 j = S0.a 19 j
theorem sMm_fr {S0 S : yS} {MF : List (Nat × Nat)} {MA : List Nat} (hF : yFr MF MA S0 S) (s1 : ydj2 [(9, 8), (17, 6)] MF = true) (s2 : ydj1 [4, 10, 11, 12, 13, 14, 19] MA = true) : sMm S0 S :=
  ⟨hF.f (ydj2_of s1 rfl), hF.f (ydj2_of s1 rfl), fun j => ⟨hF.a (ydj1_of s2 rfl) j, hF.a (ydj1_of s2 rfl) j, hF.a (ydj1_of s2 rfl) j, hF.a (ydj1_of s2 rfl) j, hF.a (ydj1_of s2 rfl) j, hF.a (ydj1_of s2 rfl) j, hF.a (ydj1_of s2 rfl) j⟩⟩
theorem cA2_n1 {S0 S : yS} {k m : Int} (h : cA2 S0 S k m) (e : sMm S0 S) (m0 : 0 ≤ m) (hn : S.a 10 m.toNat ≠ S.a 19 k.toNat ∨ ¬ inhC S m) : cA2 S0 S k (m + 1) := by
  refine ⟨?_, h.2⟩
  rw [h.1, cM_n1 m0]
  unfold okC
  rw [decide_eq_false_iff_not]
  intro q
  obtain ⟨q1, q2, q3, q4⟩ := q
  unfold inhC at hn
  rw [(e.2.2 _).2.1, (e.2.2 _).2.2.2.2.2.2, (e.2.2 _).2.2.1, (e.2.2 _).2.2.2.1, (e.2.2 _).1, (e.2.2 _).1, e.2.1] at hn
  rcases hn with hn | hn
  · exact hn q1
  · refine hn ⟨q2, q3, ?_⟩
    rcases q4 with q4 | q4
    · exact Or.inl q4
    · exact Or.inr (by rw [q1]; exact q4)
theorem cA2_n2 {S0 S : yS} {k m : Int} (h : cA2 S0 S k m) (e : sMm S0 S) (m0 : 0 ≤ m) (hs : isS S (S.f 17 11) m) : cA2 S0 S k (m + 1) := by
  refine ⟨?_, h.2⟩
  obtain ⟨j, hj, s1, s2, s3⟩ := hs
  rw [h.1]
  refine (cM_n2 (x := S.a 20 j) m0 ?_ ?_).symm
  · rw [← h.1]; exact (rL_mem _).mpr ⟨j, by omega, rfl⟩
  · unfold smC
    rw [(e.2.2 _).2.2.1, (e.2.2 _).2.2.1] at s1
    rw [(e.2.2 _).2.2.2.2.1, (e.2.2 _).2.2.2.2.1] at s2
    rw [(e.2.2 _).2.2.2.2.2.1, (e.2.2 _).2.2.2.2.2.1] at s3
    exact decide_eq_true ⟨s1, s2, s3⟩
theorem cA2_y {S0 S S1 : yS} {k m : Int} (h : cA2 S0 S k m) (e : sMm S0 S) (m0 : 0 ≤ m) (h1 : S.a 10 m.toNat = S.a 19 k.toNat) (h2 : inhC S m) (h3 : nsS S (S.f 17 11) m) (hc : ctQ S S1 m) : cA2 S0 S1 k (m + 1) := by
  obtain ⟨c1, c2, c3⟩ := hc
  have e12 := (e.2.2 m.toNat).2.2.2.1
  refine ⟨?_, ?_⟩
  · rw [c1, h.1]
    refine (cM_y m0 ?_ ?_).symm
    · unfold okC
      obtain ⟨q2, q3, q4⟩ := h2
      rw [(e.2.2 _).2.1, (e.2.2 _).2.2.2.2.2.2] at h1
      rw [(e.2.2 _).2.2.1] at q2
      rw [e12] at q3 q4
      rw [(e.2.2 _).1, (e.2.2 _).1, e.2.1, (e.2.2 _).2.1, h1] at q4
      exact decide_eq_true ⟨h1, q2, q3, q4⟩
    · intro x hx
      rw [← h.1] at hx
      obtain ⟨j, hj, rfl⟩ := (rL_mem _).mp hx
      unfold smC
      rw [decide_eq_false_iff_not]
      intro q
      refine h3 j (by omega) ?_
      unfold samC
      rw [(e.2.2 _).2.2.1, (e.2.2 _).2.2.1, (e.2.2 _).2.2.2.2.1, (e.2.2 _).2.2.2.2.1, (e.2.2 _).2.2.2.2.2.1, (e.2.2 _).2.2.2.2.2.1]
      exact q
  · rw [c1, List.filter_append]
    by_cases hf : yand (S.a 12 m.toNat) 16 = 0
    · have : nfC S0 m = true := decide_eq_true (by rw [← e12]; exact hf)
      rw [c2 hf, h.2, List.filter_cons_of_pos this]
      rfl
    · have : ¬ nfC S0 m = true := by unfold nfC; rw [decide_eq_true_iff, ← e12]; exact hf
      rw [c3 hf, h.2, List.filter_cons_of_neg this]
      exact (List.append_nil _).symm
/-! clash -/
def clC (S : yS) (m o : Int) : Prop := S.a 11 m.toNat = S.a 11 o.toNat ∧ S.a 13 m.toNat = S.a 13 o.toNat ∧ (((S.a 14 m.toNat < 4 ∨ S.a 14 o.toNat < 4) ∧ S.a 14 m.toNat ≠ S.a 14 o.toNat) ∨ ((4 ≤ S.a 14 m.toNat ∧ 4 ≤ S.a 14 o.toNat) ∧ ¬ bt (S.a 6 (S.a 14 m.toNat - 4).toNat) (S.a 14 o.toNat - 4) ∧ ¬ bt (S.a 6 (S.a 14 o.toNat - 4).toNat) (S.a 14 m.toNat - 4)))
theorem cl_n1 {S : yS} {m o : Int} (h : S.a 11 m.toNat ≠ S.a 11 o.toNat ∨ S.a 13 m.toNat ≠ S.a 13 o.toNat) : ¬ clC S m o := by
  intro q
  have q1 := q.1
  have q2 := q.2.1
  omega
theorem cl_y1 {S : yS} {m o : Int} (h1 : S.a 11 m.toNat = S.a 11 o.toNat) (h2 : S.a 13 m.toNat = S.a 13 o.toNat) (h3 : S.a 14 m.toNat < 4 ∨ S.a 14 o.toNat < 4) (h4 : S.a 14 m.toNat ≠ S.a 14 o.toNat) : clC S m o := ⟨h1, h2, Or.inl ⟨h3, h4⟩⟩
theorem cl_n2 {S : yS} {m o : Int} (h3 : S.a 14 m.toNat < 4 ∨ S.a 14 o.toNat < 4) (h4 : S.a 14 m.toNat = S.a 14 o.toNat) : ¬ clC S m o := by
  intro q
  rcases q.2.2 with q | q
  · exact q.2 h4
  · have := q.1; omega
theorem cl_n3 {S : yS} {m o : Int} (h3 : 4 ≤ S.a 14 m.toNat) (h4 : 4 ≤ S.a 14 o.toNat) (h : bt (S.a 6 (S.a 14 m.toNat - 4).toNat) (S.a 14 o.toNat - 4) ∨ bt (S.a 6 (S.a 14 o.toNat - 4).toNat) (S.a 14 m.toNat - 4)) : ¬ clC S m o := by
  intro q
  rcases q.2.2 with q | q
  · have := q.1; omega
  · exact h.elim q.2.1 q.2.2
theorem cl_y2 {S : yS} {m o : Int} (h1 : S.a 11 m.toNat = S.a 11 o.toNat) (h2 : S.a 13 m.toNat = S.a 13 o.toNat) (h3 : 4 ≤ S.a 14 m.toNat) (h4 : 4 ≤ S.a 14 o.toNat) (a : ¬ bt (S.a 6 (S.a 14 m.toNat - 4).toNat) (S.a 14 o.toNat - 4)) (b : ¬ bt (S.a 6 (S.a 14 o.toNat - 4).toNat) (S.a 14 m.toNat - 4)) : clC S m o := ⟨h1, h2, Or.inr ⟨⟨h3, h4⟩, a, b⟩⟩
def hcN (S : yS) (k : Int) : Prop := ∀ i j : Nat, j < i → (i : Int) < k → ¬ clC S (S.a 21 i) (S.a 21 j)
def hcJ (S : yS) (k j : Int) : Prop := ∀ i : Nat, (i : Int) < j → ¬ clC S (S.a 21 k.toNat) (S.a 21 i)
def hcY (S : yS) : Prop := ∃ i j : Nat, j < i ∧ (i : Int) < S.f 17 12 ∧ clC S (S.a 21 i) (S.a 21 j)
theorem hcN_0 {S : yS} : hcN S 0 := fun i j _ h => absurd h (by omega)
theorem hcJ_0 {S : yS} {k : Int} : hcJ S k 0 := fun i h => absurd h (by omega)
theorem hcJ_s {S : yS} {k j : Int} (h : hcJ S k j) (j0 : 0 ≤ j) (hn : ¬ clC S (S.a 21 k.toNat) (S.a 21 j.toNat)) : hcJ S k (j + 1) := by
  intro i hi
  by_cases e : i = j.toNat
  · rw [e]; exact hn
  · exact h i (by omega)
theorem hcN_s {S : yS} {k j : Int} (h : hcN S k) (k0 : 0 ≤ k) (hj : hcJ S k j) (e : k ≤ j) : hcN S (k + 1) := by
  intro i l hl hi
  by_cases q : i = k.toNat
  · rw [q]; exact hj l (by omega)
  · exact h i l hl (by omega)
theorem hcY_of {S : yS} {k j : Int} (j0 : 0 ≤ j) (k0 : j < k) (k1 : k < S.f 17 12) (h : clC S (S.a 21 k.toNat) (S.a 21 j.toNat)) : hcY S := ⟨k.toNat, j.toNat, by omega, by omega, h⟩
/-! refusal -/
def opC (S : yS) (m t : Int) : Prop := S.a 10 m.toNat = t ∧ S.a 11 m.toNat = 10 ∧ yand (S.a 12 m.toNat) 4 = 0
def ocY (S : yS) (t : Int) : Prop := ∃ m : Int, 0 ≤ m ∧ m < S.f 9 8 ∧ opC S m t
def ocN (S : yS) (k t : Int) : Prop := ∀ m : Int, 0 ≤ m → m < k → ¬ opC S m t
theorem ocN_0 {S : yS} {t : Int} : ocN S 0 t := fun m h0 h1 => absurd h0 (by omega)
theorem ocN_s {S : yS} {k t : Int} (h : ocN S k t) (hn : ¬ opC S k t) : ocN S (k + 1) t := by
  intro m m0 m1
  by_cases e : m = k
  · rw [e]; exact hn
  · exact h m m0 (by omega)
def diC (S : yS) (k : Int) : Prop := ∀ i : Nat, (i : Int) < k → S.a 2 (S.a 18 i).toNat ≠ 0 ∧ ∀ j : Nat, j < i → S.a 18 i ≠ S.a 18 j
def diJ (S : yS) (k j : Int) : Prop := S.a 2 (S.a 18 k.toNat).toNat ≠ 0 ∧ ∀ i : Nat, (i : Int) < j → S.a 18 k.toNat ≠ S.a 18 i
theorem diC_0 {S : yS} : diC S 0 := fun i h => absurd h (by omega)
theorem diC_s {S : yS} {k j : Int} (h : diC S k) (k0 : 0 ≤ k) (hj : diJ S k j) (e : k ≤ j) : diC S (k + 1) := by
  intro i hi
  by_cases q : i = k.toNat
  · rw [q]; exact ⟨hj.1, fun l hl => hj.2 l (by omega)⟩
  · exact h i (by omega)
theorem diJ_0 {S : yS} {k : Int} (h : S.a 2 (S.a 18 k.toNat).toNat ≠ 0) : diJ S k 0 := ⟨h, fun i q => absurd q (by omega)⟩
theorem diJ_s {S : yS} {k j : Int} (h : diJ S k j) (j0 : 0 ≤ j) (hn : S.a 18 k.toNat ≠ S.a 18 j.toNat) : diJ S k (j + 1) := by
  refine ⟨h.1, fun i hi => ?_⟩
  by_cases q : i = j.toNat
  · rw [q]; exact hn
  · exact h.2 i (by omega)
theorem diN_1 {S : yS} {k n : Int} (k0 : 0 ≤ k) (k1 : k < n) (h : S.a 2 (S.a 18 k.toNat).toNat = 0) : ¬ diC S n := fun q => (q k.toNat (by omega)).1 h
theorem diN_2 {S : yS} {k j n : Int} (k1 : k < n) (j0 : 0 ≤ j) (j1 : j < k) (h : S.a 18 k.toNat = S.a 18 j.toNat) : ¬ diC S n := fun q => (q k.toNat (by omega)).2 j.toNat (by omega) h
def viC (S : yS) (k : Int) : Prop := ∀ i : Nat, (i : Int) < k → yand (S.a 3 (S.a 18 i).toNat) 1 ≠ 0 ∨ S.a 4 (S.a 18 i).toNat = S.a 4 (S.f 17 6).toNat
theorem viC_0 {S : yS} : viC S 0 := fun i h => absurd h (by omega)
theorem viC_s {S : yS} {k : Int} (h : viC S k) (k0 : 0 ≤ k) (hj : yand (S.a 3 (S.a 18 k.toNat).toNat) 1 ≠ 0 ∨ S.a 4 (S.a 18 k.toNat).toNat = S.a 4 (S.f 17 6).toNat) : viC S (k + 1) := by
  intro i hi
  by_cases q : i = k.toNat
  · rw [q]; exact hj
  · exact h i (by omega)
theorem viN {S : yS} {k n : Int} (k0 : 0 ≤ k) (k1 : k < n) (h1 : yand (S.a 3 (S.a 18 k.toNat).toNat) 1 = 0) (h2 : S.a 4 (S.a 18 k.toNat).toNat ≠ S.a 4 (S.f 17 6).toNat) : ¬ viC S n := fun q => (q k.toNat (by omega)).elim (fun e => e h1) h2
def r1C (S : yS) : Prop := S.a 2 (S.f 17 6).toNat ≠ 0 ∨ yand (S.a 3 (S.f 17 6).toNat) 2 ≠ 0
def paC (S : yS) : Prop := ¬ r1C S ∧ ocY S (S.f 17 6) ∧ diC S (S.f 17 7) ∧ viC S (S.f 17 7)
def sMn (S0 S : yS) : Prop := S.f 1 7 = S0.f 1 7 ∧ S.f 9 8 = S0.f 9 8 ∧ S.f 17 6 = S0.f 17 6 ∧ S.f 17 7 = S0.f 17 7 ∧ (∀ j, S.a 4 j = S0.a 4 j) ∧ (∀ j, S.a 6 j = S0.a 6 j) ∧ (∀ j, S.a 10 j = S0.a 10 j) ∧ (∀ j, S.a 11 j = S0.a 11 j) ∧ (∀ j, S.a 12 j = S0.a 12 j) ∧ (∀ j, S.a 13 j = S0.a 13 j) ∧ (∀ j, S.a 14 j = S0.a 14 j)
theorem sMn_fr {S0 S : yS} {MF : List (Nat × Nat)} {MA : List Nat} (hF : yFr MF MA S0 S) (s1 : ydj2 [(1, 7), (9, 8), (17, 6), (17, 7)] MF = true) (s2 : ydj1 [4, 6, 10, 11, 12, 13, 14] MA = true) : sMn S0 S :=
  ⟨hF.f (ydj2_of s1 rfl), hF.f (ydj2_of s1 rfl), hF.f (ydj2_of s1 rfl), hF.f (ydj2_of s1 rfl), hF.a (ydj1_of s2 rfl), hF.a (ydj1_of s2 rfl), hF.a (ydj1_of s2 rfl), hF.a (ydj1_of s2 rfl), hF.a (ydj1_of s2 rfl), hF.a (ydj1_of s2 rfl), hF.a (ydj1_of s2 rfl)⟩
def rfQ (S S1 : yS) (z : Int) : Prop := (z = 1 ∧ r1C S) ∨ (z = 2 ∧ ¬ r1C S ∧ ocN S (S.f 9 8) (S.f 17 6)) ∨ (z = 3 ∧ ¬ r1C S ∧ ocY S (S.f 17 6) ∧ ¬ diC S (S.f 17 7)) ∨ (z = 4 ∧ ¬ r1C S ∧ ocY S (S.f 17 6) ∧ diC S (S.f 17 7) ∧ ¬ viC S (S.f 17 7)) ∨ (paC S ∧ ∃ S2, maQ S S2 ∧ sMn S S2 ∧ caQ S2 S1 ∧ sMn S S1 ∧ ((z = 5 ∧ hcY S1) ∨ (z = 6 ∧ hcN S1 (S1.f 17 12) ∧ 24 < S1.f 17 12) ∨ (z = 0 ∧ hcN S1 (S1.f 17 12) ∧ S1.f 17 12 ≤ 24)))
def FL (S : yS) (L : List Int) : Prop := ∃ acc, DF (chC S) (flt (chC S) (chP S) ++ rL S 18 (S.f 17 7).toNat) [] acc ∧ L = (caL S (chP S ++ acc)).filter (nfC S)
theorem caL_eq {S S2 : yS} (e : sMn S S2) : caL S2 = caL S := by
  obtain ⟨-, e98, e6, -, e4, -, e10, e11, e12, e13, e14⟩ := e
  funext l
  unfold caL
  have h1 : okC S2 (S2.f 17 6) = okC S (S.f 17 6) := by
    funext t m
    unfold okC
    simp only [e10, e11, e12, e4, e6]
  have h2 : smC S2 = smC S := by
    funext x m
    unfold smC
    simp only [e11, e13, e14]
  rw [h1, h2, e98]
theorem clC_eq {S S2 : yS} (e : sMn S S2) {m o : Int} : clC S2 m o ↔ clC S m o := by
  obtain ⟨-, -, -, -, -, e6, -, e11, -, e13, e14⟩ := e
  unfold clC
  simp only [e6, e11, e13, e14]
theorem FL_of {S S1 S2 : yS} (hh : maH S) (h1 : maQ S S2) (e : sMn S S2) (h2 : caQ S2 S1) : FL S (fnd S1) := by
  obtain ⟨acc, a1, a2⟩ := h1 hh
  obtain ⟨b1, b2⟩ := h2
  refine ⟨acc, a2, ?_⟩
  rw [a1, caL_eq e] at b1
  rw [b2, b1]
  have : nfC S2 = nfC S := by
    funext x
    unfold nfC
    rw [e.2.2.2.2.2.2.2.2.1]
  rw [this]
theorem fnd_cl {S S1 : yS} (e : sMn S S1) (f0 : 0 ≤ S1.f 17 12) : (hcY S1 → pr (clC S) (fnd S1)) ∧ (hcN S1 (S1.f 17 12) → ¬ pr (clC S) (fnd S1)) := by
  refine ⟨?_, ?_⟩
  · rintro ⟨i, j, hj, hi, h⟩
    exact (pr_row _).mpr ⟨i, j, hj, by omega, (clC_eq e).mp h⟩
  · intro hn q
    obtain ⟨i, j, hj, hi, h⟩ := (pr_row _).mp q
    exact hn i j hj (by omega) ((clC_eq e).mpr h)
/-! ask -/
def asQ (Sa : yS) (t a b c : Int) : Prop := Sa.f 17 6 = t ∧ Sa.a 18 0 = a ∧ Sa.a 18 1 = b ∧ Sa.a 18 2 = c ∧ ((a = -1 ∧ Sa.f 17 7 = 0) ∨ (a ≠ -1 ∧ b = -1 ∧ Sa.f 17 7 = 1) ∨ (a ≠ -1 ∧ b ≠ -1 ∧ c = -1 ∧ Sa.f 17 7 = 2) ∨ (a ≠ -1 ∧ b ≠ -1 ∧ c ≠ -1 ∧ Sa.f 17 7 = 3))
def asN (S : yS) : Prop := ∀ i : Nat, (i : Int) < S.f 17 7 → S.a 18 i ≠ -1
theorem asN_0 {S : yS} (h : S.f 17 7 = 0) : asN S := fun i hi => absurd hi (by omega)
theorem asN_s {S S1 : yS} (h : asN S) (o0 : 0 ≤ S.f 17 7) (hn : S.a 18 (S.f 17 7).toNat ≠ -1) (e7 : S1.f 17 7 = S.f 17 7 + 1) (e18 : ∀ j, S1.a 18 j = S.a 18 j) : asN S1 := by
  intro i hi
  rw [e18]
  by_cases q : i = (S.f 17 7).toNat
  · rw [q]; exact hn
  · exact h i (by omega)
theorem as_end {S : yS} {t a b c : Int} (h6 : S.f 17 6 = t) (h0 : S.a 18 0 = a) (h1 : S.a 18 1 = b) (h2 : S.a 18 2 = c) (hn : asN S) (o0 : 0 ≤ S.f 17 7) (o3 : S.f 17 7 ≤ 3) (hx : 3 ≤ S.f 17 7 ∨ S.a 18 (S.f 17 7).toNat = -1) : asQ S t a b c := by
  have n0 := hn 0
  have n1 := hn 1
  have n2 := hn 2
  rw [h0] at n0
  rw [h1] at n1
  rw [h2] at n2
  refine ⟨h6, h0, h1, h2, ?_⟩
  rcases (show S.f 17 7 = 0 ∨ S.f 17 7 = 1 ∨ S.f 17 7 = 2 ∨ S.f 17 7 = 3 by omega) with e | e | e | e
  · rw [e] at hx n0 n1 n2
    have x0 : S.a 18 (0 : Int).toNat = S.a 18 0 := rfl
    omega
  · rw [e] at hx n0 n1 n2
    have x0 : S.a 18 (1 : Int).toNat = S.a 18 1 := rfl
    omega
  · rw [e] at hx n0 n1 n2
    have x0 : S.a 18 (2 : Int).toNat = S.a 18 2 := rfl
    omega
  · rw [e] at n0 n1 n2
    omega
def sAs (S Sa : yS) : Prop := Sa.f 1 7 = S.f 1 7 ∧ Sa.f 9 8 = S.f 9 8 ∧ (∀ j, Sa.a 2 j = S.a 2 j) ∧ (∀ j, Sa.a 3 j = S.a 3 j) ∧ (∀ j, Sa.a 4 j = S.a 4 j) ∧ (∀ j, Sa.a 5 j = S.a 5 j) ∧ (∀ j, Sa.a 6 j = S.a 6 j) ∧ (∀ j, Sa.a 7 j = S.a 7 j) ∧ (∀ j, Sa.a 8 j = S.a 8 j) ∧ (∀ j, Sa.a 10 j = S.a 10 j) ∧ (∀ j, Sa.a 11 j = S.a 11 j) ∧ (∀ j, Sa.a 12 j = S.a 12 j) ∧ (∀ j, Sa.a 13 j = S.a 13 j) ∧ (∀ j, Sa.a 14 j = S.a 14 j)
theorem sAs_fr {S Sa : yS} {MF : List (Nat × Nat)} {MA : List Nat} (hF : yFr MF MA S Sa) (s1 : ydj2 [(1, 7), (9, 8)] MF = true) (s2 : ydj1 [2, 3, 4, 5, 6, 7, 8, 10, 11, 12, 13, 14] MA = true) : sAs S Sa :=
  ⟨hF.f (ydj2_of s1 rfl), hF.f (ydj2_of s1 rfl), hF.a (ydj1_of s2 rfl), hF.a (ydj1_of s2 rfl), hF.a (ydj1_of s2 rfl), hF.a (ydj1_of s2 rfl), hF.a (ydj1_of s2 rfl), hF.a (ydj1_of s2 rfl), hF.a (ydj1_of s2 rfl), hF.a (ydj1_of s2 rfl), hF.a (ydj1_of s2 rfl), hF.a (ydj1_of s2 rfl), hF.a (ydj1_of s2 rfl), hF.a (ydj1_of s2 rfl)⟩
def goC (S : yS) (t a b c : Int) : Prop := (0 ≤ t ∧ t < S.f 1 7) ∧ ((a = -1 ∧ b = -1 ∧ c = -1) ∨ ((0 ≤ a ∧ a < S.f 1 7) ∧ b = -1 ∧ c = -1) ∨ ((0 ≤ a ∧ a < S.f 1 7) ∧ (0 ≤ b ∧ b < S.f 1 7) ∧ (c = -1 ∨ (0 ≤ c ∧ c < S.f 1 7))))
def foQ (S : yS) (z t a b c : Int) : Prop := goC S t a b c ∧ ∃ Sa Sb, asQ Sa t a b c ∧ sAs S Sa ∧ rfQ Sa Sb z ∧ 0 ≤ Sb.f 17 12
def hFo (S S1 : yS) (t a b c z : Int) : Prop := (z = 0 ∧ foQ S (S1.a 81 (0 : Int).toNat) t a b c) ∨ (z = 1 ∧ ¬ goC S t a b c)
/-! the other one: collect -/
def okM (S : yS) (c t : Int) (m : Nat) : Bool := decide (S.a 52 m = t ∧ S.a 53 m ≠ 10 ∧ yand (S.a 54 m) 12 ≤ 0 ∧ (yand (S.a 54 m) 7 ≠ 0 ∨ S.a 48 t.toNat = S.a 48 c.toNat))
def smM (S : yS) (x : Int) (m : Nat) : Bool := decide (S.a 53 x.toNat = S.a 53 m ∧ S.a 55 x.toNat = S.a 55 m ∧ S.a 56 x.toNat = S.a 56 m)
def nfM (S : yS) (x : Int) : Bool := decide (yand (S.a 54 x.toNat) 16 ≤ 0)
def mL (S : yS) : List Int := rL S 66 (S.f 43 31).toNat
def sMo (S0 S : yS) : Prop := S.f 43 10 = S0.f 43 10 ∧ ∀ j, S.a 48 j = S0.a 48 j ∧ S.a 52 j = S0.a 52 j ∧ S.a 53 j = S0.a 53 j ∧ S.a 54 j = S0.a 54 j ∧ S.a 55 j = S0.a 55 j ∧ S.a 56 j = S0.a 56 j
theorem sMo_fr {S0 S : yS} {MF : List (Nat × Nat)} {MA : List Nat} (hF : yFr MF MA S0 S) (s1 : ydj2 [(43, 10)] MF = true) (s2 : ydj1 [48, 52, 53, 54, 55, 56] MA = true) : sMo S0 S :=
  ⟨hF.f (ydj2_of s1 rfl), fun j => ⟨hF.a (ydj1_of s2 rfl) j, hF.a (ydj1_of s2 rfl) j, hF.a (ydj1_of s2 rfl) j, hF.a (ydj1_of s2 rfl) j, hF.a (ydj1_of s2 rfl) j, hF.a (ydj1_of s2 rfl) j⟩⟩
theorem sMo_78 {S0 S : yS} {k : Nat} {z : Int} (h : sMo S0 S) : sMo S0 (ysa S 78 k z) := h
theorem okM_eq {S0 S : yS} (e : sMo S0 S) : okM S = okM S0 := by
  funext c t m
  unfold okM
  rw [(e.2 _).2.1, (e.2 _).2.2.1, (e.2 _).2.2.2.1, (e.2 _).1, (e.2 _).1]
theorem smM_eq {S0 S : yS} (e : sMo S0 S) : smM S = smM S0 := by
  funext x m
  unfold smM
  rw [(e.2 x.toNat).2.2.1, (e.2 m).2.2.1, (e.2 x.toNat).2.2.2.2.1, (e.2 m).2.2.2.2.1, (e.2 x.toNat).2.2.2.2.2, (e.2 m).2.2.2.2.2]
/-- what is asked of the method m of t, but for those before it -/
def inM (S : yS) (t c m : Int) : Prop := S.a 52 m.toNat = t ∧ S.a 53 m.toNat ≠ 10 ∧ yand (S.a 54 m.toNat) 12 ≤ 0 ∧ (yand (S.a 54 m.toNat) 7 ≠ 0 ∨ S.a 48 t.toNat = S.a 48 c.toNat)
def smP (S : yS) (x m : Int) : Prop := S.a 53 x.toNat = S.a 53 m.toNat ∧ S.a 55 x.toNat = S.a 55 m.toNat ∧ S.a 56 x.toNat = S.a 56 m.toNat
def nsP (S : yS) (k m : Int) : Prop := ∀ j : Nat, (j : Int) < k → ¬ smP S (S.a 66 j) m
def isP (S : yS) (m : Int) : Prop := ∃ j : Nat, (j : Int) < S.f 43 31 ∧ smP S (S.a 66 j) m
def mo1 (S0 S : yS) (t c m : Int) : Prop := mL S = cM (okM S0 c t) (smM S0) (mL S0) m.toNat
def mo2 (S : yS) (t c m ps k : Int) : Prop := (ps = 0 → inM S t c m ∧ nsP S k m) ∧ (ps ≠ 0 → ¬ inM S t c m ∨ isP S m)
def moQ (S S1 : yS) (t c : Int) : Prop := mL S1 = cM (okM S c t) (smM S) (mL S) (S.f 43 10).toNat
theorem mo1_0 {S : yS} {t c : Int} : mo1 S S t c 0 := rfl
theorem mo_end {S0 S : yS} {t c m : Int} (h : mo1 S0 S t c m) (hm : m = S0.f 43 10) : moQ S0 S t c := by
  unfold moQ
  rw [← hm]
  exact h
theorem mo2_0 {S : yS} {t c m g : Int} (h0 : g = 0 → inM S t c m) (h1 : g ≠ 0 → ¬ inM S t c m) : mo2 S t c m g 0 := ⟨fun q => ⟨h0 q, fun j hj => absurd hj (by omega)⟩, fun q => Or.inl (h1 q)⟩
theorem mo2_n {S : yS} {t c m k : Int} (h : mo2 S t c m 0 k) (k0 : 0 ≤ k) (hn : S.a 53 (S.a 66 k.toNat).toNat ≠ S.a 53 m.toNat ∨ S.a 55 (S.a 66 k.toNat).toNat ≠ S.a 55 m.toNat ∨ S.a 56 (S.a 66 k.toNat).toNat ≠ S.a 56 m.toNat) : mo2 S t c m 0 (k + 1) := by
  obtain ⟨a, b⟩ := h.1 rfl
  refine ⟨fun _ => ⟨a, fun j hj => ?_⟩, fun q => absurd rfl q⟩
  by_cases e : j = k.toNat
  · rw [e]; intro q; unfold smP at q; omega
  · exact b j (by omega)
theorem mo2_y {S : yS} {t c m k ps : Int} (k0 : 0 ≤ k) (k1 : k < S.f 43 31) (hp : ps ≠ 0) (e1 : S.a 53 (S.a 66 k.toNat).toNat = S.a 53 m.toNat) (e2 : S.a 55 (S.a 66 k.toNat).toNat = S.a 55 m.toNat) (e3 : S.a 56 (S.a 66 k.toNat).toNat = S.a 56 m.toNat) : mo2 S t c m ps (k + 1) := ⟨fun q => absurd q hp, fun _ => Or.inr ⟨k.toNat, by omega, e1, e2, e3⟩⟩
theorem mo1_n {S0 S : yS} {t c m ps k : Int} (h : mo1 S0 S t c m) (e : sMo S0 S) (h2 : mo2 S t c m ps k) (hp : ps ≠ 0) (m0 : 0 ≤ m) : mo1 S0 S t c (m + 1) := by
  unfold mo1 at h ⊢
  rw [h]
  rcases h2.2 hp with q | ⟨j, hj, s1, s2, s3⟩
  · refine (cM_n1 m0 ?_).symm
    rw [← okM_eq e]
    unfold okM
    rw [decide_eq_false_iff_not]
    exact q
  · refine (cM_n2 (x := S.a 66 j) m0 ?_ ?_).symm
    · rw [← h]; exact (rL_mem _).mpr ⟨j, by omega, rfl⟩
    · rw [← smM_eq e]
      unfold smM
      exact decide_eq_true ⟨s1, s2, s3⟩
theorem mo1_y {S0 S S1 : yS} {t c m k : Int} (h : mo1 S0 S t c m) (e : sMo S0 S) (h2 : mo2 S t c m 0 k) (hk : S.f 43 31 ≤ k) (m0 : 0 ≤ m) (o0 : 0 ≤ S.f 43 31) (e31 : S1.f 43 31 = S.f 43 31 + 1) (e66 : ∀ j, S1.a 66 j = (ysa S 66 (S.f 43 31).toNat m).a 66 j) : mo1 S0 S1 t c (m + 1) := by
  unfold mo1 at h ⊢
  have a : mL S1 = mL S ++ [m] := by unfold mL; rw [e31]; exact rL_push o0 e66
  obtain ⟨b1, b2⟩ := h2.1 rfl
  rw [a, h]
  refine (cM_y m0 ?_ ?_).symm
  · rw [← okM_eq e]
    unfold okM
    exact decide_eq_true b1
  · intro x hx
    rw [← h] at hx
    obtain ⟨j, hj, rfl⟩ := (rL_mem _).mp hx
    rw [← smM_eq e]
    unfold smM
    rw [decide_eq_false_iff_not]
    exact b2 j (by omega)
/-! collectFace -/
def maL (S : yS) (c : Int) (l B : List Int) : List Int := cAll (okM S c) (smM S) (S.f 43 10).toNat l B
theorem maL_eq {S0 S : yS} (e : sMo S0 S) : maL S = maL S0 := by
  funext c l B
  unfold maL
  rw [okM_eq e, smM_eq e, e.1]
def sMf (S0 S : yS) : Prop := sMo S0 S ∧ (∀ j, S.a 50 j = S0.a 50 j) ∧ (∀ j, S.a 51 j = S0.a 51 j)
theorem sMf_fr {S0 S : yS} {MF : List (Nat × Nat)} {MA : List Nat} (hF : yFr MF MA S0 S) (s1 : ydj2 [(43, 10)] MF = true) (s2 : ydj1 [48, 52, 53, 54, 55, 56, 50, 51] MA = true) : sMf S0 S :=
  ⟨⟨hF.f (ydj2_of s1 rfl), fun j => ⟨hF.a (ydj1_of s2 rfl) j, hF.a (ydj1_of s2 rfl) j, hF.a (ydj1_of s2 rfl) j, hF.a (ydj1_of s2 rfl) j, hF.a (ydj1_of s2 rfl) j, hF.a (ydj1_of s2 rfl) j⟩⟩, hF.a (ydj1_of s2 rfl), hF.a (ydj1_of s2 rfl)⟩
theorem sMf_tr {S0 S S1 : yS} (h : sMf S0 S) (h1 : sMf S S1) : sMf S0 S1 := by
  obtain ⟨⟨a1, a2⟩, a3, a4⟩ := h
  obtain ⟨⟨b1, b2⟩, b3, b4⟩ := h1
  refine ⟨⟨b1.trans a1, fun j => ?_⟩, fun j => (b3 j).trans (a3 j), fun j => (b4 j).trans (a4 j)⟩
  obtain ⟨p1, p2, p3, p4, p5, p6⟩ := a2 j
  obtain ⟨q1, q2, q3, q4, q5, q6⟩ := b2 j
  exact ⟨q1.trans p1, q2.trans p2, q3.trans p3, q4.trans p4, q5.trans p5, q6.trans p6⟩
def GK (S0 S : yS) (c : Int) (B acc : List Int) : Prop := (∀ x : Int, 0 ≤ x → x ≤ 19 → (S.a 78 x.toNat ≠ 0 ↔ x ∈ acc)) ∧ mL S = maL S0 c acc B
def cfQ (S S1 : yS) (f c : Int) : Prop := ∀ B acc : List Int, GK S S c B acc → ∃ acc2, GK S S1 c B acc2 ∧ DF (chM S) [f] acc acc2
def stk (S : yS) (n : Int) : List Int := (rL S 79 n.toNat).reverse
theorem stk_s {S : yS} {n : Int} (h : 0 ≤ n) : stk S (n + 1) = S.a 79 n.toNat :: stk S n := by
  unfold stk
  rw [rL_s h, List.reverse_append]
  rfl
theorem stk_push {S S1 : yS} {n z : Int} (h : 0 ≤ n) (e : ∀ j, S1.a 79 j = (ysa S 79 n.toNat z).a 79 j) : stk S1 (n + 1) = z :: stk S n := by
  unfold stk
  rw [rL_push h e, List.reverse_append]
  rfl
theorem stk_eq {S S1 : yS} {n : Int} (e : ∀ j, S1.a 79 j = S.a 79 j) : stk S1 n = stk S n := by
  unfold stk
  rw [rL_eq (S := S) (b := 79) _ (fun j _ => e j)]
def cf1 (S0 S : yS) (f c n : Int) : Prop := ∀ B acc0 : List Int, GK S0 S0 c B acc0 → ∃ acc, GK S0 S c B acc ∧ ∀ o, DF (chM S0) (stk S n) acc o → DF (chM S0) [f] acc0 o
def cf2 (S0 S : yS) (f c n f0 j : Int) : Prop := ∀ B acc0 : List Int, GK S0 S0 c B acc0 → ∃ acc, GK S0 S c B acc ∧ ∀ o, DF (chM S0) (chI S0 50 f0 (j + 1).toNat ++ stk S n) acc o → DF (chM S0) [f] acc0 o
theorem cf1_0 {S0 S : yS} {f c : Int} (e31 : S.f 43 31 = S0.f 43 31) (e66 : ∀ j, S.a 66 j = S0.a 66 j) (e78 : ∀ j, S.a 78 j = S0.a 78 j) (e79 : S.a 79 (0 : Int).toNat = f) : cf1 S0 S f c 1 := by
  intro B acc0 hg
  refine ⟨acc0, ⟨fun x x0 x1 => by rw [e78]; exact hg.1 x x0 x1, ?_⟩, fun o ho => ?_⟩
  · have : mL S = mL S0 := by unfold mL; rw [e31]; exact rL_eq _ (fun j _ => e66 j)
    rw [this]; exact hg.2
  · have : stk S 1 = [f] := by
      have q := stk_s (S := S) (n := 0) (Int.le_refl 0)
      rw [e79] at q
      exact q
    rw [this] at ho
    exact ho
theorem cf_end {S0 S : yS} {f c n : Int} (h : cf1 S0 S f c n) (hn : n = 0) : cfQ S0 S f c := by
  intro B acc0 hg
  obtain ⟨acc, h1, h2⟩ := h B acc0 hg
  refine ⟨acc, h1, h2 acc ?_⟩
  rw [hn]
  exact DF_nil
theorem cf1_in {S0 S : yS} {f c n n1 f0 : Int} (h : cf1 S0 S f c n) (n1e : n = n1 + 1) (n0 : 0 ≤ n1) (ef : f0 = S.a 79 n1.toNat) (f00 : 0 ≤ f0) (f01 : f0 ≤ 19) (hg : S.a 78 f0.toNat ≠ 0) : cf1 S0 S f c n1 := by
  intro B acc0 hk
  obtain ⟨acc, h1, h2⟩ := h B acc0 hk
  refine ⟨acc, h1, fun o ho => h2 o ?_⟩
  rw [n1e, stk_s n0, ← ef]
  exact DF_in ((h1.1 f0 f00 f01).mp hg) ho
/-- f0 is new: it is marked, and its methods are collected -/
theorem cf2_0 {S0 S Sm S1 : yS} {f c n n1 f0 j : Int} (h : cf1 S0 S f c n) (n1e : n = n1 + 1) (n0 : 0 ≤ n1) (ef : f0 = S.a 79 n1.toNat) (f00 : 0 ≤ f0) (f01 : f0 ≤ 19) (hg : S.a 78 f0.toNat = 0) (em : ysa S 78 f0.toNat 1 = Sm) (e0 : sMo S0 S) (hq : moQ Sm S1 f0 c) (e78 : ∀ j, S1.a 78 j = Sm.a 78 j) (e79 : ∀ j, S1.a 79 j = Sm.a 79 j) (hj : S0.a 51 f0.toNat = j + 1) : cf2 S0 S1 f c n1 f0 j := by
  intro B acc0 hk
  obtain ⟨acc, h1, h2⟩ := h B acc0 hk
  have hnot : ¬ f0 ∈ acc := fun q => (h1.1 f0 f00 f01).mpr q hg
  have e : sMo S0 Sm := by rw [← em]; exact sMo_78 e0
  refine ⟨acc ++ [f0], ⟨fun x x0 x1 => ?_, ?_⟩, fun o ho => h2 o ?_⟩
  · rw [e78, ← em]
    by_cases q : x = f0
    · subst q
      rw [ysa_eq]
      exact ⟨fun _ => List.mem_append_right _ (List.mem_singleton.mpr rfl), fun _ => by decide⟩
    · rw [ysa_ne (Or.inr (by omega)), h1.1 x x0 x1]
      exact ⟨fun w => List.mem_append_left _ w, fun w => (List.mem_append.mp w).elim id (fun w => absurd (List.mem_singleton.mp w) q)⟩
  · have a : mL Sm = mL S := by rw [← em]; rfl
    rw [hq, a, h1.2, okM_eq e, smM_eq e, e.1]
    exact cAll_snoc.symm
  · rw [n1e, stk_s n0, ← ef]
    refine DF_new hnot ?_
    have b : stk S1 n1 = stk S n1 := (stk_eq e79).trans (by rw [← em]; rfl)
    rw [b, ← hj] at ho
    exact ho
theorem cf2_s {S0 S S1 : yS} {f c n f0 j z n2 j2 : Int} (h : cf2 S0 S f c n f0 j) (n0 : 0 ≤ n) (j0 : 0 ≤ j) (hn2 : n2 = n + 1) (hj2 : j2 = j - 1) (hz : z = S0.a 50 (4 * f0 + j).toNat) (e79 : ∀ i, S1.a 79 i = (ysa S 79 n.toNat z).a 79 i) (e31 : S1.f 43 31 = S.f 43 31) (e66 : ∀ j, S1.a 66 j = S.a 66 j) (e78 : ∀ j, S1.a 78 j = S.a 78 j) : cf2 S0 S1 f c n2 f0 j2 := by
  subst hn2 hj2
  intro B acc0 hk
  obtain ⟨acc, h1, h2⟩ := h B acc0 hk
  refine ⟨acc, ⟨fun x x0 x1 => by rw [e78]; exact h1.1 x x0 x1, ?_⟩, fun o ho => h2 o ?_⟩
  · have : mL S1 = mL S := by unfold mL; rw [e31]; exact rL_eq _ (fun j _ => e66 j)
    rw [this]; exact h1.2
  · rw [chI_s j0, List.append_assoc, ← hz]
    have e : j - 1 + 1 = j := by omega
    rw [e, stk_push n0 e79] at ho
    exact ho
theorem cf1_s {S0 S : yS} {f c n f0 j : Int} (h : cf2 S0 S f c n f0 j) (hj : j < 0) : cf1 S0 S f c n := by
  intro B acc0 hk
  obtain ⟨acc, h1, h2⟩ := h B acc0 hk
  refine ⟨acc, h1, fun o ho => h2 o ?_⟩
  have e : (j + 1).toNat = 0 := by omega
  rw [e]
  exact ho
/-! collectAll -/
def gl (a b e : Int) : List Int := (if 0 ≤ a then [a] else []) ++ ((if 0 ≤ b then [b] else []) ++ (if 0 ≤ e then [e] else []))
def chQ (S : yS) (c : Int) : List Int := chn (parM S) 20 c
def mcQ (S S1 : yS) (c a b e : Int) : Prop := ∃ acc, DF (chM S) (flt (chM S) (chQ S c) ++ gl a b e) [] acc ∧ mL S1 = maL S c (chQ S c ++ acc) []
def gnZ (S : yS) (k : Int) : Prop := ∀ j : Nat, (j : Int) < k → S.a 78 j = 0
theorem gnZ_0 {S : yS} : gnZ S 0 := fun j h => absurd h (by omega)
theorem gnZ_s {S S1 : yS} {k : Int} (h : gnZ S k) (k0 : 0 ≤ k) (e : ysa S 78 k.toNat 0 = S1) : gnZ S1 (k + 1) := by
  intro j hj
  rw [← e]
  by_cases q : j = k.toNat
  · rw [q, ysa_eq]
  · rw [ysa_ne (Or.inr q)]; exact h j (by omega)
def mA1 (S0 S : yS) (c t : Int) : Prop := gnZ S 20 ∧ ∃ (l : List Int) (n : Nat), mL S = maL S0 c l [] ∧ l ++ chn (parM S0) n t = chQ S0 c ∧ t < n
def mA2 (S0 S : yS) (c t : Int) : Prop := ∃ (l acc : List Int) (n : Nat), GK S0 S c (maL S0 c (chQ S0 c) []) acc ∧ l ++ chn (parM S0) n t = chQ S0 c ∧ t < n ∧ DF (chM S0) (flt (chM S0) l) [] acc
def mA3 (S0 S : yS) (c t j : Int) : Prop := ∃ (l acc : List Int) (n : Nat), GK S0 S c (maL S0 c (chQ S0 c) []) acc ∧ l ++ chn (parM S0) n t = chQ S0 c ∧ t < n ∧ DF (chM S0) (flt (chM S0) l ++ chI S0 50 t j.toNat) [] acc
def mA4 (S0 S : yS) (c : Int) (g : List Int) : Prop := ∃ acc, GK S0 S c (maL S0 c (chQ S0 c) []) acc ∧ DF (chM S0) (flt (chM S0) (chQ S0 c) ++ g) [] acc
theorem mA1_0 {S0 S : yS} {c : Int} (h : gnZ S 20) (e31 : S.f 43 31 = 0) (c1 : c ≤ 19) : mA1 S0 S c c := by
  refine ⟨h, [], 20, ?_, rfl, by omega⟩
  unfold mL
  rw [e31]
  rfl
theorem mA1_s {S0 S S1 : yS} {c t t2 : Int} (h : mA1 S0 S c t) (t0 : 0 ≤ t) (e : sMo S0 S) (hq : moQ S S1 t c) (e78 : ∀ j, S1.a 78 j = S.a 78 j) (ht : t2 = S0.a 49 t.toNat) (lt : t2 < t) : mA1 S0 S1 c t2 := by
  obtain ⟨hz, l, n, h1, h2, h3⟩ := h
  refine ⟨fun j hj => by rw [e78]; exact hz j hj, l ++ [t], n - 1, ?_, ?_, by omega⟩
  · rw [hq, h1, okM_eq e, smM_eq e, e.1]
    exact cAll_snoc.symm
  · have e9 : n = (n - 1) + 1 := by omega
    rw [e9, chn_pos t0] at h2
    have e8 : parM S0 t = t2 := ht.symm
    rw [e8] at h2
    rw [List.append_assoc]
    exact h2
theorem mA2_0 {S0 S : yS} {c t : Int} (h : mA1 S0 S c t) (ht : t < 0) (c1 : c ≤ 19) : mA2 S0 S c c := by
  obtain ⟨hz, l, n, h1, h2, h3⟩ := h
  rw [chn_neg ht, List.append_nil] at h2
  refine ⟨[], [], 20, ⟨fun x x0 x1 => ?_, ?_⟩, rfl, by omega, DF_nil⟩
  · rw [hz x.toNat (by omega)]
    exact ⟨fun q => absurd rfl q, fun q => absurd q List.not_mem_nil⟩
  · rw [h1, h2]; rfl
theorem mA3_0 {S0 S : yS} {c t : Int} (h : mA2 S0 S c t) : mA3 S0 S c t 0 := by
  obtain ⟨l, acc, n, h1, h2, h3, h4⟩ := h
  refine ⟨l, acc, n, h1, h2, h3, ?_⟩
  show DF (chM S0) (flt (chM S0) l ++ []) [] acc
  rw [List.append_nil]
  exact h4
theorem GK_face {S0 S S1 : yS} {c z : Int} {B acc : List Int} (h : GK S0 S c B acc) (ef : sMf S0 S) (hq : cfQ S S1 z c) : ∃ acc2, GK S0 S1 c B acc2 ∧ DF (chM S0) [z] acc acc2 := by
  obtain ⟨e, e50, e51⟩ := ef
  have em := maL_eq e
  obtain ⟨acc2, g, d⟩ := hq B acc ⟨h.1, by rw [em]; exact h.2⟩
  rw [chM_eq e51 e50] at d
  refine ⟨acc2, ⟨g.1, ?_⟩, d⟩
  rw [← em]
  exact g.2
theorem mA3_s {S0 S S1 : yS} {c t j z : Int} (h : mA3 S0 S c t j) (j0 : 0 ≤ j) (e : sMf S0 S) (hz : z = S0.a 50 (4 * t + j).toNat) (hq : cfQ S S1 z c) : mA3 S0 S1 c t (j + 1) := by
  obtain ⟨l, acc, n, h1, h2, h3, h4⟩ := h
  obtain ⟨acc2, g, d⟩ := GK_face h1 e hq
  refine ⟨l, acc2, n, g, h2, h3, ?_⟩
  rw [chI_s j0, ← hz, ← List.append_assoc]
  exact DF_app h4 d
theorem mA2_s {S0 S : yS} {c t t2 j : Int} (h : mA3 S0 S c t j) (t0 : 0 ≤ t) (hj : S0.a 51 t.toNat = j) (ht : t2 = S0.a 49 t.toNat) (lt : t2 < t) : mA2 S0 S c t2 := by
  obtain ⟨l, acc, n, h1, h2, h3, h4⟩ := h
  refine ⟨l ++ [t], acc, n - 1, h1, ?_, by omega, ?_⟩
  · have e9 : n = (n - 1) + 1 := by omega
    rw [e9, chn_pos t0] at h2
    have e8 : parM S0 t = t2 := ht.symm
    rw [e8] at h2
    rw [List.append_assoc]
    exact h2
  · rw [flt_snoc]
    unfold chM at h4 ⊢
    rw [hj]
    exact h4
theorem mA4_0 {S0 S : yS} {c t : Int} (h : mA2 S0 S c t) (ht : t < 0) : mA4 S0 S c [] := by
  obtain ⟨l, acc, n, h1, h2, h3, h4⟩ := h
  rw [chn_neg ht, List.append_nil] at h2
  refine ⟨acc, h1, ?_⟩
  rw [List.append_nil, ← h2]
  exact h4
theorem mA4_s {S0 S S1 : yS} {c z : Int} {g : List Int} (h : mA4 S0 S c g) (e : sMf S0 S) (hq : cfQ S S1 z c) : mA4 S0 S1 c (g ++ [z]) := by
  obtain ⟨acc, h1, h4⟩ := h
  obtain ⟨acc2, k, d⟩ := GK_face h1 e hq
  refine ⟨acc2, k, ?_⟩
  rw [← List.append_assoc]
  exact DF_app h4 d
theorem mc_end {S0 S : yS} {c a b e : Int} {g : List Int} (h : mA4 S0 S c g) (hg : g = gl a b e) : mcQ S0 S c a b e := by
  obtain ⟨acc, h1, h4⟩ := h
  rw [hg] at h4
  refine ⟨acc, h4, ?_⟩
  rw [h1.2]
  exact (cAll_app _ _ _).symm
/-! refusal -/
def opM (S : yS) (m t : Int) : Prop := S.a 52 m.toNat = t ∧ S.a 53 m.toNat = 10 ∧ yand (S.a 54 m.toNat) 4 = 0
def oyM (S : yS) (t : Int) : Prop := ∃ m : Int, 0 ≤ m ∧ m < S.f 43 10 ∧ opM S m t
def onM (S : yS) (k t : Int) : Prop := ∀ m : Int, 0 ≤ m → m < k → ¬ opM S m t
def ocW (S : yS) (sm m t : Int) : Prop := (sm ≠ 0 → oyM S t) ∧ (sm = 0 → onM S m t)
theorem ocW_0 {S : yS} {t : Int} : ocW S 0 0 t := ⟨fun q => absurd rfl q, fun _ m h0 h1 => absurd h0 (by omega)⟩
theorem ocW_k {S : yS} {sm m t : Int} (h : ocW S sm m t) (hs : sm ≠ 0) {s2 : Int} (h2 : s2 ≠ 0) : ocW S s2 (m + 1) t := ⟨fun _ => h.1 hs, fun q => absurd q h2⟩
theorem ocW_y {S : yS} {m t s2 : Int} (m0 : 0 ≤ m) (m1 : m < S.f 43 10) (hm : opM S m t) (h2 : s2 ≠ 0) : ocW S s2 (m + 1) t := ⟨fun _ => ⟨m, m0, m1, hm⟩, fun q => absurd q h2⟩
theorem ocW_n {S : yS} {sm m t : Int} (h : ocW S sm m t) (hs : sm = 0) (hm : ¬ opM S m t) : ocW S 0 (m + 1) t := by
  refine ⟨fun q => absurd rfl q, fun _ k k0 k1 => ?_⟩
  by_cases e : k = m
  · rw [e]; exact hm
  · exact h.2 hs k k0 (by omega)
def r1M (S : yS) (c : Int) : Prop := S.a 44 c.toNat ≠ 0 ∨ S.a 46 c.toNat ≠ 0
def r3M (S : yS) (a b e : Int) : Prop := (0 ≤ a ∧ S.a 44 a.toNat = 0) ∨ (0 ≤ b ∧ (S.a 44 b.toNat = 0 ∨ b = a)) ∨ (0 ≤ e ∧ (S.a 44 e.toNat = 0 ∨ e = a ∨ e = b))
def hdM (S : yS) (f c : Int) : Prop := 0 ≤ f ∧ S.a 45 f.toNat = 0 ∧ S.a 48 f.toNat ≠ S.a 48 c.toNat
def r4M (S : yS) (c a b e : Int) : Prop := hdM S a c ∨ hdM S b c ∨ hdM S e c
def clM (S : yS) (m o : Int) : Prop := S.a 53 o.toNat = S.a 53 m.toNat ∧ S.a 55 o.toNat = S.a 55 m.toNat ∧ (¬ (3 < S.a 56 m.toNat ∧ 3 < S.a 56 o.toNat) ∨ (¬ rcM S (S.a 56 m.toNat - 4) (S.a 56 o.toNat - 4) ∧ ¬ rcM S (S.a 56 o.toNat - 4) (S.a 56 m.toNat - 4)))
def RK (S : yS) : Prop := ∀ j : Nat, S.a 56 j < 4 + S.f 43 1
theorem RKx : yX [(43, 1)] [56] RK := by
  intro S S' hf ha h j
  rw [ha 56 rfl, hf 43 1 rfl]
  exact h j
def mrH (S : yS) : Prop := FM S ∧ RK S
def hmN (S0 S : yS) (k : Int) : Prop := ∀ i j : Nat, j < i → (i : Int) < k → yand (S.a 54 (S.a 66 i).toNat) 16 ≤ 0 → yand (S.a 54 (S.a 66 j).toNat) 16 ≤ 0 → ¬ clM S0 (S.a 66 i) (S.a 66 j)
def hmY (S0 S : yS) : Prop := ∃ i j : Nat, j < i ∧ (i : Int) < S.f 43 31 ∧ yand (S.a 54 (S.a 66 i).toNat) 16 ≤ 0 ∧ yand (S.a 54 (S.a 66 j).toNat) 16 ≤ 0 ∧ clM S0 (S.a 66 i) (S.a 66 j)
def sMr (S0 S : yS) : Prop := S.f 43 1 = S0.f 43 1 ∧ ∀ j, S.a 49 j = S0.a 49 j ∧ S.a 50 j = S0.a 50 j ∧ S.a 51 j = S0.a 51 j ∧ S.a 53 j = S0.a 53 j ∧ S.a 55 j = S0.a 55 j ∧ S.a 56 j = S0.a 56 j
theorem sMr_fr {S0 S : yS} {MF : List (Nat × Nat)} {MA : List Nat} (hF : yFr MF MA S0 S) (s1 : ydj2 [(43, 1)] MF = true) (s2 : ydj1 [49, 50, 51, 53, 55, 56] MA = true) : sMr S0 S :=
  ⟨hF.f (ydj2_of s1 rfl), fun j => ⟨hF.a (ydj1_of s2 rfl) j, hF.a (ydj1_of s2 rfl) j, hF.a (ydj1_of s2 rfl) j, hF.a (ydj1_of s2 rfl) j, hF.a (ydj1_of s2 rfl) j, hF.a (ydj1_of s2 rfl) j⟩⟩
theorem rcM_eq {S0 S : yS} (e : sMr S0 S) {t o : Int} : rcM S t o ↔ rcM S0 t o := by
  have h : ∀ u v, egM S u v ↔ egM S0 u v := by
    intro u v
    unfold egM
    rw [e.1, (e.2 _).1, (e.2 u.toNat).2.2.1]
    refine and_congr Iff.rfl (or_congr Iff.rfl ⟨fun ⟨i, a, b, q⟩ => ⟨i, a, b, ?_⟩, fun ⟨i, a, b, q⟩ => ⟨i, a, b, ?_⟩⟩)
    · rw [← (e.2 _).2.1]; exact q
    · rw [(e.2 _).2.1]; exact q
  unfold rcM
  exact ⟨fun q P p0 p1 p2 => q P p0 p1 (fun u v pu hu => p2 u v pu ((h u v).mp hu)), fun q P p0 p1 p2 => q P p0 p1 (fun u v pu hu => p2 u v pu ((h u v).mpr hu))⟩
theorem FM_eq {S0 S : yS} (e : sMr S0 S) (h : FM S0) : FM S := by
  refine ⟨fun x x0 x1 => ?_, fun x i x0 x1 i0 i1 => ?_⟩
  · rw [(e.2 _).1]; rw [e.1] at x1; exact h.1 x x0 x1
  · rw [(e.2 _).2.1, e.1]
    rw [e.1] at x1
    rw [(e.2 x.toNat).2.2.1] at i1
    exact h.2 x i x0 x1 i0 i1
/-- what under answers, told of the state at the start -/
theorem un_of {S0 S : yS} {t o z : Int} (e : sMr S0 S) (hh : mrH S0) (hu : FM S → 0 ≤ t → t < S.f 43 1 → o < S.f 43 1 → (z = 1 ↔ rcM S t o)) (t0 : 0 ≤ t) (t1 : t < S0.f 43 1) (o1 : o < S0.f 43 1) : z = 1 ↔ rcM S0 t o := by
  have e1 := e.1
  exact (hu (FM_eq e hh.1) t0 (by omega) (by omega)).trans (rcM_eq e)
def sU (S S1 : yS) : Prop := S1.f 43 31 = S.f 43 31 ∧ (∀ j, S1.a 66 j = S.a 66 j) ∧ (∀ j, S1.a 54 j = S.a 54 j)
theorem sU_rfl {S : yS} : sU S S := ⟨rfl, fun _ => rfl, fun _ => rfl⟩
theorem sU_fr {S S1 : yS} {MF : List (Nat × Nat)} {MA : List Nat} (hF : yFr MF MA S S1) (s1 : ydj2 [(43, 31)] MF = true) (s2 : ydj1 [66, 54] MA = true) : sU S S1 := ⟨hF.f (ydj2_of s1 rfl), hF.a (ydj1_of s2 rfl), hF.a (ydj1_of s2 rfl)⟩
theorem sU_tr {S S1 S2 : yS} (h : sU S S1) (h2 : sU S1 S2) : sU S S2 := ⟨h2.1.trans h.1, fun j => (h2.2.1 j).trans (h.2.1 j), fun j => (h2.2.2 j).trans (h.2.2 j)⟩
def hmJ (S0 S : yS) (m j : Int) : Prop := ∀ i : Nat, (i : Int) < j → yand (S.a 54 (S.a 66 i).toNat) 16 ≤ 0 → ¬ clM S0 m (S.a 66 i)
def mr1 (S0 S : yS) (k : Int) : Prop := mrH S0 → hmN S0 S k
def mr2 (S0 S : yS) (k m j : Int) : Prop := mrH S0 → hmN S0 S k ∧ hmJ S0 S m j
theorem mr1_0 {S0 S : yS} : mr1 S0 S 0 := fun _ i j _ h => absurd h (by omega)
theorem mr1_n {S0 S : yS} {k : Int} (h : mr1 S0 S k) (k0 : 0 ≤ k) (hf : 0 < yand (S.a 54 (S.a 66 k.toNat).toNat) 16) : mr1 S0 S (k + 1) := by
  intro hh i j hj hi f1 f2
  by_cases e : i = k.toNat
  · rw [e] at f1; omega
  · exact h hh i j hj (by omega) f1 f2
theorem mr2_0 {S0 S : yS} {k m : Int} (h : mr1 S0 S k) : mr2 S0 S k m 0 := fun hh => ⟨h hh, fun i hi => absurd hi (by omega)⟩
theorem mr2_n {S0 S S1 : yS} {k m j : Int} (u : sU S S1) (h : mr2 S0 S k m j) (j0 : 0 ≤ j) (hn : mrH S0 → yand (S.a 54 (S.a 66 j.toNat).toNat) 16 ≤ 0 → ¬ clM S0 m (S.a 66 j.toNat)) : mr2 S0 S1 k m (j + 1) := by
  intro hh
  obtain ⟨-, e66, e54⟩ := u
  obtain ⟨a, b⟩ := h hh
  refine ⟨fun i l hl hi f1 f2 => ?_, fun i hi f1 => ?_⟩
  · rw [e66, e54] at f1 f2
    rw [e66, e66]
    exact a i l hl hi f1 f2
  · rw [e66, e54] at f1
    rw [e66]
    by_cases e : i = j.toNat
    · rw [e] at f1 ⊢; exact hn hh f1
    · exact b i (by omega) f1
theorem mr1_s {S0 S : yS} {k m j : Int} (h : mr2 S0 S k m j) (k0 : 0 ≤ k) (hm : m = S.a 66 k.toNat) (hj : k ≤ j) : mr1 S0 S (k + 1) := by
  intro hh i l hl hi f1 f2
  obtain ⟨a, b⟩ := h hh
  by_cases e : i = k.toNat
  · rw [e, ← hm]; exact b l (by omega) f2
  · exact a i l hl (by omega) f1 f2
theorem hmY_of {S0 S S1 : yS} {k j m : Int} (u : sU S S1) (j0 : 0 ≤ j) (j1 : j < k) (k1 : k < S.f 43 31) (hm : m = S.a 66 k.toNat) (f1 : yand (S.a 54 m.toNat) 16 ≤ 0) (f2 : yand (S.a 54 (S.a 66 j.toNat).toNat) 16 ≤ 0) (h : clM S0 m (S.a 66 j.toNat)) : hmY S0 S1 := by
  obtain ⟨e31, e66, e54⟩ := u
  refine ⟨k.toNat, j.toNat, by omega, by omega, ?_, ?_, ?_⟩
  · rw [e66, e54, ← hm]; exact f1
  · rw [e66, e54]; exact f2
  · rw [e66, e66, ← hm]; exact h
theorem mcQ_fr {S0 S S1 : yS} {c a b e : Int} (ef : sMf S0 S) (e49 : ∀ j, S.a 49 j = S0.a 49 j) (h : mcQ S S1 c a b e) : mcQ S0 S1 c a b e := by
  obtain ⟨acc, h1, h2⟩ := h
  obtain ⟨e1, e50, e51⟩ := ef
  have hp : parM S = parM S0 := by
    funext t
    exact e49 _
  have hc : chQ S c = chQ S0 c := by unfold chQ; rw [hp]
  rw [chM_eq e51 e50, hc] at h1
  rw [maL_eq e1, hc] at h2
  exact ⟨acc, h1, h2⟩
theorem mcQ_up {S0 S S1 : yS} {c a b e : Int} (u : sU S S1) (h : mcQ S0 S c a b e) : mcQ S0 S1 c a b e := by
  obtain ⟨acc, h1, h2⟩ := h
  refine ⟨acc, h1, ?_⟩
  rw [← h2]
  unfold mL
  rw [u.1]
  exact rL_eq _ (fun j _ => u.2.1 j)
theorem sMr_tr {S0 S S1 : yS} (h : sMr S0 S) (h1 : sMr S S1) : sMr S0 S1 := by
  refine ⟨h1.1.trans h.1, fun j => ?_⟩
  obtain ⟨p1, p2, p3, p4, p5, p6⟩ := h.2 j
  obtain ⟨q1, q2, q3, q4, q5, q6⟩ := h1.2 j
  exact ⟨q1.trans p1, q2.trans p2, q3.trans p3, q4.trans p4, q5.trans p5, q6.trans p6⟩
theorem hd_eq {S0 S : yS} {f c : Int} {MF : List (Nat × Nat)} {MA : List Nat} (hF : yFr MF MA S0 S) (s2 : ydj1 [45, 48] MA = true) : hdM S f c ↔ hdM S0 f c := by
  unfold hdM
  rw [hF.a (b := 45) (ydj1_of s2 rfl), hF.a (b := 48) (ydj1_of s2 rfl), hF.a (b := 48) (ydj1_of s2 rfl)]
theorem cm_n1 {S : yS} {m o : Int} (h : S.a 53 o.toNat ≠ S.a 53 m.toNat ∨ S.a 55 o.toNat ≠ S.a 55 m.toNat) : ¬ clM S m o := by
  intro q
  have q1 := q.1
  have q2 := q.2.1
  omega
theorem cm_n2 {S : yS} {m o t u : Int} (hm : t = S.a 56 m.toNat - 4) (ho : u = S.a 56 o.toNat - 4) (h3 : 3 < S.a 56 m.toNat) (h4 : 3 < S.a 56 o.toNat) (q : rcM S t u ∨ rcM S u t) : ¬ clM S m o := by
  intro w
  subst hm ho
  rcases w.2.2 with w | w
  · exact w ⟨h3, h4⟩
  · exact q.elim w.1 w.2
theorem cm_y1 {S : yS} {m o : Int} (h1 : S.a 53 o.toNat = S.a 53 m.toNat) (h2 : S.a 55 o.toNat = S.a 55 m.toNat) (h3 : S.a 56 m.toNat ≤ 3 ∨ S.a 56 o.toNat ≤ 3) : clM S m o := ⟨h1, h2, Or.inl (by omega)⟩
theorem cm_y2 {S : yS} {m o t u t2 u2 : Int} (h1 : S.a 53 o.toNat = S.a 53 m.toNat) (h2 : S.a 55 o.toNat = S.a 55 m.toNat) (hm : t = S.a 56 m.toNat - 4) (ho : u = S.a 56 o.toNat - 4) (hm2 : t2 = S.a 56 m.toNat - 4) (ho2 : u2 = S.a 56 o.toNat - 4) (a : ¬ rcM S t u) (b : ¬ rcM S u2 t2) : clM S m o := by
  subst hm ho hm2 ho2
  exact ⟨h1, h2, Or.inr ⟨a, b⟩⟩
def paM (S : yS) (c a b e : Int) : Prop := ¬ r1M S c ∧ oyM S c ∧ ¬ r3M S a b e ∧ ¬ r4M S c a b e
def mrQ (S S1 : yS) (z c a b e : Int) : Prop := (z = 1 ∧ r1M S c) ∨ (z = 2 ∧ ¬ r1M S c ∧ onM S (S.f 43 10) c) ∨ (z = 3 ∧ ¬ r1M S c ∧ oyM S c ∧ r3M S a b e) ∨ (z = 4 ∧ ¬ r1M S c ∧ oyM S c ∧ ¬ r3M S a b e ∧ r4M S c a b e) ∨ (paM S c a b e ∧ mcQ S S1 c a b e ∧ (∀ j, S1.a 54 j = S.a 54 j) ∧ 0 ≤ S1.f 43 31 ∧ (mrH S → (z = 5 ∧ hmY S S1) ∨ (z = 6 ∧ hmN S S1 (S1.f 43 31) ∧ 24 < nfa S1) ∨ (z = 0 ∧ hmN S S1 (S1.f 43 31) ∧ nfa S1 ≤ 24)))
theorem nfN_len {S : yS} : ∀ n : Nat, nfN S n = (((rL S 66 n).filter (nfM S)).length : Int) := by
  intro n
  induction n with
  | zero => rfl
  | succ n ih =>
    show nfN S n + (if yand (S.a 54 (S.a 66 n).toNat) 16 ≤ 0 then 1 else 0) = (((rL S 66 n ++ [S.a 66 n]).filter (nfM S)).length : Int)
    rw [List.filter_append, List.length_append, ih]
    by_cases h : yand (S.a 54 (S.a 66 n).toNat) 16 ≤ 0
    · have e : nfM S (S.a 66 n) = true := decide_eq_true h
      rw [if_pos h, List.filter_cons_of_pos e]
      rfl
    · have e : ¬ nfM S (S.a 66 n) = true := by unfold nfM; rw [decide_eq_true_iff]; exact h
      rw [if_neg h, List.filter_cons_of_neg e]
      rfl
theorem mL_cl {S S1 : yS} (e54 : ∀ j, S1.a 54 j = S.a 54 j) (o0 : 0 ≤ S1.f 43 31) : (hmY S S1 → pr (clM S) ((mL S1).filter (nfM S))) ∧ (hmN S S1 (S1.f 43 31) → ¬ pr (clM S) ((mL S1).filter (nfM S))) := by
  rw [pr_filter]
  refine ⟨?_, ?_⟩
  · rintro ⟨i, j, hj, hi, f1, f2, h⟩
    refine (pr_row _).mpr ⟨i, j, hj, by omega, decide_eq_true ?_, decide_eq_true ?_, h⟩
    · rw [← e54]; exact f1
    · rw [← e54]; exact f2
  · intro hn q
    obtain ⟨i, j, hj, hi, f1, f2, h⟩ := (pr_row _).mp q
    refine hn i j hj (by omega) ?_ ?_ h
    · rw [e54]; exact of_decide_eq_true f1
    · rw [e54]; exact of_decide_eq_true f2
/-! forge: both sides together -/
theorem pr_or {A B : Int → Int → Prop} : ∀ l : List Int, pr (fun y x => A y x ∨ B y x) l → pr A l ∨ pr B l := by
  intro l
  induction l with
  | nil => intro h; exact Or.inl h
  | cons x r ih =>
    rintro (⟨y, hy, h | h⟩ | h)
    · exact Or.inl (Or.inl ⟨y, hy, h⟩)
    · exact Or.inr (Or.inl ⟨y, hy, h⟩)
    · rcases ih h with h1 | h1
      · exact Or.inl (Or.inr h1)
      · exact Or.inr (Or.inr h1)
def goM (S : yS) (c a b e : Int) : Prop := (0 ≤ c ∧ c < S.f 43 1) ∧ (a = -1 ∨ (0 ≤ a ∧ a < S.f 43 1)) ∧ (b = -1 ∨ (0 ≤ b ∧ b < S.f 43 1)) ∧ (e = -1 ∨ (0 ≤ e ∧ e < S.f 43 1)) ∧ (a ≠ -1 ∨ b = -1) ∧ (b ≠ -1 ∨ e = -1)
def sMa (S Sa : yS) : Prop := Sa.f 43 1 = S.f 43 1 ∧ Sa.f 43 10 = S.f 43 10 ∧ (∀ j, Sa.a 44 j = S.a 44 j) ∧ (∀ j, Sa.a 45 j = S.a 45 j) ∧ (∀ j, Sa.a 46 j = S.a 46 j) ∧ (∀ j, Sa.a 48 j = S.a 48 j) ∧ (∀ j, Sa.a 49 j = S.a 49 j) ∧ (∀ j, Sa.a 50 j = S.a 50 j) ∧ (∀ j, Sa.a 51 j = S.a 51 j) ∧ (∀ j, Sa.a 52 j = S.a 52 j) ∧ (∀ j, Sa.a 53 j = S.a 53 j) ∧ (∀ j, Sa.a 54 j = S.a 54 j) ∧ (∀ j, Sa.a 55 j = S.a 55 j) ∧ (∀ j, Sa.a 56 j = S.a 56 j)
theorem sMa_fr {S Sa : yS} {MF : List (Nat × Nat)} {MA : List Nat} (hF : yFr MF MA S Sa) (s1 : ydj2 [(43, 1), (43, 10)] MF = true) (s2 : ydj1 [44, 45, 46, 48, 49, 50, 51, 52, 53, 54, 55, 56] MA = true) : sMa S Sa :=
  ⟨hF.f (ydj2_of s1 rfl), hF.f (ydj2_of s1 rfl), hF.a (ydj1_of s2 rfl), hF.a (ydj1_of s2 rfl), hF.a (ydj1_of s2 rfl), hF.a (ydj1_of s2 rfl), hF.a (ydj1_of s2 rfl), hF.a (ydj1_of s2 rfl), hF.a (ydj1_of s2 rfl), hF.a (ydj1_of s2 rfl), hF.a (ydj1_of s2 rfl), hF.a (ydj1_of s2 rfl), hF.a (ydj1_of s2 rfl), hF.a (ydj1_of s2 rfl)⟩
def mfR (S : yS) (z c a b e : Int) : Prop := goM S c a b e ∧ ∃ Sa Sb, sMa S Sa ∧ mrQ Sa Sb z c a b e
def mfQ (S S1 : yS) (z c a b e : Int) : Prop := (S1.f 43 0 = 1 ∧ ¬ goM S c a b e) ∨ (S1.f 43 0 = 0 ∧ mfR S z c a b e)
/-- the rows of the two sides -/
def JJ (Sa Ma : yS) : Prop := Sa.f 1 7 = Ma.f 43 1 ∧ Sa.f 9 8 = Ma.f 43 10 ∧ (∀ j, Ma.a 44 j = Sa.a 2 j) ∧ (∀ j, Ma.a 45 j = yand (Sa.a 3 j) 1) ∧ (∀ j, 2 * Ma.a 46 j = yand (Sa.a 3 j) 2) ∧ (∀ j, Ma.a 48 j = Sa.a 4 j) ∧ (∀ j, Sa.a 2 j = 0 → Ma.a 49 j = Sa.a 5 j) ∧ (∀ j, Ma.a 50 j = Sa.a 8 j) ∧ (∀ j, Ma.a 51 j = Sa.a 7 j) ∧ (∀ j, Ma.a 52 j = Sa.a 10 j) ∧ (∀ j, Ma.a 53 j = Sa.a 11 j) ∧ (∀ j, Ma.a 54 j = Sa.a 12 j) ∧ (∀ j, Ma.a 55 j = Sa.a 13 j) ∧ (∀ j, Ma.a 56 j = Sa.a 14 j)
theorem JJ_of {S S1 Sa Ma : yS} (h : RT S) (hs : RS S) (hm : RMe S) (h1 : sAs S Sa) (h2 : sMa S S1) (h3 : sMa S1 Ma) : JJ Sa Ma := by
  obtain ⟨a1, a2, a3, a4, a5, a6, a7, a8, a9, a10, a11, a12, a13, a14⟩ := h1
  obtain ⟨b1, b2, b3, b4, b5, b6, b7, b8, b9, b10, b11, b12, b13, b14⟩ := h2
  obtain ⟨c1, c2, c3, c4, c5, c6, c7, c8, c9, c10, c11, c12, c13, c14⟩ := h3
  obtain ⟨r1, -, r⟩ := h
  obtain ⟨m1, m⟩ := hm
  obtain ⟨-, -, ⟨f1, f2⟩, -⟩ := hs
  refine ⟨by omega, by omega, fun j => ?_, fun j => ?_, fun j => ?_, fun j => ?_, fun j hj => ?_, fun j => ?_, fun j => ?_, fun j => ?_, fun j => ?_, fun j => ?_, fun j => ?_, fun j => ?_⟩
  · rw [c3, b3, a3]; exact (r j).1
  · rw [c4, b4, a4]; exact (r j).2.1
  · rw [c5, b5, a4]; exact (r j).2.2.1
  · rw [c6, b6, a5]; exact (r j).2.2.2.2.1
  · rw [a3] at hj; rw [c7, b7, a6]; exact (r j).2.2.2.2.2.2 hj
  · rw [c8, b8, a9]; exact f2 j
  · rw [c9, b9, a8]; exact f1 j
  · rw [c10, b10, a10]; exact (m j).1
  · rw [c11, b11, a11]; exact (m j).2.1
  · rw [c12, b12, a12]; exact (m j).2.2.1
  · rw [c13, b13, a13]; exact (m j).2.2.2.1
  · rw [c14, b14, a14]; exact (m j).2.2.2.2
theorem J3 {Sa Ma : yS} {t a b c : Int} (ha : asQ Sa t a b c) (ga : a = -1 ∨ 0 ≤ a) (gb : b = -1 ∨ 0 ≤ b) (gc : c = -1 ∨ 0 ≤ c) (o1 : a ≠ -1 ∨ b = -1) (o2 : b ≠ -1 ∨ c = -1) (e44 : ∀ j, Ma.a 44 j = Sa.a 2 j) : diC Sa (Sa.f 17 7) ↔ ¬ r3M Ma a b c := by
  obtain ⟨-, h0, h1, h2, hc⟩ := ha
  unfold r3M
  rw [e44, e44, e44]
  constructor
  · intro hd
    have d0 : 0 < Sa.f 17 7 → Sa.a 2 a.toNat ≠ 0 := fun q => by
      have w := (hd 0 (by omega)).1
      rw [h0] at w
      exact w
    have d1 : 1 < Sa.f 17 7 → Sa.a 2 b.toNat ≠ 0 ∧ b ≠ a := fun q => by
      have w := hd 1 (by omega)
      have w2 := w.2 0 (by omega)
      have w1 := w.1
      rw [h1] at w1 w2
      rw [h0] at w2
      exact ⟨w1, w2⟩
    have d2 : 2 < Sa.f 17 7 → Sa.a 2 c.toNat ≠ 0 ∧ c ≠ a ∧ c ≠ b := fun q => by
      have w := hd 2 (by omega)
      have w2 := w.2 0 (by omega)
      have w3 := w.2 1 (by omega)
      have w1 := w.1
      rw [h2] at w1 w2 w3
      rw [h0] at w2
      rw [h1] at w3
      exact ⟨w1, w2, w3⟩
    omega
  · intro hn i hi
    rcases (show i = 0 ∨ i = 1 ∨ i = 2 by omega) with rfl | rfl | rfl
    · rw [h0]
      exact ⟨by omega, fun j hj => absurd hj (by omega)⟩
    · rw [h1]
      refine ⟨by omega, fun j hj => ?_⟩
      have e : j = 0 := by omega
      subst e
      rw [h0]
      omega
    · rw [h2]
      refine ⟨by omega, fun j hj => ?_⟩
      rcases (show j = 0 ∨ j = 1 by omega) with rfl | rfl
      · rw [h0]; omega
      · rw [h1]; omega
theorem J4 {Sa Ma : yS} {t a b c : Int} (ha : asQ Sa t a b c) (ga : a = -1 ∨ 0 ≤ a) (gb : b = -1 ∨ 0 ≤ b) (gc : c = -1 ∨ 0 ≤ c) (o1 : a ≠ -1 ∨ b = -1) (o2 : b ≠ -1 ∨ c = -1) (e45 : ∀ j, Ma.a 45 j = yand (Sa.a 3 j) 1) (e48 : ∀ j, Ma.a 48 j = Sa.a 4 j) : viC Sa (Sa.f 17 7) ↔ ¬ r4M Ma t a b c := by
  obtain ⟨h6, h0, h1, h2, hc⟩ := ha
  unfold r4M hdM
  rw [e45, e45, e45, e48, e48, e48, e48]
  constructor
  · intro hd
    have d0 : 0 < Sa.f 17 7 → yand (Sa.a 3 a.toNat) 1 ≠ 0 ∨ Sa.a 4 a.toNat = Sa.a 4 t.toNat := fun q => by
      have w := hd 0 (by omega)
      rw [h0, h6] at w
      exact w
    have d1 : 1 < Sa.f 17 7 → yand (Sa.a 3 b.toNat) 1 ≠ 0 ∨ Sa.a 4 b.toNat = Sa.a 4 t.toNat := fun q => by
      have w := hd 1 (by omega)
      rw [h1, h6] at w
      exact w
    have d2 : 2 < Sa.f 17 7 → yand (Sa.a 3 c.toNat) 1 ≠ 0 ∨ Sa.a 4 c.toNat = Sa.a 4 t.toNat := fun q => by
      have w := hd 2 (by omega)
      rw [h2, h6] at w
      exact w
    omega
  · intro hn i hi
    rcases (show i = 0 ∨ i = 1 ∨ i = 2 by omega) with rfl | rfl | rfl
    · rw [h0, h6]; omega
    · rw [h1, h6]; omega
    · rw [h2, h6]; omega
theorem J5 {Sa : yS} {t a b c : Int} (ha : asQ Sa t a b c) (ga : a = -1 ∨ 0 ≤ a) (gb : b = -1 ∨ 0 ≤ b) (gc : c = -1 ∨ 0 ≤ c) (o1 : a ≠ -1 ∨ b = -1) (o2 : b ≠ -1 ∨ c = -1) : rL Sa 18 (Sa.f 17 7).toNat = gl a b c := by
  obtain ⟨-, h0, h1, h2, hc⟩ := ha
  unfold gl
  rcases hc with ⟨q, e⟩ | ⟨q0, q, e⟩ | ⟨q0, q1, q, e⟩ | ⟨q0, q1, q, e⟩
  · rw [e, if_neg (by omega), if_neg (by omega), if_neg (by omega)]; rfl
  · rw [e, if_pos (by omega), if_neg (by omega), if_neg (by omega)]
    show [] ++ [Sa.a 18 0] = _
    rw [h0]; rfl
  · rw [e, if_pos (by omega), if_pos (by omega), if_neg (by omega)]
    show ([] ++ [Sa.a 18 0]) ++ [Sa.a 18 1] = _
    rw [h0, h1]; rfl
  · rw [e, if_pos (by omega), if_pos (by omega), if_pos (by omega)]
    show (([] ++ [Sa.a 18 0]) ++ [Sa.a 18 1]) ++ [Sa.a 18 2] = _
    rw [h0, h1, h2]; rfl
theorem J_ok {Sa Ma : yS} {t : Int} (j : JJ Sa Ma) : okC Sa t = okM Ma t := by
  obtain ⟨-, -, -, -, -, j6, -, -, -, j10, j11, j12, -, -⟩ := j
  funext x m
  unfold okC okM
  have w := @yand_c (Sa.a 12 m) 12 (by decide) (by decide)
  rw [j10, j11, j12, j6, j6]
  exact decide_eq_decide.mpr ⟨fun q => ⟨q.1, q.2.1, by omega, q.2.2.2⟩, fun q => ⟨q.1, q.2.1, by omega, q.2.2.2⟩⟩
theorem J_sm {Sa Ma : yS} (j : JJ Sa Ma) : smC Sa = smM Ma := by
  obtain ⟨-, -, -, -, -, -, -, -, -, -, j11, -, j13, j14⟩ := j
  funext x m
  unfold smC smM
  rw [j11, j11, j13, j13, j14, j14]
theorem J_nf {Sa Ma : yS} (j : JJ Sa Ma) : nfC Sa = nfM Ma := by
  obtain ⟨-, -, -, -, -, -, -, -, -, -, -, j12, -, -⟩ := j
  funext x
  unfold nfC nfM
  have w := @yand_c (Sa.a 12 x.toNat) 16 (by decide) (by decide)
  rw [j12]
  exact decide_eq_decide.mpr ⟨fun q => by omega, fun q => by omega⟩
theorem J_ch {Sa Ma : yS} (j : JJ Sa Ma) : chM Ma = chC Sa := by
  obtain ⟨-, -, -, -, -, -, -, j8, j7, -⟩ := j
  funext t
  unfold chM chC
  rw [chI_eq j8, j7]
theorem J_chn {Sa Ma : yS} {t : Int} (j : JJ Sa Ma) (h : maH Sa) (ht : Sa.f 17 6 = t) : chQ Ma t = chP Sa := by
  obtain ⟨-, -, -, -, -, -, j7, -⟩ := j
  obtain ⟨hr, hf, hb, h2, h5, n20, -⟩ := h
  unfold chQ chP
  rw [ht] at hb h2 ⊢
  refine chn_congr (R := fun x => (0 ≤ x ∧ x < Sa.f 1 7) ∧ Sa.a 2 x.toNat = 0) (fun x hx hp => ?_) (fun x hx => j7 _ hx.2) 20 t (fun _ => ⟨hb, h2⟩)
  rcases Int.lt_or_le 0 x with p0 | p0
  · have f5 := hf.1 x (by omega) hx.1.2
    have hx1 := hx.1
    refine ⟨⟨f5.1, ?_⟩, hr.2 x (by omega) hx.1.2 hx.2⟩
    have : parC Sa x = Sa.a 5 x.toNat := rfl
    omega
  · have hx1 := hx.1
    have e : x = 0 := by omega
    subst e
    have : parC Sa 0 = Sa.a 5 0 := rfl
    omega
/-- what stands in the way of two methods is the same -/
theorem J_cl {Sa Ma : yS} (j : JJ Sa Ma) (hk : RK Ma) (n20 : Sa.f 1 7 ≤ 20) (hb : ∀ x y : Int, 0 ≤ x → x < Sa.f 1 7 → 0 ≤ y → y ≤ 19 → (bt (Sa.a 6 x.toNat) y ↔ rcM Ma x y)) {l : List Int} (hl : ¬ pr (fun y x => smC Sa x y.toNat = true) l) : pr (clC Sa) l ↔ pr (clM Ma) l := by
  obtain ⟨j1, -, -, -, -, -, -, -, -, -, j11, -, j13, j14⟩ := j
  have key : ∀ x y : Int, 4 ≤ Sa.a 14 x.toNat → 4 ≤ Sa.a 14 y.toNat → (bt (Sa.a 6 (Sa.a 14 y.toNat - 4).toNat) (Sa.a 14 x.toNat - 4) ↔ rcM Ma (Sa.a 14 y.toNat - 4) (Sa.a 14 x.toNat - 4)) := by
    intro x y x4 y4
    have kx := hk x.toNat
    have ky := hk y.toNat
    rw [j14] at kx ky
    exact hb _ _ (by omega) (by omega) (by omega) (by omega)
  constructor
  · refine pr_imp l (fun x _ y _ q => ?_)
    obtain ⟨q1, q2, q3⟩ := q
    refine ⟨by rw [j11, j11]; exact q1.symm, by rw [j13, j13]; exact q2.symm, ?_⟩
    rw [j14, j14]
    rcases q3 with ⟨q3, -⟩ | ⟨⟨q3, q4⟩, q5, q6⟩
    · exact Or.inl (by omega)
    · exact Or.inr ⟨fun w => q5 ((key x y q4 q3).mpr w), fun w => q6 ((key y x q3 q4).mpr w)⟩
  · intro h
    have h2 : pr (fun y x => clC Sa y x ∨ smC Sa x y.toNat = true) l := by
      refine pr_imp l (fun x _ y _ q => ?_) h
      obtain ⟨q1, q2, q3⟩ := q
      rw [j11, j11] at q1
      rw [j13, j13] at q2
      rw [j14, j14] at q3
      by_cases e : Sa.a 14 x.toNat = Sa.a 14 y.toNat
      · exact Or.inr (decide_eq_true ⟨q1, q2, e⟩)
      · refine Or.inl ⟨q1.symm, q2.symm, ?_⟩
        by_cases c4 : 3 < Sa.a 14 y.toNat ∧ 3 < Sa.a 14 x.toNat
        · rcases q3 with q3 | q3
          · exact absurd c4 q3
          · exact Or.inr ⟨⟨by omega, by omega⟩, fun w => q3.1 ((key x y (by omega) (by omega)).mp w), fun w => q3.2 ((key y x (by omega) (by omega)).mp w)⟩
        · exact Or.inl ⟨by omega, fun w => e w.symm⟩
    rcases pr_or l h2 with h3 | h3
    · exact h3
    · exact absurd h3 hl
theorem go_iff {S S1 : yS} {t a b c : Int} (h : S.f 1 7 = S1.f 43 1) : goC S t a b c ↔ goM S1 t a b c := by
  unfold goC goM
  rw [h]
  omega
/-- the answers of the two sides -/
theorem RF_eq {Sa Sb Ma Mb : yS} {t a b c v z : Int} (j : JJ Sa Ma) (ha : asQ Sa t a b c) (hg : goC Sa t a b c) (hr : RI Sa) (hf : FC Sa) (h01 : ∀ j : Nat, Sa.a 2 j = 0 ∨ Sa.a 2 j = 1) (h5 : Sa.a 5 0 < 0) (n20 : Sa.f 1 7 ≤ 20) (hh : mrH Ma) (hb : ∀ x y : Int, 0 ≤ x → x < Sa.f 1 7 → 0 ≤ y → y ≤ 19 → (bt (Sa.a 6 x.toNat) y ↔ rcM Ma x y)) (f0 : 0 ≤ Sb.f 17 12) (hC : rfQ Sa Sb v) (hM : mrQ Ma Mb z t a b c) : v = z ∧ (v = 0 → fnd Sb = (mL Mb).filter (nfM Ma)) := by
  have gt := hg.1
  have ga : a = -1 ∨ 0 ≤ a := by have := hg.2; omega
  have gb : b = -1 ∨ 0 ≤ b := by have := hg.2; omega
  have gc : c = -1 ∨ 0 ≤ c := by have := hg.2; omega
  have o1 : a ≠ -1 ∨ b = -1 := by have := hg.2; omega
  have o2 : b ≠ -1 ∨ c = -1 := by have := hg.2; omega
  have i3 := J3 (Ma := Ma) ha ga gb gc o1 o2 j.2.2.1
  have i4 := J4 (Ma := Ma) ha ga gb gc o1 o2 j.2.2.2.1 j.2.2.2.2.2.1
  have e6 := ha.1
  have i1 : r1C Sa ↔ r1M Ma t := by
    unfold r1C r1M
    have w1 := j.2.2.1 t.toNat
    have w2 := j.2.2.2.2.1 t.toNat
    rw [e6]
    omega
  have iop : ∀ m : Int, opC Sa m t ↔ opM Ma m t := by
    intro m
    unfold opC opM
    rw [j.2.2.2.2.2.2.2.2.2.1, j.2.2.2.2.2.2.2.2.2.2.1, j.2.2.2.2.2.2.2.2.2.2.2.1]
  have i2 : ocY Sa t ↔ oyM Ma t := by
    unfold ocY oyM
    rw [j.2.1]
    exact ⟨fun ⟨m, a, b, q⟩ => ⟨m, a, b, (iop m).mp q⟩, fun ⟨m, a, b, q⟩ => ⟨m, a, b, (iop m).mpr q⟩⟩
  have i2n : ocN Sa (Sa.f 9 8) t → ¬ oyM Ma t := fun q ⟨m, a, b, w⟩ => q m a (by rw [j.2.1]; exact b) ((iop m).mpr w)
  have i2m : onM Ma (Ma.f 43 10) t → ¬ oyM Ma t := fun q ⟨m, a, b, w⟩ => q m a b w
  unfold rfQ paC at hC
  unfold mrQ paM at hM
  rw [e6] at hC
  rcases hC with ⟨v1, a1⟩ | ⟨v1, a1, a2⟩ | ⟨v1, a1, a2, a3⟩ | ⟨v1, a1, a2, a3, a4⟩ | ⟨⟨a1, a2, a3, a4⟩, S2, b1, b2, b3, b4, b5⟩
  · have m1 := i1.mp a1
    rcases hM with ⟨z1, -⟩ | ⟨z1, c1, -⟩ | ⟨z1, c1, -⟩ | ⟨z1, c1, -⟩ | ⟨⟨c1, -⟩, -⟩
    · exact ⟨by omega, fun q => by omega⟩
    · exact absurd m1 c1
    · exact absurd m1 c1
    · exact absurd m1 c1
    · exact absurd m1 c1
  · have m1 : ¬ r1M Ma t := fun q => a1 (i1.mpr q)
    have m2 := i2n a2
    rcases hM with ⟨z1, c1⟩ | ⟨z1, -⟩ | ⟨z1, c1, c2, -⟩ | ⟨z1, c1, c2, -⟩ | ⟨⟨c1, c2, -⟩, -⟩
    · exact absurd c1 m1
    · exact ⟨by omega, fun q => by omega⟩
    · exact absurd c2 m2
    · exact absurd c2 m2
    · exact absurd c2 m2
  · have m1 : ¬ r1M Ma t := fun q => a1 (i1.mpr q)
    have m2 := i2.mp a2
    rcases hM with ⟨z1, c1⟩ | ⟨z1, c1, c2⟩ | ⟨z1, -⟩ | ⟨z1, c1, c2, c3, -⟩ | ⟨⟨c1, c2, c3, -⟩, -⟩
    · exact absurd c1 m1
    · exact absurd m2 (i2m c2)
    · exact ⟨by omega, fun q => by omega⟩
    · exact absurd (i3.mpr c3) a3
    · exact absurd (i3.mpr c3) a3
  · have m1 : ¬ r1M Ma t := fun q => a1 (i1.mpr q)
    have m2 := i2.mp a2
    have m3 := i3.mp a3
    rcases hM with ⟨z1, c1⟩ | ⟨z1, c1, c2⟩ | ⟨z1, c1, c2, c3⟩ | ⟨z1, -⟩ | ⟨⟨c1, c2, c3, c4⟩, -⟩
    · exact absurd c1 m1
    · exact absurd m2 (i2m c2)
    · exact absurd c3 m3
    · exact ⟨by omega, fun q => by omega⟩
    · exact absurd (i4.mpr c4) a4
  · have m1 : ¬ r1M Ma t := fun q => a1 (i1.mpr q)
    have m2 := i2.mp a2
    have m3 := i3.mp a3
    have m4 := i4.mp a4
    rcases hM with ⟨z1, c1⟩ | ⟨z1, c1, c2⟩ | ⟨z1, c1, c2, c3⟩ | ⟨z1, c1, c2, c3, c4⟩ | ⟨-, d1, d2, d3, d4⟩
    · exact absurd c1 m1
    · exact absurd m2 (i2m c2)
    · exact absurd c3 m3
    · exact absurd c4 m4
    · have hma : maH Sa := by
        refine ⟨hr, hf, by rw [e6]; exact gt, ?_, h5, n20, fun q hq => ?_⟩
        · unfold r1C at a1; rw [e6] at a1 ⊢; omega
        · have w1 := (a3 q hq).1
          have w2 := h01 (Sa.a 18 q).toNat
          have w3 := hg.2
          obtain ⟨-, h0, h1, h2, hc⟩ := ha
          rcases (show q = 0 ∨ q = 1 ∨ q = 2 by omega) with rfl | rfl | rfl
          · rw [h0] at w1 w2 ⊢; omega
          · rw [h1] at w1 w2 ⊢; omega
          · rw [h2] at w1 w2 ⊢; omega
      obtain ⟨acc, g1, g2⟩ := FL_of hma b1 b2 b3
      obtain ⟨acc2, k1, k2⟩ := d1
      rw [J_ch j, J_chn j hma e6, ← J5 ha ga gb gc o1 o2] at k1
      have ea := DF_det g1 k1
      subst ea
      have el : mL Mb = caL Sa (chP Sa ++ acc) := by
        rw [k2, J_chn j hma e6]
        unfold maL caL
        rw [← J_ok j, ← J_sm j, j.2.1, e6]
      have eL : fnd Sb = (mL Mb).filter (nfM Ma) := by rw [g2, el, J_nf j]
      refine ⟨?_, fun _ => eL⟩
      have nps : ¬ pr (fun y x => smC Sa x y.toNat = true) (fnd Sb) := by
        intro q
        rw [g2, pr_filter] at q
        refine cAll_npr (ok := okC Sa (Sa.f 17 6)) (sm := smC Sa) (M := (Sa.f 9 8).toNat) (chP Sa ++ acc) [] (fun w => w) ?_
        exact pr_imp _ (fun x _ y _ w => w.2.2) q
      have ic := J_cl j hh.2 n20 hb nps
      have fc := fnd_cl b4 f0
      have mc := mL_cl d2 d3
      rw [← eL] at mc
      have lc : Sb.f 17 12 = ((fnd Sb).length : Int) := by unfold fnd; rw [rL_len]; omega
      have lm : nfa Mb = ((fnd Sb).length : Int) := by
        rw [eL]
        have w : nfM Mb = nfM Ma := by
          funext x
          unfold nfM
          rw [d2]
        rw [← w]
        exact nfN_len _
      rcases d4 hh with ⟨z1, y⟩ | ⟨z1, y, l⟩ | ⟨z1, y, l⟩
      · rcases b5 with ⟨v1, x⟩ | ⟨v1, x, l⟩ | ⟨v1, x, l⟩
        · omega
        · exact absurd (ic.mpr (mc.1 y)) (fc.2 x)
        · exact absurd (ic.mpr (mc.1 y)) (fc.2 x)
      · rcases b5 with ⟨v1, x⟩ | ⟨v1, x, l2⟩ | ⟨v1, x, l2⟩
        · exact absurd (ic.mp (fc.1 x)) (mc.2 y)
        · omega
        · omega
      · rcases b5 with ⟨v1, x⟩ | ⟨v1, x, l2⟩ | ⟨v1, x, l2⟩
        · exact absurd (ic.mp (fc.1 x)) (mc.2 y)
        · omega
        · omega
theorem FO_eq {S S1 S2 : yS} {t a b c k z : Int} (h : RT S) (hs : RS S) (hm : RMe S) (hi : RI S) (hk : RK S) (h3 : ∀ j : Nat, S.a 49 j < j) (n20 : S.f 1 7 ≤ 20) (hC : hFo S S1 t a b c k) (e1 : sMa S S1) (hM : mfQ S1 S2 z t a b c) : S2.f 43 0 = k ∧ (k = 0 → S1.a 81 (0 : Int).toNat = z) := by
  have en : S.f 1 7 = S1.f 43 1 := by rw [e1.1]; exact h.1
  have gi := go_iff (S := S) (S1 := S1) (t := t) (a := a) (b := b) (c := c) en
  rcases hC with ⟨k0, g, Sa, Sb, ha, hsa, hr, f0⟩ | ⟨k1, g⟩
  · rcases hM with ⟨m0, g2⟩ | ⟨m0, g2, Ma, Mb, hma, hmr⟩
    · exact absurd (gi.mp g) g2
    · refine ⟨by omega, fun _ => ?_⟩
      have j := JJ_of h hs hm hsa e1 hma
      obtain ⟨a1, a2, a3, a4, a5, a6, a7, a8, a9, -⟩ := id hsa
      obtain ⟨b1, b2, b3, b4, b5, b6, b7, b8, b9, b10, b11, b12, b13, b14⟩ := e1
      obtain ⟨c1, c2, c3, c4, c5, c6, c7, c8, c9, c10, c11, c12, c13, c14⟩ := hma
      have hT : sT S Sa := ⟨a1, fun j => ⟨a3 j, a6 j, a8 j, a9 j⟩⟩
      have e49 : ∀ j, Ma.a 49 j = S.a 49 j := fun j => (c7 j).trans (b7 j)
      have e50 : ∀ j, Ma.a 50 j = S.a 50 j := fun j => (c8 j).trans (b8 j)
      have e51 : ∀ j, Ma.a 51 j = S.a 51 j := fun j => (c9 j).trans (b9 j)
      have e431 : Ma.f 43 1 = S.f 43 1 := by omega
      have hFM := FM_of h hs h3 e431 e49 e50 e51
      have hRK : RK Ma := fun q => by rw [c14, b14, e431]; exact hk q
      have h5 : S.a 5 0 < 0 := by
        have w := (h.2.2 0).2.2.2.2.2.2 h.2.1.1
        have w2 := h3 0
        omega
      refine (RF_eq j ha ?_ (sT_RI hT hi) (sT_FC hT hs.1) (fun q => by rw [a3]; exact hs.2.2.2.1 q) (by rw [a6]; exact h5) (by omega) ⟨hFM, hRK⟩ (fun x y x0 x1 y0 y1 => ?_) f0 hr hmr).1
      · unfold goC at g ⊢; rw [a1]; exact g
      · rw [a7]
        exact (hs.2.1 x y x0 (by omega) y0 y1).trans (rcC_M h hs h3 x0 (by omega) e431 e49 e50 e51)
  · rcases hM with ⟨m0, g2⟩ | ⟨m0, g2, -⟩
    · exact ⟨by omega, fun q => absurd q (by omega)⟩
    · exact absurd (gi.mpr g2) g
theorem mr0 {S S1 : yS} {z c a b e : Int} (h : mrQ S S1 z c a b e) (hz : z = 0) : mrQ S S1 0 c a b e := by
  rw [hz] at h
  exact h
theorem RI_type {S S1 : yS} {b fl p up k : Int} {MF1 : List (Nat × Nat)} {MA1 : List Nat} (h : RI S) (hf : FC S) (n4 : 4 ≤ S.f 1 7) (hC : hTy S S1 b fl p up k) (hF1 : yFr MF1 MA1 S S1) (s2 : ydj1 [7, 8] MA1 = true) : RI S1 := by
  have e7 : ∀ j, S1.a 7 j = S.a 7 j := hF1.a (ydj1_of s2 rfl)
  have e8 : ∀ j, S1.a 8 j = S.a 8 j := hF1.a (ydj1_of s2 rfl)
  rcases hC with ⟨-, ht, -, -, hc⟩ | ⟨-, -, e1, e2⟩ | ⟨-, -, -, e1, e2⟩
  · obtain ⟨c1, c2, -, -, c5⟩ := hc
    have q2 : ∀ x : Int, 0 ≤ x → x < S.f 1 7 → S1.a 2 x.toNat = S.a 2 x.toNat := fun x x0 x1 => (c2 _).trans (ysa_ne (Or.inr (by omega)))
    have q5 : ∀ x : Int, 0 ≤ x → x < S.f 1 7 → S1.a 5 x.toNat = S.a 5 x.toNat := fun x x0 x1 => (c5 _).trans (ysa_ne (Or.inr (by omega)))
    refine ⟨fun x i x0 x1 i0 i1 => ?_, fun x x0 x1 x2 => ?_⟩
    · rw [e7] at i1
      rw [e8]
      rcases Int.lt_or_le x (S.f 1 7) with w | w
      · have g := hf.2.1 x i x0 w i0 i1
        rw [q2 _ g.1 g.2]
        exact h.1 x i x0 w i0 i1
      · have g := hf.2.2 x w
        omega
    · rcases Int.lt_or_le x (S.f 1 7) with w | w
      · have g := hf.1 x x0 w
        rw [q2 x (by omega) w] at x2
        rw [q5 x (by omega) w, q2 _ g.1 (by omega)]
        exact h.2 x x0 w x2
      · have e : x = S.f 1 7 := by omega
        subst e
        have b0 : b = 0 := by
          rw [c2, ysa_eq] at x2
          exact x2
        rw [c5, ysa_eq]
        unfold tyC at ht
        rw [q2 up (by omega) (by omega)]
        omega
  · unfold RI at h ⊢
    rw [e1, e2]
    exact h
  · unfold RI at h ⊢
    rw [e1, e2]
    exact h
theorem RI_impl {S S1 : yS} {t f k : Int} {MF1 : List (Nat × Nat)} {MA1 : List Nat} (h : RI S) (hb : B2 S) (a7 : ∀ j, 0 ≤ S.a 7 j ∧ S.a 7 j ≤ 4) (hC : hIm S S1 t f k) (hF1 : yFr MF1 MA1 S S1) (s1 : ydj2 [(1, 7)] MF1 = true) (s2 : ydj1 [2, 5] MA1 = true) : RI S1 := by
  have e2 : ∀ j, S1.a 2 j = S.a 2 j := hF1.a (ydj1_of s2 rfl)
  have e5 : ∀ j, S1.a 5 j = S.a 5 j := hF1.a (ydj1_of s2 rfl)
  have e1 : S1.f 1 7 = S.f 1 7 := hF1.f (ydj2_of s1 rfl)
  rcases hC with ⟨-, hi, ⟨c7, c8⟩, -⟩ | ⟨-, -, e1, e2⟩
  · refine ⟨fun x i x0 x1 i0 i1 => ?_, fun x x0 x1 x2 => ?_⟩
    · rw [e2]
      rw [e1] at x1
      have w7 := a7 t.toNat
      have i3 := hi.2.2.1
      have b3 := hb.1 f.toNat
      have t0 := hi.1.1
      by_cases q : x = t
      · subst q
        rw [c7, ysa_eq] at i1
        by_cases qi : i = S.a 7 x.toNat
        · have e : (4 * x + i).toNat = (x * 4 + S.a 7 x.toNat).toNat := by omega
          rw [e, c8, ysa_eq]
          omega
        · rw [c8, ysa_ne (Or.inr (by omega))]
          exact h.1 x i x0 x1 i0 (by omega)
      · rw [c7, ysa_ne (Or.inr (by omega))] at i1
        have w8 := a7 x.toNat
        rw [c8, ysa_ne (Or.inr (by have := hi.2.2.2.2.1; omega))]
        exact h.1 x i x0 x1 i0 i1
    · rw [e2] at x2
      rw [e2, e5]
      rw [e1] at x1
      exact h.2 x x0 x1 x2
  · unfold RI at h ⊢
    rw [e1, e2]
    exact h
theorem RK_type {S S1 : yS} {b fl p up z : Int} {MF1 : List (Nat × Nat)} {MA1 : List Nat} (h : RK S) (hM : mTyQ S S1 b fl p up z) (hF1 : yFr MF1 MA1 S S1) (s2 : ydj1 [56] MA1 = true) : RK S1 := by
  have e : ∀ j, S1.a 56 j = S.a 56 j := hF1.a (ydj1_of s2 rfl)
  have e1 : S.f 43 1 ≤ S1.f 43 1 := by
    rcases hM with ⟨-, -, -, -, o, f, a, u, -, c1, -⟩ | ⟨-, -, c1, -⟩ | ⟨-, -, -, c1, -⟩
    · omega
    · omega
    · omega
  intro j
  rw [e]
  have := h j
  omega
theorem RK_meth {S S1 : yS} {t w fl p b z : Int} {MF1 : List (Nat × Nat)} {MA1 : List Nat} (h : RK S) (n4 : 4 ≤ S.f 43 1) (hM : mMeQ S S1 t w fl p b z) (hF1 : yFr MF1 MA1 S S1) (s1 : ydj2 [(43, 1)] MF1 = true) : RK S1 := by
  have e1 : S1.f 43 1 = S.f 43 1 := hF1.f (ydj2_of s1 rfl)
  intro j
  rw [e1]
  rcases hM with ⟨-, hb, -, -, hc⟩ | ⟨-, -, hc⟩ | ⟨-, -, -, hc⟩
  · obtain ⟨-, -, -, -, -, c5⟩ := hc
    rw [c5]
    by_cases q : j = (S.f 43 10).toNat
    · rw [q, ysa_eq]
      have w1 := hb.2.2.2.2.1
      rcases Int.lt_or_le 0 b with g | g
      · have := w1.2 g
        unfold kdC at this
        omega
      · omega
    · rw [ysa_ne (Or.inr q)]
      exact h j
  · rw [(hc.2 j).2.2.2.2]; exact h j
  · rw [(hc.2 j).2.2.2.2]; exact h j
end XNC
