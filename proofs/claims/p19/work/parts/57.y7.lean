set_option linter.unusedVariables false
noncomputable section XNC
section
variable {P : xP} {G : xk} {ly : List yc} {C i i1 : Nat} {L L1 : List (Option xv)} {st st1 : List xv} {S S1 : yS} {d : Nat} {Q : Nat × xv → yS → Prop}
theorem yT_pad (n : Nat) (k : yT P G ly C i (L ++ List.replicate n none) st S d Q) : yT P G ly C i L st S d Q := by
  refine yT_weak (fun u x hu => ?_) k
  rcases Nat.lt_or_ge u L.length with h | h
  · rw [List.getElem?_append_left h] at hu; exact hu
  · rw [List.getElem?_append_right h, List.getElem?_replicate] at hu
    split at hu
    · cases hu
    · cases hu
/-- locals that are no longer wanted -/
def ydrop : List (Option xv) → List (Option xv) → List (Option xv)
  | a :: l, b :: m => (match b with
    | none => none
    | some _ => a) :: ydrop l m
  | _, _ => []
theorem ydrop_of (l m : List (Option xv)) : ∀ (u : Nat) (x : xv), (ydrop l m)[u]? = some (some x) → l[u]? = some (some x) := by
  induction l generalizing m with
  | nil => intro u x h; cases m <;> cases h
  | cons a l ih =>
    intro u x h
    cases m with
    | nil => cases h
    | cons b m =>
      cases u with
      | zero =>
        cases b with
        | none => cases h
        | some q => exact h
      | succ u =>
        have h : (ydrop l m)[u]? = some (some x) := by simpa [ydrop] using h
        simpa using ih m u x h
theorem yT_drop (h : ydrop L L1 = L1) (k : yT P G ly C i L1 st S d Q) : yT P G ly C i L st S d Q := by
  refine yT_weak (fun u x hu => ?_) k
  rw [← h] at hu
  exact ydrop_of L L1 u x hu
/-- a state by a name -/
theorem yT_gen (k : ∀ S2 : yS, S = S2 → yT P G ly C i L st S2 d Q) : yT P G ly C i L st S d Q := k S rfl
theorem Int.lt_succ_toNat (z : Int) : z < ((z.toNat + 1 : Nat) : Int) := by omega
end
end XNC
