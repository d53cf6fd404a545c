set_option linter.unusedVariables false
noncomputable section XNC
/-- the next slot's place -/
def wtop (S : yS) : Int := S.a 60 (S.f 43 20).toNat
theorem wtopX : yXf [(43, 20)] [60] wtop := by
  intro S S' hf ha
  unfold wtop
  rw [hf 43 20 rfl, ha 60 rfl]
theorem wtop_set {S : yS} {z : Int} : wtop (ysa S 60 (S.f 43 20).toNat z) = z := ysa_eq
end XNC
