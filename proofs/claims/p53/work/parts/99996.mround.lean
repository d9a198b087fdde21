/-! the reference: rounding, number by number -/
section RAL
variable {X : xX} {c : xCx} {I : xIn} {B : TB}
end RAL
section RAM
variable {X : xX} {c : xCx} {I : xIn} {B : TB}
theorem inB_in {a : Int} {n : Nat} : decide (0 ≤ a ∧ a ≤ (n : Int) - 1) = inB a n := rfl
end RAM
