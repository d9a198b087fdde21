/-! what the reference refuses -/
def inB (a n : Int) : Bool := decide (0 ≤ a ∧ a ≤ n - 1)
theorem inB_t {a n : Int} (h : inB a n = true) : 0 ≤ a ∧ a < n := by have := of_decide_eq_true h; omega
def twoB (n s t : Int) : Bool := inB s n && inB t n && decide (s ≠ t)
section MO
variable {X : xX} {c : xCx} {I : xIn}
end MO
