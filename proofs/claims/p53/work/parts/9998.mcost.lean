/-! the reference: least costs from a corner, rings -/
theorem c32_ok {m : Nat} (hm : m ≤ 16) : SgOK m 32 c32 := by
  refine ⟨fun j hj => ?_, fun i j hi hj h => ?_, fun σ h1 h2 => ?_⟩
  · unfold c32; split <;> omega
  · unfold c32 at h
    split at h <;> split at h <;> omega
  · have := c32_s (τ := σ) (by omega)
    exact ⟨s16 σ, this.2.1, this.1⟩
def srcB (a : Int) (x : Nat) : Bool := decide (a < 0 ∨ (x : Int) = a)
section MCS
variable {X : xX} {c : xCx} {I : xIn} {i : Nat} {G : Gr} {lo hi co f : Nat → Int}
end MCS
