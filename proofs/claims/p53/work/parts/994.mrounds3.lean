/-! the reference's rounds, roundAmount, roundSign -/
section MRG
variable {X : xX} {c : xCx} {I : xIn} {T : NT} {a s t r x : Int}
theorem wrongRT_c (T : NT) (a s t : Int) : 0 ≤ wrongRT T a s t ∧ wrongRT T a s t ≤ 3 := by
  have := wrong_c T a s t
  unfold wrongRT
  split
  · omega
  · split <;> omega
def noLk (lo : Nat → Int) (k : Nat) : Bool := decide (ff (fun e => decide (lo e ≠ 0)) k = -1)
theorem noLk_s (lo : Nat → Int) (k : Nat) : noLk lo (k + 1) = (noLk lo k && decide (lo k = 0)) := by
  unfold noLk
  rw [ff]
  by_cases h : ff (fun e => decide (lo e ≠ 0)) k = -1
  · rw [if_pos h, h]
    by_cases h0 : lo k = 0
    · rw [if_neg (by rw [decide_eq_true_eq]; omega), decide_eq_true h0]; rfl
    · rw [if_pos (decide_eq_true h0), decide_eq_false h0, decide_eq_false (by omega)]; rfl
  · rw [if_neg h, decide_eq_false h]; rfl
theorem wrongRT_00 (h : wrongRT T a s t ≤ 0) : wrongT T a s t = 0 ∧ noL (T.G (Int.toNat a)) (T.lo (Int.toNat a)) = true := by
  have hwc := wrong_c T a s t
  unfold wrongRT at h
  by_cases h1 : 0 < wrongT T a s t
  · rw [if_pos h1] at h; omega
  · rw [if_neg h1] at h
    refine ⟨by omega, ?_⟩
    cases h2 : noL (T.G (Int.toNat a)) (T.lo (Int.toNat a))
    · rw [h2] at h; exact absurd h (by decide)
    · rfl
end MRG
