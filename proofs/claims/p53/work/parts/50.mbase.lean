/-! the reference: small helpers -/
abbrev LE1 {a b : Nat} (h : Nat.ble a b = true) : a ≤ b := Nat.le_of_ble_eq_true h
/-- how many of the places 0 .. k - 1 are in a set -/
def bitsN (S : Nat) : Nat → Nat
  | 0 => 0
  | k + 1 => bitsN S k + (if S.testBit k then 1 else 0)
theorem bitsN_le (S k : Nat) : bitsN S k ≤ k := by
  induction k with
  | zero => exact Nat.le_refl _
  | succ k ih => rw [bitsN]; split <;> omega
abbrev pc8 (S : Nat) : Nat := bitsN S 8
section MB
variable {X : xX} {c : xCx} {I : xIn}
end MB
