/-! the reference: the cheapest row, costs and prices -/
section MCH
variable {X : xX} {c : xCx} {I : xIn} {i : Nat} {G : Gr} {lo hi co : Nat → Int} {s t : Nat}
theorem srcB_neg {a : Int} (h : a < 0) : srcB a = fun _ => true := funext fun x => decide_eq_true (Or.inl h)
theorem srcB_nat (s : Nat) : srcB (s : Int) = fun x => x == s := funext fun x => by
  unfold srcB
  by_cases h : x = s
  · rw [h, decide_eq_true (Or.inr rfl)]; simp
  · rw [decide_eq_false (by rintro (q | q) <;> omega)]
    simp [h]
end MCH
