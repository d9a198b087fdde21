/-! the reference's flow -/
def wrongET (T : NT) (a s t e : Int) : Int := if inB a T.N then (if inB e (T.G (Int.toNat a)).m then (if twoB (T.G (Int.toNat a)).n s t then 0 else 2) else 1) else 1
theorem wrongE_c (T : NT) (a s t e : Int) : wrongET T a s t e = 0 ∨ wrongET T a s t e = 1 ∨ wrongET T a s t e = 2 := by
  unfold wrongET
  split
  · split
    · split
      · exact Or.inl rfl
      · exact Or.inr (Or.inr rfl)
    · exact Or.inr (Or.inl rfl)
  · exact Or.inr (Or.inl rfl)
theorem wrongE_0 {T : NT} {a s t e : Int} (h : wrongET T a s t e ≤ 0) : ∃ i s9 t9 e9 : Nat, a = i ∧ s = s9 ∧ t = t9 ∧ e = e9 ∧ i < T.N ∧ s9 < (T.G i).n ∧ t9 < (T.G i).n ∧ s9 ≠ t9 ∧ e9 < (T.G i).m := by
  unfold wrongET at h
  by_cases ha : inB a (T.N : Int) = true
  · rw [if_pos ha] at h
    by_cases hb : inB e ((T.G (Int.toNat a)).m : Int) = true
    · rw [if_pos hb] at h
      obtain ⟨i, s9, t9, rfl, rfl, rfl, h1, h2, h3, h4⟩ := wrong_0 (T := T) (a := a) (s := s) (t := t) (by unfold wrongT; rw [if_pos ha]; exact h)
      have hb := inB_t hb
      rw [tnN] at hb
      obtain ⟨e9, rfl⟩ := Int.eq_ofNat_of_zero_le hb.1
      exact ⟨i, s9, t9, e9, rfl, rfl, rfl, rfl, h1, h2, h3, h4, by omega⟩
    · rw [if_neg hb] at h; omega
  · rw [if_neg ha] at h; omega
def flowV (T : NT) (a s t e : Int) : Int × Int := if 0 < wrongET T a s t e then (0, wrongET T a s t e) else if amountF (T.G (Int.toNat a)) (T.lo (Int.toNat a)) (T.hi (Int.toNat a)) (Int.toNat s) (Int.toNat t) = NONE9 then (0, 3) else ((lxF (T.G (Int.toNat a)) (T.lo (Int.toNat a)) (T.hi (Int.toNat a)) (Int.toNat s) (Int.toNat t) (amountF (T.G (Int.toNat a)) (T.lo (Int.toNat a)) (T.hi (Int.toNat a)) (Int.toNat s) (Int.toNat t)) (T.G (Int.toNat a)).m).1 (Int.toNat e), 0)
section MV
variable {X : xX} {c : xCx} {I : xIn} {T : NT}
end MV
