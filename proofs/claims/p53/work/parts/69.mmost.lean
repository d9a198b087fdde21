/-! the nets that both sides hold, and the reference's greatest amount -/
abbrev NT : Type := Nat × (Nat → Gr) × (Nat → Nat → Int) × (Nat → Nat → Int) × (Nat → Nat → Int) × (Nat → Nat → Int)
abbrev NT.N (T : NT) : Nat := T.1
abbrev NT.G (T : NT) : Nat → Gr := T.2.1
abbrev NT.lo (T : NT) : Nat → Nat → Int := T.2.2.1
abbrev NT.hi (T : NT) : Nat → Nat → Int := T.2.2.2.1
abbrev NT.co (T : NT) : Nat → Nat → Int := T.2.2.2.2.1
abbrev NT.su (T : NT) : Nat → Nat → Int := T.2.2.2.2.2
def NTok (T : NT) : Prop := T.N ≤ 4 ∧ ∀ i, i < T.N → GrOK (T.G i) ∧ (∀ e, e < (T.G i).m → (0 ≤ T.lo i e ∧ T.lo i e ≤ T.hi i e ∧ T.hi i e ≤ 99) ∧ (-20 ≤ T.co i e ∧ T.co i e ≤ 20)) ∧ ∀ x, x < (T.G i).n → -99 ≤ T.su i x ∧ T.su i x ≤ 99
def wrongT (T : NT) (a s t : Int) : Int := if inB a T.N then (if twoB (T.G (Int.toNat a)).n s t then 0 else 2) else 1
/-- a call that is not refused: numbers of a net and of two corners -/
theorem wrong_0 {T : NT} {a s t : Int} (h : wrongT T a s t ≤ 0) : ∃ i s9 t9 : Nat, a = i ∧ s = s9 ∧ t = t9 ∧ i < T.N ∧ s9 < (T.G i).n ∧ t9 < (T.G i).n ∧ s9 ≠ t9 := by
  unfold wrongT at h
  by_cases ha : inB a (T.N : Int) = true
  · rw [if_pos ha] at h
    have ha := inB_t ha
    obtain ⟨i, rfl⟩ := Int.eq_ofNat_of_zero_le ha.1
    by_cases hb : twoB ((T.G (Int.toNat (i : Int))).n : Int) s t = true
    · unfold twoB at hb
      simp only [Bool.and_eq_true, decide_eq_true_eq, tnN] at hb
      obtain ⟨⟨h1, h2⟩, h3⟩ := hb
      have h1 := inB_t h1
      have h2 := inB_t h2
      obtain ⟨s9, rfl⟩ := Int.eq_ofNat_of_zero_le h1.1
      obtain ⟨t9, rfl⟩ := Int.eq_ofNat_of_zero_le h2.1
      exact ⟨i, s9, t9, rfl, rfl, rfl, by omega, by omega, by omega, by omega⟩
    · rw [if_neg hb] at h; omega
  · rw [if_neg ha] at h; omega
theorem wrong_c (T : NT) (a s t : Int) : wrongT T a s t = 0 ∨ wrongT T a s t = 1 ∨ wrongT T a s t = 2 := by
  unfold wrongT
  split
  · split
    · exact Or.inl rfl
    · exact Or.inr (Or.inr rfl)
  · exact Or.inr (Or.inl rfl)
/-- value and code of most -/
def mostV (T : NT) (a s t : Int) : Int × Int := if 0 < wrongT T a s t then (0, wrongT T a s t) else if amountF (T.G (Int.toNat a)) (T.lo (Int.toNat a)) (T.hi (Int.toNat a)) (Int.toNat s) (Int.toNat t) = NONE9 then (0, 3) else (amountF (T.G (Int.toNat a)) (T.lo (Int.toNat a)) (T.hi (Int.toNat a)) (Int.toNat s) (Int.toNat t), 0)
section MQ
variable {X : xX} {c : xCx} {I : xIn} {T : NT}
end MQ
