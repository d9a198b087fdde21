/-! the reference: small helpers -/
abbrev LE1 {a b : Nat} (h : Nat.ble a b = true) : a ≤ b := Nat.le_of_ble_eq_true h
/-- how many of the places 0 .. k - 1 are in a set -/
def bitsN (S : Nat) : Nat → Nat
  | 0 => 0
  | k + 1 => bitsN S k + (if S.testBit k then 1 else 0)
theorem bitsN_le (S k : Nat) : bitsN S k ≤ k := by
  induction k with
  | zero => exact Nat.le_refl _
  | succ k ih => rw [bitsN]; split <;> omega
abbrev pc8 (S : Nat) : Nat := bitsN S 8
section MB
variable {X : xX} {c : xCx} {I : xIn}
theorem ok_has (hX : xBase X) (d : Nat) {a k : Int} {S x : Nat} (ha : a = S) (hk : k = x) (hS : S ≤ 2147483647) (hx : x < 32) : xRet rB X m_X10_has d [xi a, xi k] c I 0 0 (pv (S.testBit x) I) xNo := by
  subst ha hk
  refine xRet_of hX pl_X10_has (LE1 rfl) fun V hV => rg_X10_has_0 hV I _ _ ?_
  rw [v_bit hS hx]
  cases h : S.testBit x <;> simp [xbi, pv]
theorem ok_in (hX : xBase X) (d : Nat) {a b e : Int} (ha : xin a) (hb : xin b) (he : xin e) : xRet rB X m_X10_in d [xi a, xi b, xi e] c I 0 0 (pv (decide (b ≤ a ∧ a ≤ e)) I) xNo := by
  refine xRet_of hX pl_X10_in (LE1 rfl) fun V hV => rg_X10_in_0 hV I _ _ _ ⟨ha, hb, fun h => pvI ?_, fun h => ⟨he, fun h2 => pvI ?_, fun h2 => pvI ?_⟩⟩
  · symm; rw [decide_eq_false_iff_not]; omega
  · symm; rw [decide_eq_false_iff_not]; omega
  · symm; rw [decide_eq_true_iff]; omega
theorem ok_min (hX : xBase X) (d : Nat) {a b : Int} (ha : xin a) (hb : xin b) : xRet rI X m_X10_min d [xi a, xi b] c I 0 0 (pv (min a b) I) xNo :=
  xRet_of hX pl_X10_min (LE1 rfl) fun V hV => rg_X10_min_0 hV I _ _ ⟨ha, hb, fun h => pvI (by omega), fun h => pvI (by omega)⟩
theorem ok_max (hX : xBase X) (d : Nat) {a b : Int} (ha : xin a) (hb : xin b) : xRet rI X m_X10_max d [xi a, xi b] c I 0 0 (pv (max a b) I) xNo :=
  xRet_of hX pl_X10_max (LE1 rfl) fun V hV => rg_X10_max_0 hV I _ _ ⟨ha, hb, fun h => pvI (by omega), fun h => pvI (by omega)⟩
theorem ok_bits (hX : xBase X) (d : Nat) {a : Int} {S : Nat} (ha : a = S) (hS : S ≤ 2147483647) : xRet rI X m_X10_bits (d + 1) [xi a] c I 0 0 (pv ((pc8 S : Nat) : Int) I) xNo := by
  subst ha
  refine xRet_of hX pl_X10_bits (LE1 rfl) fun V hV => rg_X10_bits_0 hV I _ ?_
  refine up_to0 (m := 8) (W := fun k => V 4 [(0, xi (S : Int)), (1, xi ((bitsN S k : Nat) : Int)), (2, xi (k : Int))] [] (I, xst c) 0 0) ?_ ?_
  · exact rg_X10_bits_4 hV I _ _ _ ⟨by decide, fun _ => pvI rfl, fun h => absurd h (by decide)⟩
  · intro k hk ih
    rw [bitsN] at ih
    refine rg_X10_bits_4 hV I _ _ _ ⟨⟨by omega, by omega⟩, fun h => by omega, fun _ => ⟨_, ok_has hX d rfl rfl hS (by omega : k < 32), ?_⟩⟩
    rintro _ _ ⟨rfl, rfl⟩
    exact ⟨fun h => by rw [h] at ih; exact ih, fun h => by rw [h] at ih; exact ih⟩
end MB
