/-! the reference: tables -/
def nearB (s d : Int) : Bool := decide (d / 10 ≤ s ∧ s ≤ (d + 9) / 10)
theorem nearB_i {s d : Int} : nearB s d = true ↔ nearv s d := by unfold nearB nearv; rw [decide_eq_true_iff]
theorem tnC (k a b : Nat) : Int.toNat ((k : Int) * (a : Int) + (b : Int)) = a * k + b := by rw [Int.mul_comm, cast_cell, tnN]
theorem castC (k a b : Nat) : (k : Int) * (a : Int) + (b : Int) = ((a * k + b : Nat) : Int) := by rw [Int.mul_comm, cast_cell]
section BKP
variable {r k : Nat} {te w z : Nat → Int}
def LxP (z w : Nat → Int) (p : Nat) : Prop := ∃ j, j ≤ p ∧ (∀ q, q < j → w q = z q) ∧ w j < z j
def EqP (z w : Nat → Int) (p : Nat) : Prop := ∀ q, q ≤ p → w q = z q
def BkA (r k : Nat) (te w : Nat → Int) (p : Nat) : Prop := (∀ q, q ≤ p → q < r * k → nearv (w q) (te q)) ∧ ∀ q, q < p → NearAt r k te w q
def bkM (r k : Nat) (te w : Nat → Int) (n : Nat) : Int := sumE n (fun q => if w q = te q / 10 then ((8 ^ (r * k - q) : Nat) : Int) else 3 * ((8 ^ (r * k - q) : Nat) : Int))
theorem pw8 {n : Nat} (hn : n ≤ 16) : 1 ≤ ((8 ^ n : Nat) : Int) ∧ ((8 ^ n : Nat) : Int) ≤ 281474976710656 := by
  have h1 : 0 < 8 ^ n := Nat.pow_pos (by decide)
  have h2 : 8 ^ n ≤ 8 ^ 16 := Nat.pow_le_pow_right (by decide) hn
  have h3 : (8 : Nat) ^ 16 = 281474976710656 := by decide
  omega
theorem bkM_bd (hrk : r * k ≤ 16) (n : Nat) (hn : n ≤ 16) : 0 ≤ bkM r k te w n ∧ bkM r k te w n ≤ 13510798882111488 := by
  have := sumE_bd (n := n) (f := fun q => if w q = te q / 10 then ((8 ^ (r * k - q) : Nat) : Int) else 3 * ((8 ^ (r * k - q) : Nat) : Int)) (a := 0) (b := 844424930131968) fun q hq => by
    have := pw8 (n := r * k - q) (by omega)
    show 0 ≤ (if w q = te q / 10 then ((8 ^ (r * k - q) : Nat) : Int) else 3 * ((8 ^ (r * k - q) : Nat) : Int)) ∧ (if w q = te q / 10 then ((8 ^ (r * k - q) : Nat) : Int) else 3 * ((8 ^ (r * k - q) : Nat) : Int)) ≤ 844424930131968
    split <;> omega
  unfold bkM
  omega
theorem bkM_cong {v : Nat → Int} {n : Nat} (h : ∀ q, q < n → w q = v q) : bkM r k te w n = bkM r k te v n := sumE_cong fun q hq => by rw [h q hq]
theorem bkM_s (n : Nat) : bkM r k te w (n + 1) = bkM r k te w n + if w n = te n / 10 then ((8 ^ (r * k - n) : Nat) : Int) else 3 * ((8 ^ (r * k - n) : Nat) : Int) := rfl
theorem pw8_s {p : Nat} (h1 : 1 ≤ p) (hp : p ≤ r * k) : ((8 ^ (r * k - (p - 1)) : Nat) : Int) = 8 * ((8 ^ (r * k - p) : Nat) : Int) := by
  rw [show r * k - (p - 1) = (r * k - p) + 1 by omega, Nat.pow_succ]
  omega
theorem LxP_up {p : Nat} (v : Nat → Int) (h : ∀ q, q ≤ p → v q = w q) (hl : LxP z w p) : LxP z v (p + 1) := by
  obtain ⟨j, j1, j2, j3⟩ := hl
  exact ⟨j, by omega, fun q hq => by rw [h q (by omega)]; exact j2 q hq, by rw [h j j1]; exact j3⟩
end BKP
section TBM
variable {X : xX} {c : xCx} {I : xIn} {B : TB}
theorem sum_bd9 {n : Nat} {f : Nat → Int} {b : Int} (hn : n ≤ 16) (hb : 0 ≤ b ∧ b ≤ 1000) (h : ∀ x, x < n → -b ≤ f x ∧ f x ≤ b) : -16000 ≤ sumE n f ∧ sumE n f ≤ 16000 := by
  have := sumE_bd (n := n) (f := f) (a := -1000) (b := 1000) fun x hx => by have := h x hx; omega
  omega
variable {r k : Nat} {w te : Nat → Int}
end TBM
