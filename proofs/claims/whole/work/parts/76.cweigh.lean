/-! the class weighs a set -/
section CW
variable {X : xX} {c : xCx} {I : xIn} {i : Nat} {G : Gr}
def pOut (G : Gr) (b : Nat → Int) (S k : Nat) : Int := sumE k (fun e => if lvs G S e then b e else 0)
def pIn (G : Gr) (b : Nat → Int) (S k : Nat) : Int := sumE k (fun e => if ens G S e then b e else 0)
theorem pOut_bd {G : Gr} {b : Nat → Int} {S k : Nat} (hk : k ≤ 16) (hb : ∀ e, e < k → 0 ≤ b e ∧ b e ≤ 99) : 0 ≤ pOut G b S k ∧ pOut G b S k ≤ 1600 := by
  have h := sumE_bd (n := k) (f := fun e => if lvs G S e then b e else 0) (a := 0) (b := 100) (fun e he => by have := hb e he; split <;> omega)
  unfold pOut
  omega
theorem pIn_bd {G : Gr} {b : Nat → Int} {S k : Nat} (hk : k ≤ 16) (hb : ∀ e, e < k → 0 ≤ b e ∧ b e ≤ 99) : 0 ≤ pIn G b S k ∧ pIn G b S k ≤ 1600 := by
  have h := sumE_bd (n := k) (f := fun e => if ens G S e then b e else 0) (a := 0) (b := 100) (fun e he => by have := hb e he; split <;> omega)
  unfold pIn
  omega
end CW
