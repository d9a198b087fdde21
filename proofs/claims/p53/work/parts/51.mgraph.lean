/-! graphs: n corners, m edges, from, to -/
abbrev Gr : Type := Nat × Nat × (Nat → Nat) × (Nat → Nat)
abbrev Gr.n (G : Gr) : Nat := G.1
abbrev Gr.m (G : Gr) : Nat := G.2.1
abbrev Gr.u (G : Gr) : Nat → Nat := G.2.2.1
abbrev Gr.v (G : Gr) : Nat → Nat := G.2.2.2
def GrOK (G : Gr) : Prop := 2 ≤ G.n ∧ G.n ≤ 8 ∧ G.m ≤ 16 ∧ ∀ e, e < G.m → G.u e < G.n ∧ G.v e < G.n ∧ G.u e ≠ G.v e
/-- the edge e leads from a set, into a set -/
def lvs (G : Gr) (S e : Nat) : Bool := S.testBit (G.u e) && !S.testBit (G.v e)
def ens (G : Gr) (S e : Nat) : Bool := !S.testBit (G.u e) && S.testBit (G.v e)
def sOut (G : Gr) (b : Nat → Int) (S : Nat) : Int := sumE G.m (fun e => if lvs G S e then b e else 0)
def sIn (G : Gr) (b : Nat → Int) (S : Nat) : Int := sumE G.m (fun e => if ens G S e then b e else 0)
theorem sOut_bd {G : Gr} (hG : G.m ≤ 16) {b : Nat → Int} {S : Nat} {z : Int} (hz : 0 ≤ z) (hb : ∀ e, e < G.m → -z ≤ b e ∧ b e ≤ z) : -(16 * z) ≤ sOut G b S ∧ sOut G b S ≤ 16 * z := by
  have h := sumE_bd (n := G.m) (f := fun e => if lvs G S e then b e else 0) (a := -z) (b := z) (fun e he => by have := hb e he; split <;> omega)
  have h1 : (G.m : Int) * z ≤ 16 * z := Int.mul_le_mul_of_nonneg_right (by omega) hz
  have h2 : (G.m : Int) * -z = -((G.m : Int) * z) := Int.mul_neg _ _
  unfold sOut
  omega
theorem sIn_bd {G : Gr} (hG : G.m ≤ 16) {b : Nat → Int} {S : Nat} {z : Int} (hz : 0 ≤ z) (hb : ∀ e, e < G.m → -z ≤ b e ∧ b e ≤ z) : -(16 * z) ≤ sIn G b S ∧ sIn G b S ≤ 16 * z := by
  have h := sumE_bd (n := G.m) (f := fun e => if ens G S e then b e else 0) (a := -z) (b := z) (fun e he => by have := hb e he; split <;> omega)
  have h1 : (G.m : Int) * z ≤ 16 * z := Int.mul_le_mul_of_nonneg_right (by omega) hz
  have h2 : (G.m : Int) * -z = -((G.m : Int) * z) := Int.mul_neg _ _
  unfold sIn
  omega
theorem tn16 (i e : Nat) : Int.toNat (16 * (i : Int) + (e : Int)) = 16 * i + e := by omega
section MB
variable {X : xX} {c : xCx} {I : xIn} {i : Nat} {G : Gr} {lo hi : Nat → Int}
end MB
