/-! the reference's crowd -/
def crowdV (T : NT) (a s t : Int) : Int × Int := if 0 < wrongT T a s t then (0, wrongT T a s t) else if ff (crowdP (T.G (Int.toNat a)) (T.lo (Int.toNat a)) (T.hi (Int.toNat a)) (Int.toNat s) (Int.toNat t)) (2 ^ (T.G (Int.toNat a)).n) = -1 then (0, 3) else (ff (crowdP (T.G (Int.toNat a)) (T.lo (Int.toNat a)) (T.hi (Int.toNat a)) (Int.toNat s) (Int.toNat t)) (2 ^ (T.G (Int.toNat a)).n), 0)
section MR
variable {X : xX} {c : xCx} {I : xIn} {T : NT}
end MR
