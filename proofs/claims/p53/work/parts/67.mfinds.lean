/-! the reference finds the told flow -/
def kpM (I J : xIn) : Prop := kp [(1, 17), (1, 18)] I J
section MS
variable {X : xX} {c : xCx} {I : xIn} {i : Nat} {G : Gr} {lo hi : Nat → Int} {s t : Nat}
end MS
