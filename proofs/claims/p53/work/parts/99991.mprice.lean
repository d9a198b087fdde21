/-! the reference's cost, cheapest and price -/
section MPR
variable {X : xX} {c : xCx} {I : xIn} {T : NT} {a s t e x : Int}
end MPR
