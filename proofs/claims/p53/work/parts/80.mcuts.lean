/-! the reference's cut, cuts, cutSum -/
section MCU
variable {X : xX} {c : xCx} {I : xIn} {T : NT} {a s t : Int}
end MCU
