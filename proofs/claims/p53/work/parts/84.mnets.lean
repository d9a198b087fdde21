/-! the reference changes nets -/
section MNM
variable {X : xX} {c : xCx} {I : xIn} {T : NT} {a s t e lo hi co : Int}
end MNM
