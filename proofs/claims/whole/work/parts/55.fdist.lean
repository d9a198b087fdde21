theorem q12 {I J : xIn} (h : kp [(0, 12)] I J) {p : xP} (hp : p ≠ (0, 12)) : J p = I p := h p (fun z => hp (List.mem_singleton.mp z))
section FD
variable {X : xX} {c : xCx} {I : xIn} {G : Gr}
theorem fl_setDistances (hX : xBase X) (d : Nat) (hF : FR I G) {s t : Nat} (hs : s < G.n) (ht : t < G.n) : xRet rU X m_X1_setDistances d [xr (0, 3), xi (s : Int), xi (t : Int)] c I 0 0 (fun _ I9 => True) xNo := by
  sorry
theorem fl_setDistances1 (hX : xBase X) (d : Nat) (hF : FR I G) {s t : Nat} (hs : s < G.n) (ht : t < G.n) : xRet rU X m_X1_setDistances d [xr (0, 3), xi (s : Int), xi (t : Int)] c I 0 0 (fun _ I9 => kp [(0, 12)] I I9 ∧ ∃ k : Nat, k ≤ G.n ∧ LVs G (I (0, 9)) (I (0, 10)) (I (0, 11)) t k (I9 (0, 12)) ∧ (I9 (0, 12) s = (k : Int) ∨ (I9 (0, 12) s = FAR9 ∧ k = G.n))) xNo := by
  sorry
end FD
