/-! the class asks whether a set is a crowd, and sums of cuts -/
theorem pOut_all (G : Gr) (b : Nat → Int) (S : Nat) : pOut G b S G.m = sOut G b S := rfl
theorem pIn_all (G : Gr) (b : Nat → Int) (S : Nat) : pIn G b S G.m = sIn G b S := rfl
section CV
variable {X : xX} {c : xCx} {I : xIn} {i : Nat} {G : Gr}
theorem cu_isCrowd (hX : xBase X) (d : Nat) (hC : CG I c i G) (hN : NB I i G.m) {S : Nat} (hS : S ≤ 2147483647) : xRet rB X m_X0_isCrowd (d + 1) [xr (0, 15), xr (i + 3, 0), xi (S : Int)] c I 0 0 (fun v I9 => kp [(0, 15)] I I9 ∧ v = decide (sIn G (I (i + 3, 4)) S < sOut G (I (i + 3, 3)) S)) xNo := by
  refine xRet_of hX pl_X0_isCrowd (LE1 rfl) fun V hV => rg_X0_isCrowd_0 hV I _ hC.1 _ ⟨_, cu_weigh hX d hC hN hS, ?_⟩
  rintro _ J ⟨a1, w0, w1, w2, w3, -⟩
  rw [w1, w2, pOut_all, pIn_all]
  exact ⟨fun h => ⟨a1, (decide_eq_false (by omega)).symm⟩, fun h => ⟨a1, (decide_eq_true h).symm⟩⟩
end CV
