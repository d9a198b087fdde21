/-! the class asks whether a set is a crowd, and sums of cuts -/
theorem pOut_all (G : Gr) (b : Nat → Int) (S : Nat) : pOut G b S G.m = sOut G b S := rfl
theorem pIn_all (G : Gr) (b : Nat → Int) (S : Nat) : pIn G b S G.m = sIn G b S := rfl
section CV
variable {X : xX} {c : xCx} {I : xIn} {i : Nat} {G : Gr}
theorem cu_isCrowd (hX : xBase X) (d : Nat) (hC : CG I c i G) (hN : NB I i G.m) {S : Nat} (hS : S ≤ 2147483647) : xRet rB X m_X0_isCrowd (d + 1) [xr (0, 15), xr (i + 3, 0), xi (S : Int)] c I 0 0 (fun v I9 => kp [(0, 15)] I I9 ∧ v = decide (sIn G (I (i + 3, 4)) S < sOut G (I (i + 3, 3)) S)) xNo := by
  refine xRet_of hX pl_X0_isCrowd (LE1 rfl) fun V hV => rg_X0_isCrowd_0 hV I _ hC.1 _ ⟨_, cu_weigh hX d hC hN hS, ?_⟩
  rintro _ J ⟨a1, w0, w1, w2, w3, -⟩
  rw [w1, w2, pOut_all, pIn_all]
  exact ⟨fun h => ⟨a1, (decide_eq_false (by omega)).symm⟩, fun h => ⟨a1, (decide_eq_true h).symm⟩⟩
theorem cu_sumOfCut (hX : xBase X) (d : Nat) (hC : CG I c i G) (hN : NB I i G.m) {S : Nat} (hS : S ≤ 2147483647) : xRet rI X m_X0_sumOfCut (d + 1) [xr (0, 15), xr (i + 3, 0), xi (S : Int)] c I 0 0 (fun v I9 => kp [(0, 15)] I I9 ∧ (∀ j, 4 ≤ j → I9 (0, 15) j = I (0, 15) j) ∧ v = cutV G (I (i + 3, 3)) (I (i + 3, 4)) S) xNo := by
  refine xRet_of hX pl_X0_sumOfCut (LE1 rfl) fun V hV => rg_X0_sumOfCut_0 hV I _ hC.1 _ ⟨_, cu_weigh hX d hC hN hS, ?_⟩
  rintro _ J ⟨a1, w0, w1, w2, w3, w4⟩
  rw [w0, w3, pOut_all, pIn_all]
  exact ⟨a1, w4, rfl⟩
theorem cn_hasBit (hX : xBase X) (d : Nat) {S k : Nat} (hS : S ≤ 2147483647) (hk : k < 32) : xRet rB X m_X9_hasBit d [xi (S : Int), xi (k : Int)] c I 0 0 (pv (S.testBit k) I) xNo := by
  refine xRet_of hX pl_X9_hasBit (LE1 rfl) fun V hV => rg_X9_hasBit_0 hV I _ _ ?_
  rw [v_bit hS hk]
  exact ⟨fun h => pvI (xbi_0.mp h).symm, fun h => pvI (xbi_n0.mp h).symm⟩
theorem cn_hasOneOf (hX : xBase X) (d : Nat) {S k j : Nat} (hS : S ≤ 2147483647) (hk : k < 32) (hj : j < 32) : xRet rB X m_X9_hasOneOf (d + 1) [xi (S : Int), xi (k : Int), xi (j : Int)] c I 0 0 (pv (btw k j S) I) xNo := by
  refine xRet_of hX pl_X9_hasOneOf (LE1 rfl) fun V hV => rg_X9_hasOneOf_0 hV I _ _ _ ⟨_, cn_hasBit hX d hS hk, ?_⟩
  rintro _ I ⟨rfl, rfl⟩
  refine ⟨fun z => pvI (by unfold btw; rw [z]; rfl), fun z => ⟨_, cn_hasBit hX d hS hj, ?_⟩⟩
  rintro _ I ⟨rfl, rfl⟩
  exact ⟨fun w => pvI (by unfold btw; rw [z, w]; rfl), fun w => pvI (by unfold btw; rw [z, w]; rfl)⟩
end CV
