/-! parent and between on both sides -/
section TRF
variable {X : xX} {c : xCx} {I : xIn} {T : NT} {a s t x : Int}
theorem cn_between (hX : xBase X) (d : Nat) (hT : NTok T) (hI : CI I c T) (ha : xin a) (hs : xin s) (ht : xin t) : xRet rI X m_X9_between (d + 8) [xr (0, 0), xi a, xi s, xi t] c I 2 12 (fun v I9 => keepC I I9 ∧ (v, 0) = betweenA T a s t) (fun x I9 => I9 = I ∧ exL [xIOB, xIAE] x (betweenA T a s t).2) := by
  have hwc := wrong_c T a s t
  refine xRet_of hX pl_X9_between (LE1 rfl) fun V hV => rg_X9_between_0 hV I _ _ _ (go_ends hX d hT hI ha hs ht (fun x hx hw => ⟨rfl, by unfold betweenA; rw [wE_p hw]; exact hx.l (by omega)⟩) ?_)
  rintro i s t rfl rfl rfl hi hC hs9 ht9 hst hw
  have hG := hC.2.2.2.1
  have hbd := bth_bd hG.2.2.1 (hi := I (i + 3, 4)) (hI.hb hT hi)
  refine ⟨_, tr_measure hX (d + 5) hC (hI.nb hT hi), ?_⟩
  rintro _ J ⟨k1, k2, hS⟩
  refine ⟨_, tr_leastCut hX (d + 5) hS hG.2.1 hbd hs9 ht9 hst, ?_⟩
  rintro _ _ ⟨rfl, rfl⟩
  refine ⟨kp.C k1 (by decide), ?_⟩
  unfold betweenA
  rw [wE_0 hw, tnN, tnN, tnN, bth_cong (hI.hi hi)]
theorem cn_parent (hX : xBase X) (d : Nat) (hT : NTok T) (hI : CI I c T) (ha : xin a) (hx : xin x) : xRet rI X m_X9_parent (d + 8) [xr (0, 0), xi a, xi x] c I 3 18 (fun v I9 => keepC I I9 ∧ (v, 0) = parentA T a x) (fun y I9 => keepC I I9 ∧ exL [xIOB, xNSE] y (parentA T a x).2) := by
  have hwc := wrong1C_c T a x
  refine xRet_of hX pl_X9_parent (LE1 rfl) fun V hV => rg_X9_parent_0 hV I _ _ (go_corner hX d hT hI ha hx (fun x hx hw => ⟨keepC.id9, by unfold parentA; rw [wE_p hw]; exact hx.l1 (by omega)⟩) ?_)
  rintro i x rfl rfl hi hC hx9 hw
  have hG := hC.2.2.2.1
  have hn8 := hG.2.1
  have hbd := bth_bd hG.2.2.1 (hi := I (i + 3, 4)) (hI.hb hT hi)
  have hA : parentA T (i : Int) (x : Int) = parentG (T.G i) (T.hi i) x := by unfold parentA; rw [wE_0 hw, tnN, tnN]
  refine ⟨⟨by omega, by omega⟩, fun hne => ⟨_, tr_measure hX (d + 5) hC (hI.nb hT hi), ?_⟩, fun he => ⟨keepC.id9, ?_⟩⟩
  · rintro _ J ⟨k1, k2, hS⟩
    refine ⟨_, tr_grow hX (d + 3) hS hG.1 hG.2.1 hbd, ?_⟩
    rintro _ K ⟨k3, k4, -⟩
    refine ⟨⟨by omega, by omega⟩, (kp.C k1 (by decide)).tr (kp.C k3 (by decide)), ?_⟩
    rw [hA, tnN, k4 x hx9, bth_cong (hI.hi hi)]
    unfold parentG
    rw [if_neg (by omega)]
  · rw [hA]
    unfold parentG
    rw [if_pos (by omega)]
    exact ⟨1, rfl, rfl⟩
end TRF
section TRM
variable {X : xX} {c : xCx} {I : xIn} {i : Nat} {G : Gr} {lo hi : Nat → Int}
theorem grP_0 (f : Nat → Int) (n j : Nat) : grP f n j 0 = 0 := by
  induction j with
  | zero => rfl
  | succ j ih => rw [grP_s, if_neg (by omega), ih]
theorem grP_le (f : Nat → Int) (n j x : Nat) : grP f n j x ≤ x := by
  by_cases h : x = 0
  · rw [h, grP_0]; exact Nat.le_refl _
  · have := grP_lt f n j (show 1 ≤ x by omega); omega
end TRM
section TRN
variable {X : xX} {c : xCx} {I : xIn} {T : NT} {a s t x : Int}
end TRN
