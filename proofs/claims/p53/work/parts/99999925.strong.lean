/-! costs and prices once more: that there is a cheapest row, and that prices are distances -/
def EXz (G : Gr) (lo hi co : Nat → Int) (s t : Nat) : Prop := ∃ z π, CHR G lo hi co (isB s t (amountF G lo hi s t)) z ∧ PT G lo hi co z π
def EXd (G : Gr) (lo hi co : Nat → Int) (s t : Nat) : Prop := ∃ z Z D π, CHR G lo hi co (isB s t (amountF G lo hi s t)) z ∧ PT G lo hi co z π ∧ DSX G lo hi co z s Z D
section PRD
variable {X : xX} {c : xCx} {I : xIn} {T : NT} {a s t e x : Int}
theorem pn_cost (hX : xBase X) (d : Nat) (hT : NTok T) (hI : CI I c T) (ha : xin a) (hs : xin s) (ht : xin t) : xRet rI X m_X9_cost (d + 9) [xr (0, 0), xi a, xi s, xi t] c I 3 18 (fun v I9 => (keepC I I9 ∧ EXz (T.G (Int.toNat a)) (T.lo (Int.toNat a)) (T.hi (Int.toNat a)) (T.co (Int.toNat a)) (Int.toNat s) (Int.toNat t)) ∧ (v, 0) = costA T a s t) (fun y I9 => keepC I I9 ∧ exL [xIOB, xIAE, xNSE] y (costA T a s t).2) := by
  have hwc := wrong_c T a s t
  refine xRet_of hX pl_X9_cost (LE1 rfl) fun V hV => rg_X9_cost_0 hV I _ _ _ (go_ends hX (d + 1) hT hI ha hs ht (fun x hx hw => ⟨keepC.id9, by unfold costA; rw [wE_p hw]; exact hx.l (by omega)⟩) ?_)
  rintro i s t rfl rfl rfl hi hC hs9 ht9 hst hw
  have hA : costA T (i : Int) (s : Int) (t : Int) = if amountF (T.G i) (T.lo i) (T.hi i) s t = NONE9 then (0, 3) else (costG (T.G i) (T.lo i) (T.hi i) (T.co i) s t, 0) := by unfold costA; rw [hw, wE_0 rfl, tnN, tnN, tnN]
  have hc := amountF_cong (s := s) (t := t) (hI.lo hi) (hI.hi hi)
  refine ⟨_, _, cn_tellCheapest hX d hC (hI.nb hT hi) hs9 ht9 hst, ?_, ?_⟩
  · rintro y J ⟨rfl, k1, k2⟩
    rw [hc] at k2
    exact ⟨kp.C k1 (by decide), by rw [hA, if_pos k2]; exact ⟨2, rfl, rfl⟩⟩
  rintro _ J ⟨k1, k2, k3, k4, ⟨π, k5⟩, k6, -⟩
  rw [show J (i + 3, 0) = I (i + 3, 0) from k1 _ (by simp [flP]), hC.2.2.1]
  refine ⟨_, st_costOf hX (d + 7) k3 (Nat.le_succ _), ?_⟩
  rintro _ J ⟨rfl, rfl⟩
  refine ⟨⟨kp.C k1 (by decide), ?_⟩, ?_⟩
  · rw [tnN, tnN, tnN]
    exact ⟨_, π, cong_co (hI.lo hi) (hI.hi hi) (hI.co hi) k4, PT_cong (hI.lo hi) (hI.hi hi) (hI.co hi) (fun _ _ => rfl) k5⟩
  rw [hc] at k2
  rw [hA, if_neg k2, costG_eq (cong_co (hI.lo hi) (hI.hi hi) (hI.co hi) k4)]
  have : sumE (T.G i).m (fun e => J (0, 11) e * J (0, 8) e) = costF (T.G i) (T.co i) (J (0, 11)) := sumE_cong fun e he => by rw [(k6 e he).2.2, hI.co hi e he]
  rw [this]
theorem pn_cheapest (hX : xBase X) (d : Nat) (hT : NTok T) (hI : CI I c T) (ha : xin a) (hs : xin s) (ht : xin t) (he : xin e) : xRet rI X m_X9_cheapest (d + 9) [xr (0, 0), xi a, xi s, xi t, xi e] c I 4 24 (fun v I9 => (keepC I I9 ∧ EXz (T.G (Int.toNat a)) (T.lo (Int.toNat a)) (T.hi (Int.toNat a)) (T.co (Int.toNat a)) (Int.toNat s) (Int.toNat t)) ∧ (v, 0) = cheapestA T a s t e) (fun y I9 => keepC I I9 ∧ exL [xIOB, xIAE, xNSE] y (cheapestA T a s t e).2) := by
  have hwc := wrongE_c T a s t e
  refine xRet_of hX pl_X9_cheapest (LE1 rfl) fun V hV => rg_X9_cheapest_0 hV I _ _ _ _ (go_edgeEnds hX (d + 1) hT hI ha hs ht he (fun x hx hw => ⟨keepC.id9, by unfold cheapestA; rw [wE_p hw]; exact hx.l (by omega)⟩) ?_)
  rintro i s t e rfl rfl rfl rfl hi hC hs9 ht9 hst he9 hw
  have hA : cheapestA T (i : Int) (s : Int) (t : Int) (e : Int) = if amountF (T.G i) (T.lo i) (T.hi i) s t = NONE9 then (0, 3) else (cheapG (T.G i) (T.lo i) (T.hi i) (T.co i) s t e, 0) := by unfold cheapestA; rw [hw, wE_0 rfl, tnN, tnN, tnN, tnN]
  have hc := amountF_cong (s := s) (t := t) (hI.lo hi) (hI.hi hi)
  refine ⟨_, _, cn_tellCheapest hX d hC (hI.nb hT hi) hs9 ht9 hst, ?_, ?_⟩
  · rintro y J ⟨rfl, k1, k2⟩
    rw [hc] at k2
    exact ⟨kp.C k1 (by decide), by rw [hA, if_pos k2]; exact ⟨2, rfl, rfl⟩⟩
  rintro _ J ⟨k1, k2, k3, k4, ⟨π, k5⟩, k6, -⟩
  refine ⟨_, st_numberOf hX (d + 6) k3 (Nat.lt_succ_of_lt he9), ?_⟩
  rintro _ _ ⟨rfl, rfl⟩
  refine ⟨⟨kp.C k1 (by decide), ?_⟩, ?_⟩
  · rw [tnN, tnN, tnN]
    exact ⟨_, π, cong_co (hI.lo hi) (hI.hi hi) (hI.co hi) k4, PT_cong (hI.lo hi) (hI.hi hi) (hI.co hi) (fun _ _ => rfl) k5⟩
  rw [hc] at k2
  rw [hA, if_neg k2, cheapG_eq (cong_co (hI.lo hi) (hI.hi hi) (hI.co hi) k4) he9]
theorem pn_price (hX : xBase X) (d : Nat) (hT : NTok T) (hI : CI I c T) (ha : xin a) (hs : xin s) (ht : xin t) (hx : xin x) : xRet rI X m_X9_price (d + 9) [xr (0, 0), xi a, xi s, xi t, xi x] c I 5 30 (fun v I9 => (keepC I I9 ∧ EXd (T.G (Int.toNat a)) (T.lo (Int.toNat a)) (T.hi (Int.toNat a)) (T.co (Int.toNat a)) (Int.toNat s) (Int.toNat t) ∧ -100000 ≤ v ∧ v ≤ 100000) ∧ (v, 0) = priceA T a s t x) (fun y I9 => keepC I I9 ∧ exL [xIOB, xIAE, xNSE] y (priceA T a s t x).2 ∧ (wrongCT T a s t x = 0 → amountF (T.G (Int.toNat a)) (T.lo (Int.toNat a)) (T.hi (Int.toNat a)) (Int.toNat s) (Int.toNat t) ≠ NONE9 → EXd (T.G (Int.toNat a)) (T.lo (Int.toNat a)) (T.hi (Int.toNat a)) (T.co (Int.toNat a)) (Int.toNat s) (Int.toNat t))) := by
  have hwc : wrongCT T a s t x ≤ 2 := by
    unfold wrongCT
    repeat' split
    all_goals omega
  refine xRet_of hX pl_X9_price (LE1 rfl) fun V hV => rg_X9_price_0 hV I _ _ _ _ (go_cornerEnds hX (d + 1) hT hI ha hs ht hx (fun x hx hw => ⟨keepC.id9, by unfold priceA; rw [wE_p hw]; exact hx.l (by omega), fun z => by omega⟩) ?_)
  rintro i s t x rfl rfl rfl rfl hi hC hs9 ht9 hst hx9 hw
  have hA : priceA T (i : Int) (s : Int) (t : Int) (x : Int) = if amountF (T.G i) (T.lo i) (T.hi i) s t = NONE9 then (0, 3) else priceG (T.G i) (T.lo i) (T.hi i) (T.co i) s t x := by unfold priceA; rw [hw, wE_0 rfl, tnN, tnN, tnN, tnN]
  have hc := amountF_cong (s := s) (t := t) (hI.lo hi) (hI.hi hi)
  have hG := hC.2.2.2.1
  refine ⟨_, _, cn_tellCheapest hX d hC (hI.nb hT hi) hs9 ht9 hst, ?_, ?_⟩
  · rintro y J ⟨rfl, k1, k2⟩
    rw [hc] at k2
    exact ⟨kp.C k1 (by decide), by rw [hA, if_pos k2]; exact ⟨2, rfl, rfl⟩, fun _ z => absurd k2 (by rw [tnN, tnN, tnN] at z; exact z)⟩
  rintro _ J ⟨k1, k2, k3, k4, ⟨π, k5⟩, k6, k7, k8, k9⟩
  rw [hc] at k2
  rw [if_neg k2] at hA
  rw [show J (i + 3, 0) = I (i + 3, 0) from k1 _ (by simp [flP]), hC.2.2.1]
  refine ⟨_, st_setPrices hX (d + 6) hG hs9 ht9 hst k3 k6 k7 k8 k9 (fun e he => by have := hI.nb hT hi e he; omega) k5 hs9, ?_⟩
  rintro _ K ⟨kK, kF, kD, kb⟩
  have kk : keepC I K := (kp.C k1 (by decide)).tr (kp.C kK (by decide))
  refine ⟨_, st_hasPrice hX (d + 6) kF (x := x) hx9 (kb x hx9), ?_⟩
  have hD9 : DSX (T.G i) (T.lo i) (T.hi i) (T.co i) (J (0, 11)) s FAR9 (K (0, 12)) := DST_cong kD fun u v q => ⟨fun g => GR_cong (hI.lo hi) (hI.hi hi) (hI.co hi) (fun _ _ => rfl) g, fun g => GR_cong (fun e he => (hI.lo hi e he).symm) (fun e he => (hI.hi hi e he).symm) (fun e he => (hI.co hi e he).symm) (fun _ _ => rfl) g⟩
  have hEX : EXd (T.G i) (T.lo i) (T.hi i) (T.co i) s t := ⟨_, FAR9, _, π, cong_co (hI.lo hi) (hI.hi hi) (hI.co hi) k4, PT_cong (hI.lo hi) (hI.hi hi) (hI.co hi) (fun _ _ => rfl) k5, hD9⟩
  have hP := priceG_eq (cong_co (hI.lo hi) (hI.hi hi) (hI.co hi) k4) hD9 hx9
  rw [← hA] at hP
  rintro _ K9 ⟨rfl, rfl⟩
  refine ⟨fun h => ⟨_, st_priceOf hX (d + 6) kF (x := x) hx9, ?_⟩, fun h => ⟨kk, ?_⟩⟩
  · rintro _ _ ⟨rfl, rfl⟩
    have := of_decide_eq_true h
    rw [if_neg this] at hP
    exact ⟨⟨kk, by rw [tnN, tnN, tnN]; exact hEX, (kb x hx9).resolve_left this⟩, hP.symm⟩
  · have : K9 (0, 12) x = FAR9 := by
      have := of_decide_eq_false h
      omega
    rw [hP, if_pos this]
    exact ⟨⟨2, rfl, rfl⟩, fun _ _ => by rw [tnN, tnN, tnN]; exact hEX⟩
end PRD
