/-! the reference's cost, cheapest and price -/
section MPR
variable {X : xX} {c : xCx} {I : xIn} {T : NT} {a s t e x : Int}
theorem kp.keepF {I J : xIn} (h : kp [(1, 17), (1, 18), (1, 19), (1, 20), (1, 21)] I J) : keepM I J := ⟨fun p hp => h p (by
    intro hm
    simp only [List.mem_cons, List.not_mem_nil, or_false] at hm
    rcases hm with rfl | rfl | rfl | rfl | rfl <;> simp at hp), fun k _ _ _ => by rw [h (1, 0) (by decide)]⟩
theorem MI.co {I : xIn} {T : NT} (hI : MI I T) {i : Nat} (hi : i < T.N) : MCo I i (T.G i).m (T.co i) := (hI.2.2 i hi).2.2.1
theorem ok_findsT (hX : xBase X) (d : Nat) (hT : NTok T) (hI : MI I T) {i s t : Nat} (hi : i < T.N) (hs : s < (T.G i).n) (ht : t < (T.G i).n) (hst : s ≠ t) : xRet rB X m_X10_findsCheap (d + 6) [xr (1, 0), xi (i : Int), xi (s : Int), xi (t : Int)] c I 0 0 (fun v I9 => kp [(1, 17), (1, 18), (1, 19), (1, 20), (1, 21)] I I9 ∧ ((v = true ∧ amountF (T.G i) (T.lo i) (T.hi i) s t ≠ NONE9 ∧ CHR (T.G i) (T.lo i) (T.hi i) (T.co i) (isB s t (amountF (T.G i) (T.lo i) (T.hi i) s t)) (I9 (1, 19)) ∧ ∃ π, PT (T.G i) (T.lo i) (T.hi i) (T.co i) (I9 (1, 19)) π) ∨ (v = false ∧ amountF (T.G i) (T.lo i) (T.hi i) s t = NONE9))) xNo := by
  obtain ⟨hG, hB, -⟩ := hT.2 i hi
  obtain ⟨hM, hN, -⟩ := hI.2.2 i hi
  exact ok_findsCheap hX d hG hM hN (hI.co hi) (fun e he => (hB e he).1) (fun e he => (hB e he).2) hs ht hst (amount_in hT hi hs ht hst)
theorem ok_cost (hX : xBase X) (d : Nat) (hT : NTok T) (hI : MI I T) (ha : xin a) (hs : xin s) (ht : xin t) : xRet rI X m_X10_cost (d + 7) [xr (1, 0), xi a, xi s, xi t] c I 0 0 (fun v I9 => keepM I I9 ∧ (v, I9 (1, 0) 32) = costA T a s t) xNo := by
  have hwc := wrong_c T a s t
  refine xRet_of hX pl_X10_cost (LE1 rfl) fun V hV => rg_X10_cost_0 hV I _ _ _ (mo_wrong hX (d + 3) hT hI ha hs ht fun J k1 e32 => ?_)
  rw [e32]
  refine ⟨fun h => ?_, fun h => ?_⟩
  rotate_left
  · rintro K hK
    have e3 : K (1, 0) 32 = wrongT T a s t := by rw [hK, xu_same]
    have k2 : keepM I K := k1.tr (by rw [hK]; exact keepM.thrown _)
    refine rg_X10_cost_50 hV K _ _ _ ⟨fun _ => ⟨k2, ?_⟩, fun h9 => by omega⟩
    unfold costA
    rw [wE_p h, e3]
  · obtain ⟨i, s, t, rfl, rfl, rfl, hi, hs9, ht9, hst⟩ := wrong_0 h
    have hw : wrongT T (i : Int) (s : Int) (t : Int) = 0 := by omega
    obtain ⟨hG, hB, -⟩ := hT.2 i hi
    have hm16 := hG.2.2.1
    have h4 := hT.1
    have hA : costA T (i : Int) (s : Int) (t : Int) = if amountF (T.G i) (T.lo i) (T.hi i) s t = NONE9 then (0, 3) else (costG (T.G i) (T.lo i) (T.hi i) (T.co i) s t, 0) := by unfold costA; rw [hw, wE_0 rfl, tnN, tnN, tnN]
    refine ⟨_, ok_findsT hX d hT (hI.keep k1) hi hs9 ht9 hst, ?_⟩
    rintro v K ⟨kK, ⟨rfl, b1, b2, -⟩ | ⟨rfl, b1⟩⟩
    · refine ⟨fun z => Bool.noConfusion z, fun _ => ?_⟩
      rintro N hN9
      have n32 : N (1, 0) 32 = 0 := by rw [hN9, xu_same]
      have n19 : N (1, 19) = K (1, 19) := by rw [hN9, xu_p (by decide)]
      have kN : keepM I N := (k1.tr (kp.keepF kK)).tr (by rw [hN9]; exact keepM.thrown _)
      clear hN9
      have hIN := hI.keep kN
      obtain ⟨hM, -, hC, -⟩ := hIN.2.2 i hi
      obtain ⟨-, -, hm9, -⟩ := id hM
      have hz := b2.1
      have hval : costG (T.G i) (T.lo i) (T.hi i) (T.co i) s t = sumE (T.G i).m (fun e => N (1, 19) e * T.co i e) := by rw [costG_eq b2, n19]; rfl
      refine up_to0 (m := (T.G i).m) (W := fun k => V 50 [(0, xr (1, 0)), (1, xi (i : Int)), (4, xi (sumE k (fun e => N (1, 19) e * T.co i e))), (5, xi (k : Int))] [] (N, xst c) 0 0) ?_ ?_
      · refine rg_X10_cost_50 hV N _ _ _ ⟨fun h9 => absurd n32 h9, fun _ => ⟨⟨by omega, by omega⟩, ⟨by omega, by omega⟩, fun _ => ⟨kN, by rw [hA, if_neg b1, hval, n32]⟩, fun h9 => by rw [tnN, hm9] at h9; omega⟩⟩
      · intro k hk ih
        refine rg_X10_cost_50 hV N _ _ _ ⟨fun h9 => absurd n32 h9, fun _ => ⟨⟨by omega, by omega⟩, ⟨by omega, by omega⟩, fun h9 => by rw [tnN, hm9] at h9; omega, fun _ => ⟨⟨by omega, by omega⟩, ⟨by omega, by omega⟩, ?_⟩⟩⟩
        rintro _ rfl
        rw [tnN, tn16, hC k hk]
        exact ih
    · refine ⟨fun _ => ?_, fun z => Bool.noConfusion z⟩
      rintro N hN9
      have n32 : N (1, 0) 32 = 3 := by rw [hN9, xu_same]
      have kN : keepM I N := (k1.tr (kp.keepF kK)).tr (by rw [hN9]; exact keepM.thrown _)
      refine rg_X10_cost_50 hV N _ _ _ ⟨fun _ => ⟨kN, by rw [hA, if_pos b1, n32]⟩, fun h9 => by omega⟩
theorem ok_cheapest (hX : xBase X) (d : Nat) (hT : NTok T) (hI : MI I T) (ha : xin a) (hs : xin s) (ht : xin t) (he : xin e) : xRet rI X m_X10_cheapest (d + 7) [xr (1, 0), xi a, xi s, xi t, xi e] c I 0 0 (fun v I9 => keepM I I9 ∧ (v, I9 (1, 0) 32) = cheapestA T a s t e) xNo := by
  have hwc := wrongE_c T a s t e
  refine xRet_of hX pl_X10_cheapest (LE1 rfl) fun V hV => rg_X10_cheapest_0 hV I _ _ _ _ (mo_wrongE hX (d + 3) hT hI ha hs ht he fun J k1 e32 => ?_)
  rw [e32]
  refine ⟨fun h => ?_, fun h => rg_X10_cheapest_43 hV J _ _ ⟨⟨by omega, by omega⟩, ?_⟩⟩
  rotate_left
  · rintro K hK
    have e3 : K (1, 0) 32 = wrongET T a s t e := by rw [hK, xu_same]
    have k2 : keepM I K := k1.tr (by rw [hK]; exact keepM.thrown _)
    rw [e3]
    refine ⟨fun h9 => by omega, fun _ => ⟨k2, ?_⟩⟩
    unfold cheapestA
    rw [wE_p h]
  · obtain ⟨i, s, t, e, rfl, rfl, rfl, rfl, hi, hs9, ht9, hst, he9⟩ := wrongE_0 h
    have hw : wrongET T (i : Int) (s : Int) (t : Int) (e : Int) = 0 := by omega
    obtain ⟨hG, hB, -⟩ := hT.2 i hi
    have hm16 := hG.2.2.1
    have hA : cheapestA T (i : Int) (s : Int) (t : Int) (e : Int) = if amountF (T.G i) (T.lo i) (T.hi i) s t = NONE9 then (0, 3) else (cheapG (T.G i) (T.lo i) (T.hi i) (T.co i) s t e, 0) := by unfold cheapestA; rw [hw, wE_0 rfl, tnN, tnN, tnN, tnN]
    refine ⟨_, ok_findsT hX d hT (hI.keep k1) hi hs9 ht9 hst, ?_⟩
    rintro v K ⟨kK, ⟨rfl, b1, b2, -⟩ | ⟨rfl, b1⟩⟩
    · refine ⟨fun z => Bool.noConfusion z, fun _ => rg_X10_cheapest_43 hV K _ _ ⟨⟨by decide, by decide⟩, ?_⟩⟩
      rintro N hN9
      have n32 : N (1, 0) 32 = 0 := by rw [hN9, xu_same]
      have n19 : N (1, 19) = K (1, 19) := by rw [hN9, xu_p (by decide)]
      have kN : keepM I N := (k1.tr (kp.keepF kK)).tr (by rw [hN9]; exact keepM.thrown _)
      rw [n32]
      refine ⟨fun _ => ⟨⟨by omega, by omega⟩, kN, ?_⟩, fun z => absurd z (by decide)⟩
      rw [hA, if_neg b1, tnN, n19, cheapG_eq b2 he9]
    · refine ⟨fun _ => rg_X10_cheapest_43 hV K _ _ ⟨⟨by decide, by decide⟩, ?_⟩, fun z => Bool.noConfusion z⟩
      rintro N hN9
      have n32 : N (1, 0) 32 = 3 := by rw [hN9, xu_same]
      have kN : keepM I N := (k1.tr (kp.keepF kK)).tr (by rw [hN9]; exact keepM.thrown _)
      rw [n32]
      exact ⟨fun z => absurd z (by decide), fun _ => ⟨kN, by rw [hA, if_pos b1]⟩⟩
theorem ok_price (hX : xBase X) (d : Nat) (hT : NTok T) (hI : MI I T) (ha : xin a) (hs : xin s) (ht : xin t) (hx : xin x) : xRet rI X m_X10_price (d + 7) [xr (1, 0), xi a, xi s, xi t, xi x] c I 0 0 (fun v I9 => keepM I I9 ∧ (v, I9 (1, 0) 32) = priceA T a s t x) xNo := by
  refine xRet_of hX pl_X10_price (LE1 rfl) fun V hV => ?_
  have end71 : ∀ K, keepM I K → ∀ (l1 l2 : Int) (w : Int), 0 < w → w ≤ 3 → priceA T a s t x = (0, w) → V 71 [(0, xr (1, 0)), (1, xi l1), (2, xi l2), (4, xi x)] [xi w, xr (1, 0)] (K, xst c) 0 0 := fun K hK l1 l2 w w0 w3 hA => rg_X10_price_71 hV K _ _ _ _ ⟨⟨by omega, by omega⟩, by
    rintro K2 rfl
    rw [xu_same]
    exact ⟨fun h => by omega, fun _ => ⟨hK.tr (keepM.thrown _), by rw [hA]⟩⟩⟩
  have bad : ∀ K, keepM I K → ∀ w : Int, 0 < w → w ≤ 3 → priceA T a s t x = (0, w) → V 38 [(0, xr (1, 0)), (1, xi a), (2, xi s), (3, xi t), (4, xi x)] [xi w, xr (1, 0)] (K, xst c) 0 0 := fun K hK w w0 w3 hA => rg_X10_price_38 hV K _ _ _ _ _ ⟨⟨by omega, by omega⟩, by
    rintro K2 rfl
    rw [xu_same]
    exact ⟨fun h => by omega, fun _ => end71 _ (hK.tr (keepM.thrown _)) _ _ w w0 w3 hA⟩⟩
  have hW := hI.W hT
  refine rg_X10_price_0 hV I _ _ _ _ ⟨_, ok_isNet hX (d + 5) hW ha, ?_⟩
  rintro _ I ⟨rfl, rfl⟩
  rw [hI.1]
  refine ⟨fun z => rg_X10_price_19 hV I _ _ _ _ (bad I keepM.id9 1 (by decide) (by decide) (by unfold priceA wrongCT; rw [z, if_neg (by decide), wE_p (by decide)])), fun z => ?_⟩
  have hz := inB_t z
  obtain ⟨i, rfl⟩ := Int.eq_ofNat_of_zero_le hz.1
  have hi : i < T.N := by omega
  have h4 := hT.1
  obtain ⟨hG, hB, -⟩ := hT.2 i hi
  have hn := hG.2.1
  obtain ⟨hM, hMN, -⟩ := hI.2.2 i hi
  refine ⟨_, ok_isCorner hX (d + 5) hW ⟨by omega, by omega⟩ hx, ?_⟩
  rintro _ I ⟨rfl, rfl⟩
  rw [tnN, hM.2.1]
  refine ⟨fun y => ?_, fun y => rg_X10_price_19 hV I _ _ _ _ (bad I keepM.id9 1 (by decide) (by decide) (by unfold priceA wrongCT; rw [z, if_pos rfl, tnN, y, if_neg (by decide), wE_p (by decide)]))⟩
  refine ⟨_, ok_areTwo hX (d + 4) hW ⟨by omega, by omega⟩ hs ht, ?_⟩
  rintro _ I ⟨rfl, rfl⟩
  rw [tnN, hM.2.1]
  refine ⟨fun w => ?_, fun w => bad I keepM.id9 2 (by decide) (by decide) (by unfold priceA wrongCT; rw [z, if_pos rfl, tnN, y, if_pos rfl, w, if_neg (by decide), wE_p (by decide)])⟩
  have hwT : wrongT T (i : Int) s t = 0 := by unfold wrongT; rw [z, if_pos rfl, tnN, w, if_pos rfl]
  have hwC : wrongCT T (i : Int) s t x = 0 := by unfold wrongCT; rw [z, if_pos rfl, tnN, y, if_pos rfl, w, if_pos rfl]
  obtain ⟨i9, s, t, e1, rfl, rfl, -, hs9, ht9, hst⟩ := wrong_0 (show wrongT T (i : Int) s t ≤ 0 by omega)
  have e1 : i9 = i := by omega
  subst e1
  have hy := inB_t y
  obtain ⟨x, rfl⟩ := Int.eq_ofNat_of_zero_le hy.1
  have hx9 : x < (T.G i9).n := by omega
  have hA : priceA T (i9 : Int) (s : Int) (t : Int) (x : Int) = if amountF (T.G i9) (T.lo i9) (T.hi i9) s t = NONE9 then (0, 3) else priceG (T.G i9) (T.lo i9) (T.hi i9) (T.co i9) s t x := by unfold priceA; rw [hwC, wE_0 rfl, tnN, tnN, tnN, tnN]
  refine rg_X10_price_38 hV I _ _ _ _ _ ⟨⟨by decide, by decide⟩, ?_⟩
  rintro J hJ
  have j32 : J (1, 0) 32 = 0 := by rw [hJ, xu_same]
  have k1 : keepM I J := by rw [hJ]; exact keepM.thrown _
  clear hJ
  rw [j32]
  refine ⟨fun _ => ⟨_, ok_findsT hX d hT (hI.keep k1) hi hs9 ht9 hst, ?_⟩, fun z => absurd z (by decide)⟩
  rintro v K ⟨kK, ⟨rfl, b1, b2, π, b3⟩ | ⟨rfl, b1⟩⟩
  rotate_left
  · refine ⟨fun _ => end71 K (k1.tr (kp.keepF kK)) _ _ 3 (by decide) (by decide) (by rw [hA, if_pos b1]), fun z => Bool.noConfusion z⟩
  refine ⟨fun z => Bool.noConfusion z, fun _ => rg_X10_price_71 hV K _ _ _ _ ⟨⟨by decide, by decide⟩, ?_⟩⟩
  rintro N hN9
  have n32 : N (1, 0) 32 = 0 := by rw [hN9, xu_same]
  have n19 : N (1, 19) = K (1, 19) := by rw [hN9, xu_p (by decide)]
  have kN : keepM I N := (k1.tr (kp.keepF kK)).tr (by rw [hN9]; exact keepM.thrown _)
  clear hN9
  rw [n32]
  have hIN := hI.keep kN
  obtain ⟨hMN9, hNN9, -⟩ := hIN.2.2 i9 hi
  refine ⟨fun _ => ⟨_, ok_costsFrom hX (d + 5) hG hMN9 hNN9 (hIN.co hi) (fun e he => (hB e he).2) n19 (a := (s : Int)) ⟨by omega, by omega⟩, ?_⟩, fun z => absurd z (by decide)⟩
  rintro v9 Y ⟨kY, via, τ, hBF, -, hl⟩
  have hne : ∀ e, e < (T.G i9).m → (T.G i9).u e ≠ (T.G i9).v e := fun e he => (hG.2.2.2 e he).2.2
  have hAr := BAs_ok (lo := T.lo i9) (hi := T.hi i9) (f := K (1, 19)) hG.in hne (fun e he => (hB e he).2) (c32_ok hG.2.2.1)
  rw [srcB_nat] at hBF
  have hcalm : ∀ x, x < (T.G i9).n → τ x ≤ ((T.G i9).n - 1) * 32 := fun x hx => hBF.calm hAr (π := π) (fun j hj ho => PT_gr b3 (hAr j hj ho).2.2.2.2) hx
  have hle32 : ((T.G i9).n - 1) * 32 ≤ (T.G i9).n * 32 := Nat.mul_le_mul_right 32 (by omega)
  have hq : ∀ x, x < (T.G i9).n → τ x ≤ (T.G i9).n * 32 := fun x hx => Nat.le_trans (hcalm x hx) hle32
  have hv9 : v9 = -1 := by
    rcases hl with ⟨q1, -⟩ | ⟨x, q1, -, q3⟩
    · exact q1
    · have := hq x q1; omega
  have hD : DSX (T.G i9) (T.lo i9) (T.hi i9) (T.co i9) (K (1, 19)) s 9999 (Y (1, 20)) := hBF.dst hAr (by omega) hq (fun u x q hr => BAs_all (c32_ok hG.2.2.1) hr)
  have hP := priceG_eq b2 hD hx9
  have hbd := hBF.bd hx9
  have kNY : keepM I Y := kN.tr (kp.keepF (kY.mo (by simp)))
  have y32 : Y (1, 0) 32 = 0 := by rw [kY _ (by simp), n32]
  subst hv9
  refine ⟨⟨by decide, by decide⟩, fun z => absurd z (by decide), fun _ => ⟨⟨by omega, by omega⟩, ?_⟩⟩
  rw [tnN]
  refine ⟨fun h9 => ?_, fun h9 => ?_⟩
  · refine rg_X10_price_115 hV Y _ _ ⟨⟨by decide, by decide⟩, ?_⟩
    rintro Z hZ
    have z32 : Z (1, 0) 32 = 0 := by rw [hZ, xu_same]
    have z20 : Z (1, 20) = Y (1, 20) := by rw [hZ, xu_p (by decide)]
    have kZ : keepM I Z := kNY.tr (by rw [hZ]; exact keepM.thrown _)
    rw [z32]
    refine ⟨fun _ => ⟨⟨by omega, by omega⟩, kZ, ?_⟩, fun z => absurd z (by decide)⟩
    rw [hA, if_neg b1, hP, if_neg (show ¬ Y (1, 20) x = 9999 by omega), tnN, z20]
  · refine rg_X10_price_110 hV Y _ (rg_X10_price_115 hV Y _ _ ⟨⟨by decide, by decide⟩, ?_⟩)
    rintro Z hZ
    have z32 : Z (1, 0) 32 = 3 := by rw [hZ, xu_same]
    have kZ : keepM I Z := kNY.tr (by rw [hZ]; exact keepM.thrown _)
    rw [z32]
    refine ⟨fun z => absurd z (by decide), fun _ => ⟨kZ, ?_⟩⟩
    rw [hA, if_neg b1, hP, if_pos (show Y (1, 20) x = 9999 by omega)]
end MPR
