/-! the reference's rounds, roundAmount, roundSign -/
section MRG
variable {X : xX} {c : xCx} {I : xIn} {T : NT} {a s t r x : Int}
theorem wrongRT_c (T : NT) (a s t : Int) : 0 ≤ wrongRT T a s t ∧ wrongRT T a s t ≤ 3 := by
  have := wrong_c T a s t
  unfold wrongRT
  split
  · omega
  · split <;> omega
def noLk (lo : Nat → Int) (k : Nat) : Bool := decide (ff (fun e => decide (lo e ≠ 0)) k = -1)
theorem noLk_s (lo : Nat → Int) (k : Nat) : noLk lo (k + 1) = (noLk lo k && decide (lo k = 0)) := by
  unfold noLk
  rw [ff]
  by_cases h : ff (fun e => decide (lo e ≠ 0)) k = -1
  · rw [if_pos h, h]
    by_cases h0 : lo k = 0
    · rw [if_neg (by rw [decide_eq_true_eq]; omega), decide_eq_true h0]; rfl
    · rw [if_pos (decide_eq_true h0), decide_eq_false h0, decide_eq_false (by omega)]; rfl
  · rw [if_neg h, decide_eq_false h]; rfl
theorem ok_wrongRounds (hX : xBase X) (d : Nat) (hT : NTok T) (hI : MI I T) (ha : xin a) (hs : xin s) (ht : xin t) : xRet rI X m_X10_wrongRounds (d + 4) [xr (1, 0), xi a, xi s, xi t] c I 0 0 (pv (wrongRT T a s t) I) xNo := by
  have hwc := wrong_c T a s t
  refine xRet_of hX pl_X10_wrongRounds (LE1 rfl) fun V hV => rg_X10_wrongRounds_0 hV I _ _ _ ⟨_, ok_wrong hX d (hI.W hT) ha hs ht, ?_⟩
  rintro _ I ⟨rfl, rfl⟩
  rw [wrong_T hI]
  by_cases hw : wrongT T a s t = 0
  rotate_left
  · refine rg_X10_wrongRounds_15 hV I _ _ _ _ ⟨⟨by omega, by omega⟩, fun _ => rg_X10_wrongRounds_64 hV I _ _ ⟨⟨by omega, by omega⟩, fun h => by omega, fun h => pvI ?_⟩, fun h => absurd h hw⟩
    unfold wrongRT; rw [if_pos (by omega)]
  · have hw2 := wrongRT_0 hw
    obtain ⟨i, s, t, rfl, rfl, rfl, hi, hs9, ht9, hst⟩ := wrong_0 (show wrongT T a s t ≤ 0 by omega)
    rw [tnN] at hw2
    obtain ⟨hG, hB, -⟩ := hT.2 i hi
    obtain ⟨hM, hN, -⟩ := hI.2.2 i hi
    obtain ⟨h4, hn9, hm9, hE⟩ := id hM
    have hm := hG.2.2.1
    rw [hw]
    refine up_to0 (m := (T.G i).m) (W := fun k => V 15 [(0, xr (1, 0)), (1, xi (i : Int)), (4, xi 0), (5, xi (xbi (noLk (T.lo i) k))), (6, xi (k : Int))] [] (I, xst c) 0 0) ?_ ?_
    · refine rg_X10_wrongRounds_15 hV I _ _ _ _ ⟨⟨by decide, by decide⟩, fun h => absurd rfl h, fun _ => ⟨⟨by omega, by omega⟩, ⟨by omega, by omega⟩, fun _ => rg_X10_wrongRounds_64 hV I _ _ ⟨⟨by decide, by decide⟩, fun _ => ⟨xbi_in _, fun h => pvI ?_, fun h => pvI ?_⟩, fun h => absurd h (by decide)⟩, fun h => ?_⟩⟩
      · have : noL (T.G i) (T.lo i) = false := xbi_0.mp h
        rw [hw2, this]; rfl
      · have : noL (T.G i) (T.lo i) = true := xbi_n0.mp h
        rw [hw2, this]; rfl
      · rw [tnN, hm9] at h; omega
    · intro k hk ih
      rw [noLk_s] at ih
      refine rg_X10_wrongRounds_15 hV I _ _ _ _ ⟨⟨by decide, by decide⟩, fun h => absurd rfl h, fun _ => ⟨⟨by omega, by omega⟩, ⟨by omega, by omega⟩, fun h => ?_, fun _ => ⟨xbi_in _, fun z => ?_, fun z => ⟨⟨by omega, by omega⟩, ?_⟩⟩⟩⟩
      · rw [tnN, hm9] at h; omega
      · rw [xbi_0.mp z, Bool.false_and] at ih; exact ih
      · rw [tn16, (hN k hk).1]
        rw [xbi_n0.mp z, Bool.true_and] at ih
        refine ⟨fun y => ?_, fun y => ?_⟩
        · rw [decide_eq_false y] at ih; exact ih
        · rw [decide_eq_true y] at ih; exact ih
theorem wrongRT_00 (h : wrongRT T a s t ≤ 0) : wrongT T a s t = 0 ∧ noL (T.G (Int.toNat a)) (T.lo (Int.toNat a)) = true := by
  have hwc := wrong_c T a s t
  unfold wrongRT at h
  by_cases h1 : 0 < wrongT T a s t
  · rw [if_pos h1] at h; omega
  · rw [if_neg h1] at h
    refine ⟨by omega, ?_⟩
    cases h2 : noL (T.G (Int.toNat a)) (T.lo (Int.toNat a))
    · rw [h2] at h; exact absurd h (by decide)
    · rfl
theorem ok_rounds (hX : xBase X) (d : Nat) (hT : NTok T) (hI : MI I T) (ha : xin a) (hs : xin s) (ht : xin t) : xRet rI X m_X10_rounds (d + 5) [xr (1, 0), xi a, xi s, xi t] c I 0 0 (fun v I9 => keepM I I9 ∧ (v, I9 (1, 0) 32) = roundsA T a s t) xNo := by
  have hwc := wrongRT_c T a s t
  refine xRet_of hX pl_X10_rounds (LE1 rfl) fun V hV => rg_X10_rounds_0 hV I _ _ _ ⟨_, ok_wrongRounds hX d hT hI ha hs ht, ?_⟩
  rintro _ I ⟨rfl, rfl⟩
  refine ⟨⟨by omega, by omega⟩, ?_⟩
  rintro J e1
  have e32 : J (1, 0) 32 = wrongRT T a s t := by rw [e1, xu_same]
  have k1 : keepM I J := by rw [e1]; exact keepM.thrown _
  clear e1
  rw [e32]
  refine ⟨fun h => ?_, fun h => ⟨k1, by unfold roundsA; rw [wE_p h]⟩⟩
  obtain ⟨hw, hnl⟩ := wrongRT_00 h
  have hw0 : wrongRT T a s t = 0 := by omega
  obtain ⟨i, s, t, rfl, rfl, rfl, hi, hs9, ht9, hst⟩ := wrong_0 (show wrongT T a s t ≤ 0 by omega)
  rw [tnN] at hnl
  obtain ⟨hG, hB, -⟩ := hT.2 i hi
  obtain ⟨hM, hN, -⟩ := (hI.keep k1).2.2 i hi
  refine ⟨_, ok_roundsTo hX d hG hM hN (noL_0 hnl) (hT.hb hi) hs9 ht9 hst (r := -1) ⟨by decide, by decide⟩, ?_⟩
  rintro v K ⟨k2, rfl, -, -⟩
  refine ⟨k1.tr k2.keep, ?_⟩
  rw [k2.2 32 (by decide) (by decide), e32, hw0]
  unfold roundsA RdTo
  rw [hw0, wE_0 rfl, if_neg (by omega), tnN, tnN, tnN]
theorem ok_isRound (hX : xBase X) (d : Nat) (hT : NTok T) (hI : MI I T) {i s t : Nat} (hi : i < T.N) (hs : s < (T.G i).n) (ht : t < (T.G i).n) (hst : s ≠ t) (hnl : noL (T.G i) (T.lo i) = true) (hr : xin r) : xRet rB X m_X10_isRound (d + 5) [xr (1, 0), xi (i : Int), xi (s : Int), xi (t : Int), xi r] c I 0 0 (fun v I9 => kpR I I9 ∧ v = decide (0 ≤ r ∧ r < (MC (T.G i) (T.hi i) s t : Int)) ∧ (v = true → I9 (1, 0) 27 = (kC (T.G i) (T.hi i) (FC (T.G i) (T.hi i) s t (Int.toNat r)) s t : Int) ∧ I9 (1, 0) 28 = aC (T.G i) (T.hi i) (FC (T.G i) (T.hi i) s t (Int.toNat r)) s t ∧ ∀ x, x < kC (T.G i) (T.hi i) (FC (T.G i) (T.hi i) s t (Int.toNat r)) s t → I9 (1, 22) x = (s16 (wC (T.G i) (T.hi i) (FC (T.G i) (T.hi i) s t (Int.toNat r)) s t x) : Int))) xNo := by
  obtain ⟨hG, hB, -⟩ := hT.2 i hi
  obtain ⟨hM, hN, -⟩ := hI.2.2 i hi
  obtain ⟨M1, M2, M3⟩ := MC_ok hG hs ht hst (hT.hb hi)
  refine xRet_of hX pl_X10_isRound (LE1 rfl) fun V hV => rg_X10_isRound_0 hV I _ _ _ _ ⟨hr, fun h => ⟨⟨kp.rfl, fun _ _ _ => rfl⟩, (decide_eq_false (by omega)).symm, fun z => by cases z⟩, fun h => ⟨_, ok_roundsTo hX d hG hM hN (noL_0 hnl) (hT.hb hi) hs ht hst hr, ?_⟩⟩
  rintro v K ⟨k2, rfl, k3, k4⟩
  by_cases hc : 0 ≤ r ∧ r < (MC (T.G i) (T.hi i) s t : Int)
  · have hR : RdTo (MC (T.G i) (T.hi i) s t) r = Int.toNat r := by unfold RdTo; rw [if_pos hc]
    rw [hR] at k3 k4 ⊢
    have hk := M3 (Int.toNat r) (by omega)
    refine ⟨⟨by omega, by omega⟩, fun h9 => by omega, fun _ => ⟨fun h9 => by omega, fun _ => ⟨k2, (decide_eq_true hc).symm, fun _ => ⟨k3, k4 hk⟩⟩⟩⟩
  · have hR : RdTo (MC (T.G i) (T.hi i) s t) r = MC (T.G i) (T.hi i) s t := by unfold RdTo; rw [if_neg hc]
    rw [hR] at k3 k4 ⊢
    refine ⟨⟨by omega, by omega⟩, fun h9 => ⟨k2, (decide_eq_false hc).symm, fun z => by cases z⟩, fun h9 => ⟨fun _ => ⟨k2, (decide_eq_false hc).symm, fun z => by cases z⟩, fun q => ?_⟩⟩
    rw [k3, M2] at q
    exact absurd q (by decide)
theorem ok_roundAmount (hX : xBase X) (d : Nat) (hT : NTok T) (hI : MI I T) (ha : xin a) (hs : xin s) (ht : xin t) (hr : xin r) : xRet rI X m_X10_roundAmount (d + 6) [xr (1, 0), xi a, xi s, xi t, xi r] c I 0 0 (fun v I9 => keepM I I9 ∧ (v, I9 (1, 0) 32) = roundAmountA T a s t r) xNo := by
  have hwc := wrongRT_c T a s t
  refine xRet_of hX pl_X10_roundAmount (LE1 rfl) fun V hV => rg_X10_roundAmount_0 hV I _ _ _ _ ⟨_, ok_wrongRounds hX (d + 1) hT hI ha hs ht, ?_⟩
  rintro _ I ⟨rfl, rfl⟩
  refine ⟨⟨by omega, by omega⟩, ?_⟩
  rintro J e1
  have e32 : J (1, 0) 32 = wrongRT T a s t := by rw [e1, xu_same]
  have k1 : keepM I J := by rw [e1]; exact keepM.thrown _
  clear e1
  have bad : ∀ K, keepM I K → ∀ w : Int, 0 < w → w ≤ 4 → roundAmountA T a s t r = (0, w) → V 43 [(0, xr (1, 0))] [xi w, xr (1, 0)] (K, xst c) 0 0 := fun K hK w w0 w3 hA => rg_X10_roundAmount_43 hV K _ ⟨⟨by omega, by omega⟩, by
    rintro K2 rfl
    rw [xu_same]
    exact ⟨fun h => by omega, fun _ => ⟨hK.tr (keepM.thrown _), by rw [hA]⟩⟩⟩
  rw [e32]
  refine ⟨fun h => ?_, fun h => bad J k1 _ h (by omega) (by unfold roundAmountA; rw [wE_p h])⟩
  obtain ⟨hw, hnl⟩ := wrongRT_00 h
  have hw0 : wrongRT T a s t = 0 := by omega
  obtain ⟨i, s, t, rfl, rfl, rfl, hi, hs9, ht9, hst⟩ := wrong_0 (show wrongT T a s t ≤ 0 by omega)
  rw [tnN] at hnl
  have hA : roundAmountA T (i : Int) (s : Int) (t : Int) r = roundAmountG (T.G i) (T.hi i) s t r := by unfold roundAmountA; rw [hw0, wE_0 rfl, tnN, tnN, tnN]
  refine ⟨_, ok_isRound hX d hT (hI.keep k1) hi hs9 ht9 hst hnl hr, ?_⟩
  rintro v K ⟨k2, hv, k3⟩
  refine ⟨fun z => bad K (k1.tr k2.keep) 4 (by decide) (by decide) ?_, fun z => rg_X10_roundAmount_43 hV K _ ⟨⟨by decide, by decide⟩, ?_⟩⟩
  · rw [z] at hv
    rw [hA]
    unfold roundAmountG
    rw [if_neg (of_decide_eq_false hv.symm)]
  · have k4 := k3 z
    rw [z] at hv
    rintro K2 e2
    have j32 : K2 (1, 0) 32 = 0 := by rw [e2, xu_same]
    rw [j32]
    refine ⟨fun _ => ⟨(k1.tr k2.keep).tr (by rw [e2]; exact keepM.thrown _), ?_⟩, fun h9 => absurd h9 (by decide)⟩
    rw [hA, e2, xu_k (by decide), k4.2.1]
    unfold roundAmountG
    rw [if_pos (of_decide_eq_true hv.symm)]
theorem ok_roundSign (hX : xBase X) (d : Nat) (hT : NTok T) (hI : MI I T) (ha : xin a) (hs : xin s) (ht : xin t) (hr : xin r) (hx : xin x) : xRet rI X m_X10_roundSign (d + 6) [xr (1, 0), xi a, xi s, xi t, xi r, xi x] c I 0 0 (fun v I9 => keepM I I9 ∧ (v, I9 (1, 0) 32) = roundSignA T a s t r x) xNo := by
  have hwc := wrongRT_c T a s t
  refine xRet_of hX pl_X10_roundSign (LE1 rfl) fun V hV => rg_X10_roundSign_0 hV I _ _ _ _ _ ⟨_, ok_wrongRounds hX (d + 1) hT hI ha hs ht, ?_⟩
  rintro _ I ⟨rfl, rfl⟩
  refine ⟨⟨by omega, by omega⟩, ?_⟩
  rintro J e1
  have e32 : J (1, 0) 32 = wrongRT T a s t := by rw [e1, xu_same]
  have k1 : keepM I J := by rw [e1]; exact keepM.thrown _
  clear e1
  have bad : ∀ K, keepM I K → ∀ w : Int, 0 < w → w ≤ 4 → roundSignA T a s t r x = (0, w) → V 58 [(0, xr (1, 0)), (5, xi x)] [xi w, xr (1, 0)] (K, xst c) 0 0 := fun K hK w w0 w3 hA => rg_X10_roundSign_58 hV K _ _ ⟨⟨by omega, by omega⟩, by
    rintro K2 rfl
    rw [xu_same]
    exact ⟨fun h => by omega, fun _ => ⟨hK.tr (keepM.thrown _), by rw [hA]⟩⟩⟩
  rw [e32]
  refine ⟨fun h => ?_, fun h => bad J k1 _ h (by omega) (by unfold roundSignA; rw [wE_p h])⟩
  obtain ⟨hw, hnl⟩ := wrongRT_00 h
  have hw0 : wrongRT T a s t = 0 := by omega
  obtain ⟨i, s, t, rfl, rfl, rfl, hi, hs9, ht9, hst⟩ := wrong_0 (show wrongT T a s t ≤ 0 by omega)
  rw [tnN] at hnl
  obtain ⟨hG, hB, -⟩ := hT.2 i hi
  have hn8 := hG.2.1
  obtain ⟨M1, M2, M3⟩ := MC_ok hG hs9 ht9 hst (hT.hb hi)
  have hA : roundSignA T (i : Int) (s : Int) (t : Int) r x = roundSignG (T.G i) (T.hi i) s t r x := by unfold roundSignA; rw [hw0, wE_0 rfl, tnN, tnN, tnN]
  refine ⟨_, ok_isRound hX d hT (hI.keep k1) hi hs9 ht9 hst hnl hr, ?_⟩
  rintro v K ⟨k2, hv, k3⟩
  refine ⟨fun z => rg_X10_roundSign_57 hV K _ (bad K (k1.tr k2.keep) 4 (by decide) (by decide) ?_), fun z => ?_⟩
  · rw [z] at hv
    rw [hA]
    unfold roundSignG
    rw [if_neg (fun q => of_decide_eq_false hv.symm q.1)]
  · have k4 := k3 z
    rw [z] at hv
    have hrc := of_decide_eq_true hv.symm
    have hk0 := M3 (Int.toNat r) (by omega)
    obtain ⟨hw9, hkn⟩ := wayC hG hs9 hst hk0
    rw [k4.1]
    refine ⟨_, ok_in hX (d + 5) hx ⟨by decide, by decide⟩ ⟨by omega, by omega⟩, ?_⟩
    rintro _ K ⟨rfl, rfl⟩
    refine ⟨fun y => rg_X10_roundSign_57 hV K _ (bad K (k1.tr k2.keep) 4 (by decide) (by decide) ?_), fun y => rg_X10_roundSign_58 hV K _ _ ⟨⟨by decide, by decide⟩, ?_⟩⟩
    · have y := of_decide_eq_false y
      rw [hA]
      unfold roundSignG
      rw [if_neg (fun q => y (by omega))]
    · have y := of_decide_eq_true y
      rintro K2 e2
      have j32 : K2 (1, 0) 32 = 0 := by rw [e2, xu_same]
      rw [j32]
      refine ⟨fun _ => ⟨⟨by omega, by omega⟩, (k1.tr k2.keep).tr (by rw [e2]; exact keepM.thrown _), ?_⟩, fun h9 => absurd h9 (by decide)⟩
      rw [hA, e2, xu_p (by decide), k4.2.2 _ (by omega)]
      unfold roundSignG
      rw [if_pos ⟨hrc, by omega⟩]
end MRG
