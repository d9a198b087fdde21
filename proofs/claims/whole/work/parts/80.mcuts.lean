/-! the reference's cut, cuts, cutSum -/
section MCU
variable {X : xX} {c : xCx} {I : xIn} {T : NT} {a s t : Int}
theorem MB.of {I : xIn} {m : Nat} {lo hi : Nat → Int} (h : ∀ e, e < m → I (1, 17) e = lo e ∧ I (1, 18) e = hi e) : MB I m lo hi := h
/-- most was told, or why it was not -/
theorem ok_mostC (hX : xBase X) (d : Nat) (hT : NTok T) (hI : MI I T) (ha : xin a) (hs : xin s) (ht : xin t) : xRet rI X m_X10_most (d + 5) [xr (1, 0), xi a, xi s, xi t] c I 0 0 (fun v I9 => keepM I I9 ∧ ((0 < wrongT T a s t ∧ v = 0 ∧ I9 (1, 0) 32 = wrongT T a s t) ∨ (wrongT T a s t = 0 ∧ ∃ i s9 t9 : Nat, a = (i : Int) ∧ s = (s9 : Int) ∧ t = (t9 : Int) ∧ i < T.N ∧ s9 < (T.G i).n ∧ t9 < (T.G i).n ∧ s9 ≠ t9 ∧ ((amountF (T.G i) (T.lo i) (T.hi i) s9 t9 = NONE9 ∧ v = 0 ∧ I9 (1, 0) 32 = 3) ∨ (amountF (T.G i) (T.lo i) (T.hi i) s9 t9 ≠ NONE9 ∧ v = amountF (T.G i) (T.lo i) (T.hi i) s9 t9 ∧ I9 (1, 0) 32 = 0 ∧ (-3200 ≤ v ∧ v ≤ 3200) ∧ MB I9 (T.G i).m (T.lo i) (T.hi i)))))) xNo := by
  refine xRet_w (ok_most hX d hT hI ha hs ht) ?_ (fun _ _ h => h)
  rintro v J ⟨k1, k2, k3⟩
  refine ⟨k1, ?_⟩
  have hwc := wrong_c T a s t
  by_cases hw : wrongT T a s t = 0
  · obtain ⟨i, s9, t9, rfl, rfl, rfl, hi, hs9, ht9, hst⟩ := wrong_0 (show wrongT T a s t ≤ 0 by omega)
    rw [mostV_0 hw] at k3
    refine Or.inr ⟨hw, i, s9, t9, rfl, rfl, rfl, hi, hs9, ht9, hst, ?_⟩
    have hab := amount_in hT hi hs9 ht9 hst
    by_cases hn : amountF (T.G i) (T.lo i) (T.hi i) s9 t9 = NONE9
    · rw [if_pos hn] at k3
      injection k3 with v0 v1
      exact Or.inl ⟨hn, v0, v1⟩
    · rw [if_neg hn] at k3
      injection k3 with v0 v1
      refine Or.inr ⟨hn, v0, v1, ?_, fun e he => ?_⟩
      · rcases hab with h | ⟨h1, h2, -⟩
        · exact absurd h hn
        · omega
      · have := k2 e (by rw [tnN]; exact he) v1
        rw [tnN] at this
        exact this
  · left
    unfold mostV at k3
    rw [if_pos (by omega)] at k3
    injection k3 with v0 v1
    exact ⟨by omega, v0, v1⟩
theorem ok_cut (hX : xBase X) (d : Nat) (hT : NTok T) (hI : MI I T) (ha : xin a) (hs : xin s) (ht : xin t) (far : Bool) : xRet rI X m_X10_cut (d + 6) [xr (1, 0), xi a, xi s, xi t, xi (xbi far)] c I 0 0 (fun v I9 => keepM I I9 ∧ (v, I9 (1, 0) 32) = cutA T a s t far) xNo := by
  refine xRet_of hX pl_X10_cut (LE1 rfl) fun V hV => rg_X10_cut_0 hV I _ _ _ _ ⟨_, ok_mostC hX d hT hI ha hs ht, ?_⟩
  rintro v J ⟨k1, hc⟩
  have out : ∀ l6 : Int, 0 < J (1, 0) 32 → (0, J (1, 0) 32) = cutA T a s t far → V 26 [(0, xr (1, 0)), (1, xi a), (2, xi s), (3, xi t), (4, xi (xbi far)), (5, xi v), (6, xi l6), (7, xi 0)] [] (J, xst c) 0 0 := fun l6 h1 h2 => rg_X10_cut_26 hV J _ _ _ _ _ _ _ ⟨fun _ => rg_X10_cut_91 hV J _ ⟨fun h => by omega, fun _ => ⟨k1, h2⟩⟩, fun h => by omega⟩
  have both : (∀ l6 : Int, V 26 [(0, xr (1, 0)), (1, xi a), (2, xi s), (3, xi t), (4, xi (xbi far)), (5, xi v), (6, xi l6), (7, xi 0)] [] (J, xst c) 0 0) ∨ V 26 [(0, xr (1, 0)), (1, xi a), (2, xi s), (3, xi t), (4, xi (xbi far)), (5, xi v), (6, xi (if far then 0 else 255)), (7, xi 0)] [] (J, xst c) 0 0 := by
    rcases hc with ⟨hw, rfl, e32⟩ | ⟨hw, i, s, t, rfl, rfl, rfl, hi, hs9, ht9, hst, ⟨hn, rfl, e32⟩ | ⟨hn, hv, e32, hvb, hMB⟩⟩
    · refine Or.inl fun l6 => out l6 (by omega) ?_
      unfold cutA
      rw [wE_p hw, e32]
    · refine Or.inl fun l6 => out l6 (by omega) ?_
      unfold cutA
      rw [wE_0 hw, tnN, tnN, tnN, e32, cutG, if_pos hn]
    · right
      obtain ⟨hG, hB, -⟩ := hT.2 i hi
      obtain ⟨hM, -⟩ := (hI.keep k1).2.2 i hi
      have hgn := hG.2.1
      have g2 := pow2_le8 hgn
      have hA : cutA T (i : Int) (s : Int) (t : Int) far = ((((if far then orF (cutQ (T.G i) (T.lo i) (T.hi i) s t) (2 ^ (T.G i).n) else andF (cutQ (T.G i) (T.lo i) (T.hi i) s t) (2 ^ (T.G i).n)) : Nat) : Int), (0 : Int)) := by
        unfold cutA
        rw [wE_0 hw, tnN, tnN, tnN, cutG, if_neg hn]
      have hcb := cutV_bd hG.2.2.1 (hT.b100 hi)
      generalize hN : 2 ^ (T.G i).n = N at g2 hA
      have loop := up_to0 (m := N) (W := fun S => V 26 [(0, xr (1, 0)), (1, xi (i : Int)), (2, xi (s : Int)), (3, xi (t : Int)), (4, xi (xbi far)), (5, xi v), (6, xi ((if far then orF (cutQ (T.G i) (T.lo i) (T.hi i) s t) S else andF (cutQ (T.G i) (T.lo i) (T.hi i) s t) S) : Nat)), (7, xi (S : Int))] [] (J, xst c) 0 0) ?_ ?_
      · cases far
        · exact loop
        · exact loop
      · refine rg_X10_cut_26 hV J _ _ _ _ _ _ _ ⟨fun h => absurd e32 h, fun _ => ⟨_, ok_setsN hX (d + 5) hG hM hN, ?_⟩⟩
        rintro _ J ⟨rfl, rfl⟩
        exact ⟨⟨by omega, by omega⟩, ⟨by omega, by omega⟩, fun _ => rg_X10_cut_91 hV J _ ⟨fun _ => ⟨k1, by rw [hA, e32]⟩, fun h => by omega⟩, fun h => by omega⟩
      · intro S hS ih
        have hS2 : S ≤ 2147483647 := by omega
        have hcS := hcb S
        refine rg_X10_cut_26 hV J _ _ _ _ _ _ _ ⟨fun h => absurd e32 h, fun _ => ⟨_, ok_setsN hX (d + 5) hG hM hN, ?_⟩⟩
        rintro _ J ⟨rfl, rfl⟩
        refine ⟨⟨by omega, by omega⟩, ⟨by omega, by omega⟩, fun h => by omega, fun _ => ⟨_, ok_isBetween hX (d + 4) hS2 (by omega) (by omega), ?_⟩⟩
        rintro _ J ⟨rfl, rfl⟩
        have hq : cutQ (T.G i) (T.lo i) (T.hi i) s t S = (btw s t S && decide (cutV (T.G i) (T.lo i) (T.hi i) S = amountF (T.G i) (T.lo i) (T.hi i) s t)) := rfl
        have skip : cutQ (T.G i) (T.lo i) (T.hi i) s t S = false → V 26 [(0, xr (1, 0)), (1, xi (i : Int)), (2, xi (s : Int)), (3, xi (t : Int)), (4, xi (xbi far)), (5, xi v), (6, xi ((if far then orF (cutQ (T.G i) (T.lo i) (T.hi i) s t) S else andF (cutQ (T.G i) (T.lo i) (T.hi i) s t) S) : Nat)), (7, xi ((S : Int) + 1))] [] (J, xst c) 0 0 := fun z => by
          rw [orF, andF, z] at ih
          exact ih
        refine ⟨fun z => skip (by rw [hq]; exact (congrArg (· && _) z).trans rfl), fun z => ⟨_, ok_sumOf hX (d + 2) hG hM hMB hS2, ?_⟩⟩
        rintro _ J ⟨rfl, rfl⟩
        have z : btw s t S = true := z
        rw [z, Bool.true_and] at hq
        change xin (cutV (T.G i) (T.lo i) (T.hi i) S) ∧ _ ∧ (cutV (T.G i) (T.lo i) (T.hi i) S ≠ v → _) ∧ (cutV (T.G i) (T.lo i) (T.hi i) S = v → _)
        refine ⟨⟨by omega, by omega⟩, ⟨by omega, by omega⟩, fun h => skip (by rw [hq]; exact decide_eq_false (by rw [← hv]; exact h)), fun h => ?_⟩
        have hq9 : cutQ (T.G i) (T.lo i) (T.hi i) s t S = true := by rw [hq]; exact decide_eq_true (by rw [← hv]; exact h)
        rw [orF, andF, if_pos hq9, if_pos hq9] at ih
        refine ⟨fun z => ?_, fun z => ?_⟩
        · rw [z] at ih ⊢
          have := andF_le (cutQ (T.G i) (T.lo i) (T.hi i) s t) S
          simp only [Bool.false_eq_true, if_false] at ih ⊢
          rw [v_and_nat (by omega)]
          exact ih
        · rw [z] at ih ⊢
          have := orF_lt (cutQ (T.G i) (T.lo i) (T.hi i) s t) (n := S) (by omega)
          simp only [if_true] at ih ⊢
          rw [v_or_nat (by omega) (by omega)]
          exact ih
  refine ⟨fun z => ?_, fun z => ?_⟩ <;> rcases both with b | b
  · exact b _
  · rw [z] at b ⊢; exact b
  · exact b _
  · rw [z] at b ⊢; exact b
theorem ok_cuts (hX : xBase X) (d : Nat) (hT : NTok T) (hI : MI I T) (ha : xin a) (hs : xin s) (ht : xin t) : xRet rI X m_X10_cuts (d + 6) [xr (1, 0), xi a, xi s, xi t] c I 0 0 (fun v I9 => keepM I I9 ∧ (v, I9 (1, 0) 32) = cutsA T a s t) xNo := by
  refine xRet_of hX pl_X10_cuts (LE1 rfl) fun V hV => rg_X10_cuts_0 hV I _ _ _ ⟨_, ok_mostC hX d hT hI ha hs ht, ?_⟩
  rintro v J ⟨k1, hc⟩
  have out : 0 < J (1, 0) 32 → (0, J (1, 0) 32) = cutsA T a s t → V 15 [(0, xr (1, 0)), (1, xi a), (2, xi s), (3, xi t), (4, xi v), (5, xi 0), (6, xi 0)] [] (J, xst c) 0 0 := fun h1 h2 => rg_X10_cuts_15 hV J _ _ _ _ _ _ ⟨fun _ => ⟨k1, h2⟩, fun h => by omega⟩
  rcases hc with ⟨hw, rfl, e32⟩ | ⟨hw, i, s, t, rfl, rfl, rfl, hi, hs9, ht9, hst, ⟨hn, rfl, e32⟩ | ⟨hn, hv, e32, hvb, hMB⟩⟩
  · refine out (by omega) ?_
    unfold cutsA
    rw [wE_p hw, e32]
  · refine out (by omega) ?_
    unfold cutsA
    rw [wE_0 hw, tnN, tnN, tnN, e32, cutsG, if_pos hn]
  · obtain ⟨hG, hB, -⟩ := hT.2 i hi
    obtain ⟨hM, -⟩ := (hI.keep k1).2.2 i hi
    have hgn := hG.2.1
    have g2 := pow2_le8 hgn
    have hA : cutsA T (i : Int) (s : Int) (t : Int) = (((cntF (cutQ (T.G i) (T.lo i) (T.hi i) s t) (2 ^ (T.G i).n) : Nat) : Int), (0 : Int)) := by
      unfold cutsA
      rw [wE_0 hw, tnN, tnN, tnN, cutsG, if_neg hn]
    have hcb := cutV_bd hG.2.2.1 (hT.b100 hi)
    generalize hN : 2 ^ (T.G i).n = N at g2 hA
    refine up_to0 (m := N) (W := fun S => V 15 [(0, xr (1, 0)), (1, xi (i : Int)), (2, xi (s : Int)), (3, xi (t : Int)), (4, xi v), (5, xi (cntF (cutQ (T.G i) (T.lo i) (T.hi i) s t) S : Nat)), (6, xi (S : Int))] [] (J, xst c) 0 0) ?_ ?_
    · refine rg_X10_cuts_15 hV J _ _ _ _ _ _ ⟨fun h => absurd e32 h, fun _ => ⟨_, ok_setsN hX (d + 5) hG hM hN, ?_⟩⟩
      rintro _ J ⟨rfl, rfl⟩
      exact ⟨⟨by omega, by omega⟩, ⟨by omega, by omega⟩, fun _ => ⟨k1, by rw [hA, e32]⟩, fun h => by omega⟩
    · intro S hS ih
      have hS2 : S ≤ 2147483647 := by omega
      have hcS := hcb S
      refine rg_X10_cuts_15 hV J _ _ _ _ _ _ ⟨fun h => absurd e32 h, fun _ => ⟨_, ok_setsN hX (d + 5) hG hM hN, ?_⟩⟩
      rintro _ J ⟨rfl, rfl⟩
      refine ⟨⟨by omega, by omega⟩, ⟨by omega, by omega⟩, fun h => by omega, fun _ => ⟨_, ok_isBetween hX (d + 4) hS2 (by omega) (by omega), ?_⟩⟩
      rintro _ J ⟨rfl, rfl⟩
      have hq : cutQ (T.G i) (T.lo i) (T.hi i) s t S = (btw s t S && decide (cutV (T.G i) (T.lo i) (T.hi i) S = amountF (T.G i) (T.lo i) (T.hi i) s t)) := rfl
      have skip : cutQ (T.G i) (T.lo i) (T.hi i) s t S = false → V 15 [(0, xr (1, 0)), (1, xi (i : Int)), (2, xi (s : Int)), (3, xi (t : Int)), (4, xi v), (5, xi ((cntF (cutQ (T.G i) (T.lo i) (T.hi i) s t) S : Nat) + 0)), (6, xi ((S : Int) + 1))] [] (J, xst c) 0 0 := fun z => by
        rw [cntF, z] at ih
        rw [Int.add_zero]
        exact ih
      refine ⟨fun z => skip (by rw [hq]; exact (congrArg (· && _) z).trans rfl), fun z => ⟨_, ok_sumOf hX (d + 2) hG hM hMB hS2, ?_⟩⟩
      rintro _ J ⟨rfl, rfl⟩
      have z : btw s t S = true := z
      rw [z, Bool.true_and] at hq
      change xin (cutV (T.G i) (T.lo i) (T.hi i) S) ∧ _ ∧ (cutV (T.G i) (T.lo i) (T.hi i) S ≠ v → _) ∧ (cutV (T.G i) (T.lo i) (T.hi i) S = v → _)
      refine ⟨⟨by omega, by omega⟩, ⟨by omega, by omega⟩, fun h => skip (by rw [hq]; exact decide_eq_false (by rw [← hv]; exact h)), fun h => ?_⟩
      have hq9 : cutQ (T.G i) (T.lo i) (T.hi i) s t S = true := by rw [hq]; exact decide_eq_true (by rw [← hv]; exact h)
      rw [cntF, if_pos hq9] at ih
      exact ih
theorem ok_cutSum (hX : xBase X) (d : Nat) (hT : NTok T) (hI : MI I T) (ha : xin a) (hs : xin s) (ht : xin t) {S : Int} (hS : xin S) : xRet rI X m_X10_cutSum (d + 4) [xr (1, 0), xi a, xi s, xi t, xi S] c I 0 0 (fun v I9 => keepM I I9 ∧ (v, I9 (1, 0) 32) = cutSumA T a s t S) xNo := by
  have hwc := wrong_c T a s t
  refine xRet_of hX pl_X10_cutSum (LE1 rfl) fun V hV => ?_
  have bad : ∀ (J : xIn) (w : Int), keepM I J → xin w → 0 < w → cutSumA T a s t S = (0, w) → V 57 [(0, xr (1, 0)), (1, xi a), (4, xi S)] [xi w, xr (1, 0)] (J, xst c) 0 0 := fun J w k1 h1 h2 h3 => rg_X10_cutSum_57 hV J _ _ _ ⟨h1, by
    rintro J2 rfl
    rw [xu_same]
    exact ⟨fun h => by omega, fun _ => ⟨k1.tr (keepM.thrown _), by rw [h3]⟩⟩⟩
  refine rg_X10_cutSum_0 hV I _ _ _ _ (mo_wrong hX d hT hI ha hs ht fun J k1 e32 => ?_)
  rw [e32]
  refine ⟨fun h => ?_, fun h => bad J _ k1 ⟨by omega, by omega⟩ h (by unfold cutSumA; rw [wE_p h])⟩
  have hw : wrongT T a s t = 0 := by omega
  obtain ⟨i, s, t, rfl, rfl, rfl, hi, hs9, ht9, hst⟩ := wrong_0 h
  obtain ⟨hG, hB, -⟩ := hT.2 i hi
  have hJ := hI.keep k1
  obtain ⟨hM, hN, -⟩ := hJ.2.2 i hi
  have hgn := hG.2.1
  have g2 := pow2_le8 hgn
  have hA : cutSumA T (i : Int) (s : Int) (t : Int) S = if 0 ≤ S ∧ S < ((2 ^ (T.G i).n : Nat) : Int) ∧ btw s t (Int.toNat S) = true then (cutV (T.G i) (T.lo i) (T.hi i) (Int.toNat S), 0) else (0, 2) := by
    unfold cutSumA
    rw [wE_0 hw, tnN, tnN, tnN, cutSumG]
  generalize hNN : 2 ^ (T.G i).n = N at g2 hA
  refine ⟨_, ok_setsN hX (d + 3) hG hM hNN, ?_⟩
  rintro _ J ⟨rfl, rfl⟩
  refine ⟨_, ok_in hX (d + 3) hS ⟨by omega, by omega⟩ ⟨by omega, by omega⟩, ?_⟩
  rintro _ J ⟨rfl, rfl⟩
  refine ⟨fun z => rg_X10_cutSum_52 hV J _ _ (bad J 2 k1 ⟨by decide, by decide⟩ (by decide) ?_), fun z => ?_⟩
  · have := of_decide_eq_false z
    rw [hA, if_neg (by omega)]
  have z := of_decide_eq_true z
  obtain ⟨S, rfl⟩ := Int.eq_ofNat_of_zero_le z.1
  rw [tnN] at hA
  have hS2 : S ≤ 2147483647 := by omega
  refine ⟨_, ok_isBetween hX (d + 2) hS2 (by omega) (by omega), ?_⟩
  rintro _ J ⟨rfl, rfl⟩
  refine ⟨fun w => ?_, fun w => rg_X10_cutSum_52 hV J _ _ (bad J 2 k1 ⟨by decide, by decide⟩ (by decide) ?_)⟩
  rotate_left
  · have w : btw s t S = false := w
    rw [hA, w]; simp
  have w : btw s t S = true := w
  rw [if_pos ⟨z.1, by omega, w⟩] at hA
  refine rg_X10_cutSum_57 hV J _ _ _ ⟨⟨by decide, by decide⟩, ?_⟩
  rintro J2 h2
  have e2 : J2 (1, 0) 32 = 0 := by rw [h2, xu_same]
  have k2 : keepM J J2 := by rw [h2]; exact keepM.thrown _
  rw [e2]
  refine ⟨fun _ => ?_, fun h => absurd h (by decide)⟩
  obtain ⟨hM2, hN2, -⟩ := (hJ.keep k2).2.2 i hi
  refine ⟨_, ok_looksAt hX (d + 3) hG hM2 hN2, ?_⟩
  rintro _ J3 ⟨a1, a2⟩
  refine ⟨_, ok_sumOf hX d hG (a1.MG hM2) a2 hS2, ?_⟩
  rintro _ J3 ⟨rfl, rfl⟩
  refine ⟨(k1.tr k2).tr a1.keep, ?_⟩
  rw [hA, a1.keep.1 (1, 0) |> fun _ => (show J3 (1, 0) 32 = 0 by rw [a1 (1, 0) (by decide)]; exact e2)]
  rfl
end MCU
