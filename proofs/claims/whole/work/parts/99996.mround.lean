/-! the reference: rounding, number by number -/
section RAL
variable {X : xX} {c : xCx} {I : xIn} {B : TB}
theorem ok_roundsAll (hX : xBase X) (d : Nat) (hB : TBok B) (hC : MTB I B) : xRet rU X m_X10_roundsAll (d + 3) [xr (1, 0)] c I 0 0 (fun _ I9 => kp [(1, 13)] I I9 ∧ ∀ p, p < B.r * B.k → I9 (1, 13) p = rndT B.r B.k B.te p) xNo := by
  obtain ⟨h13, h14, h12⟩ := id hC
  obtain ⟨⟨hr1, hr⟩, ⟨hk1, hk⟩, ht9⟩ := hB
  generalize B.r = r at *
  generalize B.k = k at *
  generalize B.te = te at *
  have hrk := rk16 hr hk
  have hm : (r : Int) * (k : Int) = ((r * k : Nat) : Int) := (Int.natCast_mul r k).symm
  have hpos : 0 < r * k := Nat.mul_pos hr1 hk1
  have ht : ∀ p, p < r * k → I (1, 12) p = te p ∧ 0 ≤ te p ∧ te p ≤ 999 := fun p hp => ⟨h12 p (by omega), ht9 p (by omega)⟩
  have hte : ∀ p, p < r * k → 0 ≤ te p ∧ te p ≤ 999 := fun p hp => (ht p hp).2
  have hz := rnd_good hte hr hk
  have zn : ∀ p, p < r * k → NearAt r k te (rndT r k te) p := fun p hp => good_near hz hp
  have zl := hz.1
  have pw := fun p => pw8 (n := r * k - p) (by omega)
  refine xRet_of hX pl_X10_roundsAll (LE1 rfl) fun V hV => ?_
  -- the end
  have fin : ∀ J, kp [(1, 13)] I J → BkA r k te (J (1, 13)) (r * k) → (LxP (rndT r k te) (J (1, 13)) (r * k - 1) ∨ EqP (rndT r k te) (J (1, 13)) (r * k - 1)) → V 19 [(0, xr (1, 0)), (1, xi ((r * k : Nat) : Int)), (2, xi (xbi false))] [] (J, xst c) 0 0 := by
    intro J kJ hA hL
    refine rg_X10_roundsAll_19 hV J _ _ ?_
    rw [show J (1, 0) 13 = I (1, 0) 13 from by rw [kJ _ (by simp)], show J (1, 0) 14 = I (1, 0) 14 from by rw [kJ _ (by simp)], h13, h14, hm]
    have hg : GoodT r k te (J (1, 13)) := near_good hr1 hk1 (fun p hp => hA.1 p (by omega) hp) (fun p hp => hA.2 p hp)
    refine ⟨⟨by omega, by omega⟩, fun h => by omega, fun _ => ⟨⟨by omega, by omega⟩, fun _ => ⟨kJ, fun p hp => ?_⟩, fun h => by omega⟩⟩
    rcases hL with ⟨j, j1, j2, j3⟩ | hE
    · have := rnd_le hg (show j < r * k by omega) j2
      omega
    · exact hE p (by omega)
  have loop : ∀ fuel : Nat, (∀ (J : xIn) (p : Nat), p < r * k → kp [(1, 13)] I J → BkA r k te (J (1, 13)) p → (LxP (rndT r k te) (J (1, 13)) p ∨ EqP (rndT r k te) (J (1, 13)) p) → 20000000000000000 - bkM r k te (J (1, 13)) (p + 1) ≤ fuel → V 19 [(0, xr (1, 0)), (1, xi (p : Int)), (2, xi (xbi false))] [] (J, xst c) 0 0) ∧ (∀ (J : xIn) (p : Nat), p < r * k → kp [(1, 13)] I J → BkA r k te (J (1, 13)) p → LxP (rndT r k te) (J (1, 13)) p → 20000000000000000 - bkM r k te (J (1, 13)) (p + 1) - ((8 ^ (r * k - p) : Nat) : Int) ≤ fuel → V 19 [(0, xr (1, 0)), (1, xi (p : Int)), (2, xi (xbi true))] [] (J, xst c) 0 0) := by
    intro fuel
    induction fuel with
    | zero =>
      refine ⟨fun J p hp _ _ _ hf => ?_, fun J p hp _ _ _ hf => ?_⟩
      · have := bkM_bd (r := r) (k := k) (te := te) (w := J (1, 13)) hrk (p + 1) (by omega); omega
      · have := bkM_bd (r := r) (k := k) (te := te) (w := J (1, 13)) hrk (p + 1) (by omega); have := pw p; omega
    | succ fuel ih =>
      obtain ⟨ih1, ih2⟩ := ih
      -- back, or one more
      have back : ∀ (J : xIn) (p : Nat) (b : Bool), p < r * k → kp [(1, 13)] I J → BkA r k te (J (1, 13)) p → LxP (rndT r k te) (J (1, 13)) p → 20000000000000000 - bkM r k te (J (1, 13)) (p + 1) - ((8 ^ (r * k - p) : Nat) : Int) ≤ fuel + 1 → V 52 [(0, xr (1, 0)), (1, xi (p : Int)), (2, xi (xbi b))] [] (J, xst c) 0 0 := by
        intro J p b hp kJ hA hL hf
        have hwp := hA.1 p (Nat.le_refl p) hp
        have htp := ht p hp
        have jt : J (1, 12) p = te p := by rw [kJ _ (by simp)]; exact htp.1
        have hzp := zl p hp
        have hpp := pw p
        unfold nearv at hwp hzp
        rw [bkM_s] at hf
        refine rg_X10_roundsAll_52 hV J _ _ (rg_X10_roundsAll_53 hV J _ _ _ ⟨⟨by decide, by decide⟩, fun _ => ⟨⟨by omega, by omega⟩, ?_⟩, fun h => absurd rfl h⟩)
        rw [tnN, jt]
        refine ⟨⟨by omega, by omega⟩, ⟨by omega, by omega⟩, fun h => ?_, fun h => ⟨⟨by omega, by omega⟩, ?_⟩⟩
        · obtain ⟨j, j1, j2, j3⟩ := hL
          have hjp : j < p := by
            by_cases hc : j = p
            · rw [hc] at j3; omega
            · omega
          have h8 := pw8_s (r := r) (k := k) (p := p) (by omega) (by omega)
          have hp1 := pw (p - 1)
          rw [show (p : Int) + (-1) = ((p - 1 : Nat) : Int) by omega]
          refine ih2 J (p - 1) (by omega) kJ ⟨fun q hq hqr => hA.1 q (by omega) hqr, fun q hq => hA.2 q (by omega)⟩ ⟨j, by omega, j2, j3⟩ ?_
          rw [show p - 1 + 1 = p by omega, h8]
          split at hf <;> omega
        · rintro K hK
          have k13 : K (1, 13) = upL (J (1, 13)) p (J (1, 13) p + 1) := by rw [hK, xuL]
          have kK : kp [(1, 13)] I K := by rw [hK]; exact kJ.xu (by simp)
          clear hK
          refine ih1 K p hp kK ⟨fun q hq hqr => ?_, fun q hq => ?_⟩ ?_ ?_
          · rw [k13]
            by_cases hqp : q = p
            · rw [hqp, upL_s]; unfold nearv; omega
            · rw [upL_n hqp]; exact hA.1 q hq hqr
          · refine near_cong (by omega) (fun y hy => ?_) (hA.2 q hq)
            rw [k13, upL_n (by omega)]
          · obtain ⟨j, j1, j2, j3⟩ := hL
            by_cases hjp : j = p
            · by_cases hc : J (1, 13) p + 1 < rndT r k te p
              · left
                refine ⟨p, Nat.le_refl p, fun q hq => ?_, by rw [k13, upL_s]; exact hc⟩
                rw [k13, upL_n (by omega)]; exact j2 q (by omega)
              · right
                intro q hq
                rw [k13]
                by_cases hqp : q = p
                · rw [hqp, upL_s]; rw [hjp] at j3; omega
                · rw [upL_n hqp]; exact j2 q (by omega)
            · left
              refine ⟨j, j1, fun q hq => ?_, ?_⟩
              · rw [k13, upL_n (by omega)]; exact j2 q hq
              · rw [k13, upL_n hjp]; exact j3
          · rw [bkM_s, k13, upL_s, bkM_cong (v := J (1, 13)) (fun q hq => upL_n (by omega)), if_neg (show ¬ J (1, 13) p + 1 = te p / 10 by omega)]
            rw [if_pos (show J (1, 13) p = te p / 10 by omega)] at hf
            omega
      refine ⟨fun J p hp kJ hA hL hf => ?_, fun J p hp kJ hA hL hf => ?_⟩
      rotate_left
      · refine rg_X10_roundsAll_19 hV J _ _ ?_
        rw [show J (1, 0) 13 = I (1, 0) 13 from by rw [kJ _ (by simp)], show J (1, 0) 14 = I (1, 0) 14 from by rw [kJ _ (by simp)], h13, h14, hm]
        exact ⟨⟨by omega, by omega⟩, fun h => by omega, fun _ => ⟨⟨by omega, by omega⟩, fun h => by omega, fun _ => ⟨fun _ => back J p true hp kJ hA hL (by omega), fun h => Bool.noConfusion h⟩⟩⟩
      · have hpp := pw p
        have j13 : J (1, 0) 13 = (r : Int) := by rw [kJ _ (by simp)]; exact h13
        have j14 : J (1, 0) 14 = (k : Int) := by rw [kJ _ (by simp)]; exact h14
        have j12 : J (1, 12) = I (1, 12) := kJ _ (by simp)
        refine rg_X10_roundsAll_19 hV J _ _ ?_
        rw [j13, j14, hm]
        refine ⟨⟨by omega, by omega⟩, fun h => by omega, fun _ => ⟨⟨by omega, by omega⟩, fun h => by omega, fun _ => ⟨fun h => Bool.noConfusion h, fun _ => ⟨_, ok_areNear (te := te) hX d j13 j14 ⟨hr1, hr⟩ ⟨hk1, hk⟩ hp (fun q hq => ?_) (fun q hq => by rw [j12]; exact ht q hq), ?_⟩⟩⟩⟩
        · have := hA.1 q hq (by omega)
          have := hte q (by omega)
          unfold nearv at *
          omega
        rintro v J ⟨rfl, hv⟩
        refine ⟨fun z => back J p false hp kJ hA ?_ (by omega), fun z => ?_⟩
        · rcases hL with hL | hE
          · exact hL
          · exfalso
            have := hv.2 (near_cong hp (fun q hq => (hE q hq).symm) (zn p hp))
            rw [z] at this
            cases this
        · have hn := hv.1 z
          refine rg_X10_roundsAll_53 hV J _ _ _ ⟨⟨by decide, by decide⟩, fun h => absurd h (by decide), fun _ => ⟨⟨by omega, by omega⟩, ?_⟩⟩
          rw [j13, j14, hm]
          refine ⟨⟨by omega, by omega⟩, fun h => ?_, fun h => ⟨⟨by omega, by omega⟩, ?_⟩⟩
          · have e1 : p + 1 = r * k := by omega
            rw [show (p : Int) + 1 = ((r * k : Nat) : Int) by omega]
            refine fin J kJ ⟨fun q hq hqr => hA.1 q (by omega) hqr, fun q hq => ?_⟩ ?_
            · by_cases hqp : q = p
              · rw [hqp]; exact hn
              · exact hA.2 q (by omega)
            · rw [show r * k - 1 = p by omega]; exact hL
          · have hp1 : p + 1 < r * k := by omega
            have ht1 := ht (p + 1) hp1
            have hz1 := zl (p + 1) hp1
            unfold nearv at hz1
            have hpp1 := pw (p + 1)
            rw [show (p : Int) + 1 = ((p + 1 : Nat) : Int) by omega, tnN, j12, ht1.1]
            refine ⟨⟨by omega, by omega⟩, ⟨by omega, by omega⟩, ?_⟩
            rintro K hK
            have k13 : K (1, 13) = upL (J (1, 13)) (p + 1) (te (p + 1) / 10) := by rw [hK, xuL]
            have kK : kp [(1, 13)] I K := by rw [hK]; exact kJ.xu (by simp)
            clear hK
            have hsame : ∀ q, q ≤ p → K (1, 13) q = J (1, 13) q := fun q hq => by rw [k13, upL_n (by omega)]
            refine ih1 K (p + 1) hp1 kK ⟨fun q hq hqr => ?_, fun q hq => ?_⟩ ?_ ?_
            · by_cases hqp : q = p + 1
              · rw [hqp, k13, upL_s]; unfold nearv; omega
              · rw [hsame q (by omega)]; exact hA.1 q (by omega) hqr
            · refine near_cong (w := J (1, 13)) (by omega) (fun y hy => (hsame y (by omega)).symm) ?_
              by_cases hqp : q = p
              · rw [hqp]; exact hn
              · exact hA.2 q (by omega)
            · rcases hL with hL | hE
              · exact Or.inl (LxP_up _ hsame hL)
              · by_cases hc : te (p + 1) / 10 < rndT r k te (p + 1)
                · left
                  exact ⟨p + 1, Nat.le_refl _, fun q hq => by rw [hsame q (by omega)]; exact hE q (by omega), by rw [k13, upL_s]; exact hc⟩
                · right
                  intro q hq
                  by_cases hqp : q = p + 1
                  · rw [hqp, k13, upL_s]; omega
                  · rw [hsame q (by omega)]; exact hE q (by omega)
            · rw [bkM_s, bkM_cong (v := J (1, 13)) (fun q hq => hsame q (by omega)), k13, upL_s, if_pos rfl]
              omega
  have ht0 := ht 0 hpos
  have hz0 := zl 0 hpos
  unfold nearv at hz0
  refine rg_X10_roundsAll_0 hV I ?_
  rw [show Int.toNat 0 = 0 from rfl, ht0.1]
  refine ⟨⟨by omega, by omega⟩, ⟨by omega, by omega⟩, ?_⟩
  rintro K hK
  have k13 : K (1, 13) = upL (I (1, 13)) 0 (te 0 / 10) := by rw [hK, xuL]
  have kK : kp [(1, 13)] I K := by rw [hK]; exact kp.rfl.xu (by simp)
  clear hK
  have hb := bkM_bd (r := r) (k := k) (te := te) (w := K (1, 13)) hrk (0 + 1) (by omega)
  refine (loop 20000000000000000).1 K 0 hpos kK ⟨fun q hq _ => ?_, fun q hq => absurd hq (Nat.not_lt_zero q)⟩ ?_ (by omega)
  · rw [show q = 0 by omega, k13, upL_s]; unfold nearv; omega
  · by_cases hc : te 0 / 10 < rndT r k te 0
    · left
      exact ⟨0, Nat.le_refl _, fun q hq => absurd hq (Nat.not_lt_zero q), by rw [k13, upL_s]; exact hc⟩
    · right
      intro q hq
      rw [show q = 0 by omega, k13, upL_s]; omega
end RAL
section RAM
variable {X : xX} {c : xCx} {I : xIn} {B : TB}
theorem inB_in {a : Int} {n : Nat} : decide (0 ≤ a ∧ a ≤ (n : Int) - 1) = inB a n := rfl
theorem ok_table (hX : xBase X) (d : Nat) (hC : MTB I B) {m w : Int} (hm : xin m) (hw : xin w) : xRet rI X m_X10_table (d + 1) [xr (1, 0), xi m, xi w] c I 0 0 (fun v I9 => kp [(1, 0), (1, 12)] I I9 ∧ (∀ j, j ≠ 13 → j ≠ 14 → j ≠ 32 → I9 (1, 0) j = I (1, 0) j) ∧ MTB I9 (tableA B m w).2 ∧ (v, I9 (1, 0) 32) = (tableA B m w).1) xNo := by
  obtain ⟨h13, h14, h12⟩ := id hC
  refine xRet_of hX pl_X10_table (LE1 rfl) fun V hV => ?_
  have bad : (¬ ((1 ≤ m ∧ m ≤ 4) ∧ 1 ≤ w ∧ w ≤ 4)) → V 19 [(0, xr (1, 0)), (1, xi m), (2, xi w)] [xr (1, 0)] (I, xst c) 0 0 := fun hno => rg_X10_table_19 hV I _ _ (rg_X10_table_24 hV I _ _ _ ⟨⟨by decide, by decide⟩, by
    rintro K rfl
    rw [xu_same]
    refine ⟨fun h => absurd h (by decide), fun _ => ⟨kp.rfl.xu (by simp), fun j _ _ hj => xu_k hj, ?_, ?_⟩⟩
    · unfold tableA
      rw [if_neg hno]
      exact ⟨by rw [xu_k (by decide)]; exact h13, by rw [xu_k (by decide)]; exact h14, fun p hp => by rw [xu_p (by decide)]; exact h12 p hp⟩
    · unfold tableA
      rw [if_neg hno]⟩)
  refine rg_X10_table_0 hV I _ _ ⟨_, ok_in hX d hm ⟨by decide, by decide⟩ ⟨by decide, by decide⟩, ?_⟩
  rintro _ I ⟨rfl, rfl⟩
  refine ⟨fun z => bad (fun q => of_decide_eq_false z q.1), fun z => ⟨_, ok_in hX d hw ⟨by decide, by decide⟩ ⟨by decide, by decide⟩, ?_⟩⟩
  rintro _ I ⟨rfl, rfl⟩
  refine ⟨fun y => ?_, fun y => bad (fun q => of_decide_eq_false y q.2)⟩
  have hz := of_decide_eq_true z
  have hy := of_decide_eq_true y
  obtain ⟨m, rfl⟩ := Int.eq_ofNat_of_zero_le (show 0 ≤ m by omega)
  obtain ⟨w, rfl⟩ := Int.eq_ofNat_of_zero_le (show 0 ≤ w by omega)
  refine rg_X10_table_24 hV I _ _ _ ⟨⟨by decide, by decide⟩, ?_⟩
  rintro J1 e1
  rw [show J1 (1, 0) 32 = 0 by rw [e1, xu_same]]
  refine ⟨fun _ => ⟨hm, ?_⟩, fun h => absurd h (by decide)⟩
  rintro J2 e2
  refine ⟨hw, ?_⟩
  rintro J3 e3
  have k3 : kp [(1, 0), (1, 12)] I J3 := by rw [e3, e2, e1]; exact ((kp.rfl.xu (by simp)).xu (by simp)).xu (by simp)
  have a13 : J3 (1, 0) 13 = (m : Int) := by rw [e3, xu_k (by decide), e2, xu_same]
  have a14 : J3 (1, 0) 14 = (w : Int) := by rw [e3, xu_same]
  have a32 : J3 (1, 0) 32 = 0 := by rw [e3, xu_k (by decide), e2, xu_k (by decide), e1, xu_same]
  have aj : ∀ j, j ≠ 13 → j ≠ 14 → j ≠ 32 → J3 (1, 0) j = I (1, 0) j := fun j h1 h2 h3 => by rw [e3, xu_k h2, e2, xu_k h1, e1, xu_k h3]
  clear e1 e2 e3
  refine up_to0 (m := 16) (W := fun p => ∀ J, kp [(1, 0), (1, 12)] I J → J (1, 0) = J3 (1, 0) → (∀ q, q < p → J (1, 12) q = 0) → V 48 [(0, xr (1, 0)), (3, xi (p : Int))] [] (J, xst c) 0 0) ?_ ?_ J3 k3 rfl (fun q hq => absurd hq (Nat.not_lt_zero q))
  · intro J kJ q0 hJ
    refine rg_X10_table_48 hV J _ ⟨⟨by omega, by omega⟩, fun _ => ⟨kJ, fun j h1 h2 h3 => by rw [q0]; exact aj j h1 h2 h3, ?_, ?_⟩, fun h => by omega⟩
    · unfold tableA
      rw [if_pos ⟨hz, hy⟩]
      exact ⟨by rw [q0, a13]; rfl, by rw [q0, a14]; rfl, hJ⟩
    · unfold tableA
      rw [if_pos ⟨hz, hy⟩, q0, a13, a14, a32]
  · intro p hp ih J kJ q0 hJ
    refine rg_X10_table_48 hV J _ ⟨⟨by omega, by omega⟩, fun h => by omega, fun _ => ⟨⟨by omega, by omega⟩, ?_⟩⟩
    rintro _ rfl
    refine ih _ (kJ.xu (by simp)) (by rw [xu_p (by decide)]; exact q0) fun q hq => ?_
    rw [xuL, tnN]
    rcases upL_c (J (1, 12)) p 0 q with ⟨w1, w2⟩ | ⟨w1, w2⟩
    · exact w2
    · rw [w2]; exact hJ q (by omega)
theorem ok_tell (hX : xBase X) (d : Nat) (hB : TBok B) (hC : MTB I B) {a b v : Int} (ha : xin a) (hb : xin b) (hv : xin v) : xRet rI X m_X10_tell (d + 1) [xr (1, 0), xi a, xi b, xi v] c I 0 0 (fun w I9 => kp [(1, 0), (1, 12)] I I9 ∧ (∀ j, j ≠ 32 → I9 (1, 0) j = I (1, 0) j) ∧ MTB I9 (tellA B a b v).2 ∧ (w, I9 (1, 0) 32) = (tellA B a b v).1) xNo := by
  obtain ⟨h13, h14, h12⟩ := id hC
  have hr4 := hB.1.2
  have hk4 := hB.2.1.2
  refine xRet_of hX pl_X10_tell (LE1 rfl) fun V hV => ?_
  have bad : ∀ w : Int, 0 < w → w ≤ 3 → tellA B a b v = ((0, w), B) → V 49 [(0, xr (1, 0)), (1, xi a), (2, xi b), (3, xi v)] [xi w, xr (1, 0)] (I, xst c) 0 0 := fun w w0 w3 hA => rg_X10_tell_49 hV I _ _ _ _ ⟨⟨by omega, by omega⟩, by
    rintro K rfl
    rw [xu_same]
    refine ⟨fun h => by omega, fun _ => ⟨kp.rfl.xu (by simp), fun j hj => xu_k hj, ?_, ?_⟩⟩
    · rw [hA]
      exact ⟨by rw [xu_k (by decide)]; exact h13, by rw [xu_k (by decide)]; exact h14, fun p hp => by rw [xu_p (by decide)]; exact h12 p hp⟩
    · rw [hA]⟩
  refine rg_X10_tell_0 hV I _ _ _ ?_
  rw [h13]
  refine ⟨_, ok_in hX d ha ⟨by decide, by decide⟩ ⟨by omega, by omega⟩, ?_⟩
  rintro _ I ⟨rfl, rfl⟩
  rw [h14, inB_in]
  refine ⟨fun z => rg_X10_tell_29 hV I _ _ _ (bad 1 (by decide) (by decide) (by unfold tellA plB; rw [z]; rfl)), fun z => ⟨_, ok_in hX d hb ⟨by decide, by decide⟩ ⟨by omega, by omega⟩, ?_⟩⟩
  rintro _ I ⟨rfl, rfl⟩
  rw [inB_in]
  refine ⟨fun y => ⟨_, ok_in hX d hv ⟨by decide, by decide⟩ ⟨by decide, by decide⟩, ?_⟩, fun y => rg_X10_tell_29 hV I _ _ _ (bad 1 (by decide) (by decide) (by unfold tellA plB; rw [y, Bool.and_false]; rfl))⟩
  rintro _ I ⟨rfl, rfl⟩
  have hpl : plB B a b = true := by unfold plB; rw [z, y]; rfl
  refine ⟨fun x => ?_, fun x => bad 2 (by decide) (by decide) (by unfold tellA; rw [if_pos hpl, if_neg (of_decide_eq_false x)])⟩
  have hx := of_decide_eq_true x
  obtain ⟨a, rfl, ha9⟩ := inB_nat z
  obtain ⟨b, rfl, hb9⟩ := inB_nat y
  have hrk := rk16 hr4 hk4
  have hcell := cell_lt ha9 hb9
  have hpe : plP B (a : Int) (b : Int) = a * B.k + b := by unfold plP; rw [tnN, tnN]
  refine rg_X10_tell_49 hV I _ _ _ _ ⟨⟨by decide, by decide⟩, ?_⟩
  rintro J1 e1
  have q14 : J1 (1, 0) 14 = (B.k : Int) := by rw [e1, xu_k (by decide)]; exact h14
  rw [show J1 (1, 0) 32 = 0 by rw [e1, xu_same], q14, castC, tnN]
  refine ⟨fun _ => ⟨⟨by omega, by omega⟩, ?_⟩, fun h => absurd h (by decide)⟩
  rintro _ rfl
  refine ⟨hv, ?_⟩
  rintro J2 e2
  have k2 : kp [(1, 0), (1, 12)] I J2 := by rw [e2, e1]; exact (kp.rfl.xu (by simp)).xu (by simp)
  have j0 : ∀ j, J2 (1, 0) j = (xu I (1, 0) 32 0) (1, 0) j := fun j => by rw [e2, xu_p (by decide), e1]
  have j12 : J2 (1, 12) = upL (I (1, 12)) (a * B.k + b) v := by rw [e2, xuL, e1, xu_p (by decide)]
  have jv : J1 (1, 12) (a * B.k + b) = B.te (a * B.k + b) := by rw [e1, xu_p (by decide)]; exact h12 _ (by omega)
  unfold tellA
  rw [if_pos hpl, if_pos hx, hpe, jv]
  refine ⟨k2, fun j hj => by rw [j0, xu_k hj], ⟨by rw [j0, xu_k (by decide)]; exact h13, by rw [j0, xu_k (by decide)]; exact h14, fun p hp => ?_⟩, by rw [j0, xu_same]⟩
  rw [j12]
  show upL (I (1, 12)) (a * B.k + b) v p = upL B.te (a * B.k + b) v p
  rcases upL_c (I (1, 12)) (a * B.k + b) v p with ⟨w1, w2⟩ | ⟨w1, w2⟩
  · rw [w2, w1, upL_s]
  · rw [w2, upL_n w1]; exact h12 p hp
theorem ok_rounded (hX : xBase X) (d : Nat) (hB : TBok B) (hC : MTB I B) {a b : Int} (ha : xin a) (hb : xin b) : xRet rI X m_X10_rounded (d + 4) [xr (1, 0), xi a, xi b] c I 0 0 (fun w I9 => kp [(1, 0), (1, 13)] I I9 ∧ (∀ j, j ≠ 32 → I9 (1, 0) j = I (1, 0) j) ∧ (w, I9 (1, 0) 32) = roundedA B a b) xNo := by
  obtain ⟨h13, h14, h12⟩ := id hC
  have hr4 := hB.1.2
  have hk4 := hB.2.1.2
  refine xRet_of hX pl_X10_rounded (LE1 rfl) fun V hV => ?_
  have bad : roundedA B a b = (0, 1) → V 29 [(0, xr (1, 0)), (1, xi a), (2, xi b)] [xr (1, 0)] (I, xst c) 0 0 := fun hA => rg_X10_rounded_29 hV I _ _ (rg_X10_rounded_34 hV I _ _ _ ⟨⟨by decide, by decide⟩, by
    rintro K rfl
    rw [xu_same]
    exact ⟨fun h => absurd h (by decide), fun _ => ⟨kp.rfl.xu (by simp), fun j hj => xu_k hj, by rw [hA]⟩⟩⟩)
  refine rg_X10_rounded_0 hV I _ _ ?_
  rw [h13]
  refine ⟨_, ok_in hX (d + 3) ha ⟨by decide, by decide⟩ ⟨by omega, by omega⟩, ?_⟩
  rintro _ I ⟨rfl, rfl⟩
  rw [h14, inB_in]
  refine ⟨fun z => bad (by unfold roundedA plB; rw [z]; rfl), fun z => ⟨_, ok_in hX (d + 3) hb ⟨by decide, by decide⟩ ⟨by omega, by omega⟩, ?_⟩⟩
  rintro _ I ⟨rfl, rfl⟩
  rw [inB_in]
  refine ⟨fun y => ?_, fun y => bad (by unfold roundedA plB; rw [y, Bool.and_false]; rfl)⟩
  have hpl : plB B a b = true := by unfold plB; rw [z, y]; rfl
  obtain ⟨a, rfl, ha9⟩ := inB_nat z
  obtain ⟨b, rfl, hb9⟩ := inB_nat y
  have hrk := rk16 hr4 hk4
  have hcell := cell_lt ha9 hb9
  have hpe : plP B (a : Int) (b : Int) = a * B.k + b := by unfold plP; rw [tnN, tnN]
  refine rg_X10_rounded_34 hV I _ _ _ ⟨⟨by decide, by decide⟩, ?_⟩
  rintro J1 e1
  have hM1 : MTB J1 B := ⟨by rw [e1, xu_k (by decide)]; exact h13, by rw [e1, xu_k (by decide)]; exact h14, fun p hp => by rw [e1, xu_p (by decide)]; exact h12 p hp⟩
  have j32 : J1 (1, 0) 32 = 0 := by rw [e1, xu_same]
  have k1 : kp [(1, 0), (1, 13)] I J1 := by rw [e1]; exact kp.rfl.xu (by simp)
  have s1 : ∀ j, j ≠ 32 → J1 (1, 0) j = I (1, 0) j := fun j hj => by rw [e1, xu_k hj]
  clear e1
  rw [j32]
  refine ⟨fun _ => ⟨_, ok_roundsAll hX d hB hM1, ?_⟩, fun h => absurd h (by decide)⟩
  rintro _ K ⟨kK, hK⟩
  have q0 : K (1, 0) = J1 (1, 0) := kK _ (by simp)
  rw [q0, hM1.2.1, castC, tnN, hK _ hcell]
  refine ⟨⟨by omega, by omega⟩, k1.tr (kK.mo (by simp)), s1, ?_⟩
  unfold roundedA
  rw [if_pos hpl, hpe, j32]
end RAM
