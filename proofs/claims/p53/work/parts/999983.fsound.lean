/-! the class: flows are sound, and all is -/
section FSN
variable {X : xX} {c : xCx} {I : xIn} {i : Nat} {G : Gr} {s t : Nat}
theorem st_fills (hX : xBase X) (d : Nat) (hC : CG I c i G) (hN : NB I i G.m) {H : Gr} (hF : FR I H) (hm : G.m ≤ H.m) {S : Nat} (hS : S ≤ 2147483647) (ht : tgtS G (I (i + 3, 3)) (I (i + 3, 4)) (I (0, 11)) S) : xRet rB X m_X6_fills (d + 3) [xr (0, 2), xr (i + 3, 0), xi (S : Int)] c I 0 0 (pv true I) xNo := by
  obtain ⟨c1, c2, c3, hG, c5⟩ := id hC
  have hm16 := hG.2.2.1
  have hn8 := hG.2.1
  refine xRet_of hX pl_X6_fills (LE1 rfl) fun V hV => rg_X6_fills_0 hV I i c1 _ ?_
  refine up_to0 (m := G.m) (W := fun k => V 2 [(0, xr (0, 2)), (1, xr (i + 3, 0)), (2, xi (S : Int)), (3, xi (k : Int))] [] (I, xst c) 0 0) ?_ ?_
  · refine rg_X6_fills_2 hV I i c1 _ _ ?_
    rw [c3]
    exact ⟨⟨by omega, by omega⟩, fun _ => pvI rfl, fun h => by omega⟩
  · intro k hk ih
    have hGk := hG.2.2.2 k hk
    have htk := ht k hk
    have hNk := hN k hk
    refine rg_X6_fills_2 hV I i c1 _ _ ?_
    rw [c3, tnN, (c5 k hk).1, (c5 k hk).2]
    refine ⟨⟨by omega, by omega⟩, fun h => by omega, fun _ => ⟨⟨by omega, by omega⟩, _, cn_hasOneOf hX (d + 1) hS (by omega) (by omega), ?_⟩⟩
    rintro _ J ⟨rfl, rfl⟩
    rw [(c5 k hk).1, (c5 k hk).2]
    refine ⟨_, cn_hasOneOf hX (d + 1) hS (by omega) (by omega), ?_⟩
    rintro _ J ⟨rfl, rfl⟩
    have h65 : V 65 [(0, xr (0, 2)), (1, xr (i + 3, 0)), (2, xi (S : Int)), (3, xi (k : Int)), (5, xi (xbi (btw (G.v k) (G.u k) S)))] [] (J, xst c) 0 0 := by
      refine rg_X6_fills_65 hV J i c1 _ _ _ ⟨fun _ => ih, fun h => ⟨_, st_numberOf hX d hF (e := k) (by omega), ?_⟩⟩
      rintro _ J ⟨rfl, rfl⟩
      have : J (0, 11) k = J (i + 3, 3) k := htk.2 (by
        have := btw_i.1 h
        unfold ens
        rw [this.1, this.2]; rfl)
      rw [tnN, this]
      exact ⟨⟨by omega, by omega⟩, ⟨by omega, by omega⟩, fun _ => ih, fun h => absurd rfl h⟩
    refine ⟨fun _ => h65, fun h => ⟨_, st_numberOf hX d hF (e := k) (by omega), ?_⟩⟩
    rintro _ J ⟨rfl, rfl⟩
    have : J (0, 11) k = J (i + 3, 4) k := htk.1 (by
      have := btw_i.1 h
      unfold lvs
      rw [this.1, this.2]; rfl)
    rw [this]
    exact ⟨⟨by omega, by omega⟩, fun h => absurd rfl h, fun _ => h65⟩
theorem cn_isCutSound (hX : xBase X) (d : Nat) (hC : CG I c i G) (hN : NB I i G.m) {H : Gr} (hF : FR I H) (hm : G.m ≤ H.m) {S : Nat} {a : Int} (hS : S ≤ 2147483647) (ha : -10000 ≤ a ∧ a ≤ 10000) (hcut : cutV G (I (i + 3, 3)) (I (i + 3, 4)) S = a) (ht : tgtS G (I (i + 3, 3)) (I (i + 3, 4)) (I (0, 11)) S) : xRet rB X m_X9_isCutSound (d + 4) [xr (0, 0), xr (i + 3, 0), xi (S : Int), xi a] c I 0 0 (fun v I9 => v = true ∧ kp [(0, 15)] I I9 ∧ ∀ j, 4 ≤ j → I9 (0, 15) j = I (0, 15) j) xNo := by
  refine xRet_of hX pl_X9_isCutSound (LE1 rfl) fun V hV => rg_X9_isCutSound_0 hV I i hC.1 _ _ ⟨_, cu_sumOfCut hX (d + 2) hC hN hS, ?_⟩
  rintro _ J ⟨kJ, j15, rfl⟩
  rw [hcut]
  have hnet : ∀ j, J (i + 3, j) = I (i + 3, j) := fun j => kJ _ (by simp)
  refine ⟨⟨by omega, by omega⟩, ⟨by omega, by omega⟩, fun h => absurd rfl h, fun _ => ⟨_, st_fills hX d (hC.eq hnet) (hN.eq hnet) (hF.kp kJ (by simp) (by simp) (by simp)) hm hS (by rw [hnet, hnet, kJ (0, 11) (by simp)]; exact ht), ?_⟩⟩
  rintro _ J ⟨rfl, rfl⟩
  exact ⟨fun h => Bool.noConfusion h, fun _ => ⟨rfl, kJ, j15⟩⟩
theorem DSX_edge {G : Gr} {lo hi co f D : Nat → Int} {s : Nat} {Z : Int} (hm : G.m ≤ 32) (h : DSX G lo hi co f s Z D) {e : Nat} (he : e < G.m) : (f e < hi e → D (G.u e) ≠ Z → D (G.v e) ≠ Z ∧ D (G.v e) ≤ D (G.u e) + co e) ∧ (lo e < f e → D (G.v e) ≠ Z → D (G.u e) ≠ Z ∧ D (G.u e) ≤ D (G.v e) - co e) := by
  refine ⟨fun h1 h2 => ?_, fun h1 h2 => ?_⟩
  · have c1 : e < 32 := by omega
    exact h.2.2 (G.u e) (G.v e) (co e) ⟨e, by omega, by unfold eg; rw [if_pos c1]; exact he, by unfold rsp; rw [if_pos c1]; omega, by unfold bgn; rw [if_pos c1], by unfold edn; rw [if_pos c1], by unfold sgn eg; rw [if_pos c1, if_pos c1]⟩ h2
  · have c1 : ¬ e + 32 < 32 := by omega
    have c2 : e + 32 - 32 = e := by omega
    have := h.2.2 (G.v e) (G.u e) (-co e) ⟨e + 32, by omega, by unfold eg; rw [if_neg c1, c2]; exact he, by unfold rsp; rw [if_neg c1, c2]; omega, by unfold bgn; rw [if_neg c1, c2], by unfold edn; rw [if_neg c1, c2], by unfold sgn eg; rw [if_neg c1, if_neg c1, c2]⟩ h2
    exact ⟨this.1, by have := this.2; omega⟩
theorem st_arePricesRight (hX : xBase X) (d : Nat) (hC : CG I c i G) (hN : NB I i G.m) {H : Gr} (hF : FR I H) (hm : G.m ≤ H.m) (hn : G.n ≤ H.n) {a : Nat} (hD : DSX G (I (i + 3, 3)) (I (i + 3, 4)) (I (i + 3, 5)) (I (0, 11)) a FAR9 (I (0, 12))) (hb : ∀ x, x < G.n → I (0, 12) x = FAR9 ∨ (-100000 ≤ I (0, 12) x ∧ I (0, 12) x ≤ 100000)) (hf : ∀ e, e < G.m → -10000 ≤ I (0, 11) e ∧ I (0, 11) e ≤ 10000) : xRet rB X m_X6_arePricesRight (d + 3) [xr (0, 2), xr (i + 3, 0)] c I 0 0 (pv true I) xNo := by
  obtain ⟨c1, c2, c3, hG, c5⟩ := id hC
  have hm16 := hG.2.2.1
  have hn8 := hG.2.1
  have hFA : FAR9 = 1000000000 := rfl
  refine xRet_of hX pl_X6_arePricesRight (LE1 rfl) fun V hV => rg_X6_arePricesRight_0 hV I i c1 ?_
  refine up_to0 (m := G.m) (W := fun k => V 2 [(0, xr (0, 2)), (1, xr (i + 3, 0)), (2, xi (k : Int))] [] (I, xst c) 0 0) ?_ ?_
  · refine rg_X6_arePricesRight_2 hV I i c1 _ ?_
    rw [c3]
    exact ⟨⟨by omega, by omega⟩, fun _ => pvI rfl, fun h => by omega⟩
  · intro k hk ih
    have hGk := hG.2.2.2 k hk
    have hNk := hN k hk
    have hDk := DSX_edge (by omega) hD hk
    have hbu := hb _ hGk.1
    have hbv := hb _ hGk.2.1
    have hfk := hf k hk
    refine rg_X6_arePricesRight_2 hV I i c1 _ ?_
    rw [c3, tnN, (c5 k hk).1]
    refine ⟨⟨by omega, by omega⟩, fun h => by omega, fun _ => ⟨⟨by omega, by omega⟩, _, st_priceOf hX d hF (x := G.u k) (by omega), ?_⟩⟩
    rintro _ J ⟨rfl, rfl⟩
    rw [(c5 k hk).2]
    refine ⟨_, st_priceOf hX d hF (x := G.v k) (by omega), ?_⟩
    rintro _ J ⟨rfl, rfl⟩
    refine ⟨_, st_numberOf hX d hF (e := k) (by omega), ?_⟩
    rintro _ J ⟨rfl, rfl⟩
    have h72 : V 72 [(0, xr (0, 2)), (1, xr (i + 3, 0)), (2, xi (k : Int)), (3, xi (J (0, 12) (G.u k))), (4, xi (J (0, 12) (G.v k))), (5, xi (J (0, 11) k))] [] (J, xst c) 0 0 := by
      refine rg_X6_arePricesRight_72 hV J i c1 _ _ _ _ ?_
      rw [tnN]
      refine ⟨⟨by omega, by omega⟩, ⟨by omega, by omega⟩, fun _ => ih, fun h => ⟨⟨by omega, by omega⟩, fun _ => ih, fun h2 => ⟨⟨by omega, by omega⟩, ⟨by omega, by omega⟩, fun _ => ih, fun h3 => ?_⟩⟩⟩
      have := hDk.2 h (by omega)
      omega
    refine ⟨⟨by omega, by omega⟩, fun _ => h72, fun h => ⟨⟨by omega, by omega⟩, fun _ => h72, fun h2 => ⟨⟨by omega, by omega⟩, ⟨by omega, by omega⟩, fun _ => h72, fun h3 => ?_⟩⟩⟩
    have := hDk.1 h (by omega)
    omega
theorem xin_m1 : xin (-1) := by unfold xin; omega
theorem cn_areRoundsSound (hX : xBase X) (d : Nat) (hC : CG I c i G) (hN : NB I i G.m) (hs : 0 < G.n) (ht : t < G.n) (ht0 : 0 ≠ t) {a : Int} (ha : a = amountF G (I (i + 3, 3)) (I (i + 3, 4)) 0 t) (hab : -10000 ≤ a ∧ a ≤ 10000) : xRet rB X m_X9_areRoundsSound (d + 5) [xr (0, 0), xr (i + 3, 0), xi (t : Int), xi a] c I 0 0 (fun v I9 => v = true ∧ kp ((0, 2) :: flP) I I9) xNo := by
  obtain ⟨c1, c2, c3, hG, c5⟩ := id hC
  have hm16 := hG.2.2.1
  have hn8 := hG.2.1
  have hb : ∀ e, e < G.m → 0 ≤ I (i + 3, 4) e ∧ I (i + 3, 4) e ≤ 99 := fun e he => by have := hN e he; omega
  have hxa : xin a := by
    clear ha hb hm16 hn8
    exact ⟨Int.le_trans (by decide) hab.1, Int.le_trans hab.2 (by decide)⟩
  refine xRet_of hX pl_X9_areRoundsSound (LE1 rfl) fun V hV => rg_X9_areRoundsSound_0 hV I i c1 _ _ ⟨_, nt_hasLeast hX (d + 4) hC, ?_⟩
  rintro _ J ⟨rfl, rfl⟩
  refine ⟨fun h => ?_, fun _ => ⟨rfl, kp.rfl⟩⟩
  have hlo := noL_0 (show noL G (J (i + 3, 3)) = true by cases h9 : noL G (J (i + 3, 3)) <;> simp_all)
  refine ⟨_, st_goRounds hX d hC hN hlo (s := 0) (t := t) hs ht ht0 (r := -1) xin_m1, ?_⟩
  rintro v K ⟨kK, hv, h5, -⟩
  have hgo : goneTo (MC G (J (i + 3, 4)) 0 t) (-1) = MC G (J (i + 3, 4)) 0 t := by
    unfold goneTo
    rw [if_neg (by omega)]
  rw [hgo] at hv h5
  have hfew := MC_few hG hs ht ht0 hb
  have hAC := AC_all (lo := J (i + 3, 3)) hG hs ht ht0 hb hlo
  have hnm : G.n * G.m ≤ 128 := Nat.mul_le_mul hn8 hm16
  have k0 : K (i + 3, 0) = J (i + 3, 0) := kK _ (by simp [flP])
  rw [k0, c2, c3, ← Int.natCast_mul, h5, hAC, ← ha, hv]
  exact ⟨⟨by omega, by omega⟩, ⟨by omega, by omega⟩, fun h => by omega, fun _ => ⟨hxa, fun h => absurd rfl h, fun _ => ⟨rfl, kK⟩⟩⟩
end FSN
section FSO
variable {X : xX} {c : xCx} {I : xIn} {i : Nat} {G : Gr} {B : TB} {lk : Nat → Nat} {T : NT}
theorem keepC.net {I J : xIn} (h : keepC I J) (i j : Nat) : J (i + 3, j) = I (i + 3, j) := h.1 _ (by simp [scrC]) (by simp) (by simp)
theorem cn_isFlowSound (hX : xBase X) (d : Nat) (hC : CG I c i G) (hN : NB I i G.m) : xRet rB X m_X9_isFlowSound (d + 6) [xr (0, 0), xr (i + 3, 0)] c I 0 0 (fun v I9 => v = true ∧ keepC I I9) xNo := by
  obtain ⟨c1, c2, c3, hG, c5⟩ := id hC
  have hn2 := hG.1
  have hm16 := hG.2.2.1
  have hn8 := hG.2.1
  have hs : 0 < G.n := by omega
  have ht : G.n - 1 < G.n := by omega
  have hst : (0 : Nat) ≠ G.n - 1 := by omega
  have hb100 : ∀ e, e < G.m → (-100 ≤ I (i + 3, 3) e ∧ I (i + 3, 3) e ≤ 100) ∧ (-100 ≤ I (i + 3, 4) e ∧ I (i + 3, 4) e ≤ 100) := fun e he => by have := hN e he; omega
  refine xRet_of hX pl_X9_isFlowSound (LE1 rfl) fun V hV => rg_X9_isFlowSound_0 hV I i c1 ?_
  rintro x1 hx1
  have hx1 : x1 = ((G.n - 1 : Nat) : Int) := by rw [hx1, c2]; omega
  subst hx1
  generalize htt : G.n - 1 = t at *
  refine ⟨_, st_lay hX (d + 1) hC hN (s := 0) (t := t) hs ht, ?_⟩
  rintro _ I1 hL
  obtain ⟨p1, p2, p3, p4, p5⟩ := hL.pre hN
  obtain ⟨-, l2, l3, l4, l5, l6⟩ := hL
  have w1 : ∀ e, e < G.m → I1 (0, 6) e = I (i + 3, 3) e := fun e he => (p3 e he).1
  have w2 : ∀ e, e < G.m → I1 (0, 7) e = I (i + 3, 4) e := fun e he => (p3 e he).2.1
  have w3 : ∀ e, e < G.m → I1 (0, 8) e = I (i + 3, 5) e := fun e he => (p3 e he).2.2
  have hamt : amountF G (I1 (0, 6)) (I1 (0, 7)) 0 t = amountF G (I (i + 3, 3)) (I (i + 3, 4)) 0 t := amountF_cong w1 w2
  refine ⟨_, st_fill hX (d + 1) hG hs ht hst l2 p2 (fun e he => ?_) p4 p5 l4 l5 l6, ?_⟩
  · have := hN e he
    rw [w1 e he, w2 e he]
    omega
  rintro v I2 ⟨k2, h2⟩
  have k1 : keepC I I1 := kpX.C p1
  have kI2 : keepC I I2 := k1.tr (kp.C k2.1 (by decide))
  rcases h2 with ⟨rfl, a0, p, f1, f2, f3, f4⟩ | ⟨rfl, h2⟩
  rotate_left
  · -- a crowd that says why not
    refine ⟨fun h => Bool.noConfusion h, fun _ => ?_⟩
    have hnet := kI2.net i
    refine ⟨_, cu_leastCrowd hX (d + 3) (hC.eq hnet) (hN.eq hnet) (s := 0) (t := t) (by omega) (by omega), ?_⟩
    rintro _ J ⟨kJ, rfl⟩
    have kIJ : keepC I J := kI2.tr (kp.C kJ (by decide))
    rw [hnet, hnet]
    rw [hamt] at h2
    have hff : ∃ S : Nat, S < 2 ^ G.n ∧ ff (crowdP G (I (i + 3, 3)) (I (i + 3, 4)) 0 t) (2 ^ G.n) = (S : Int) ∧ crowdP G (I (i + 3, 3)) (I (i + 3, 4)) 0 t S = true := by
      rcases ff_cases (crowdP G (I (i + 3, 3)) (I (i + 3, 4)) 0 t) (2 ^ G.n) with ⟨-, q⟩ | ⟨S, q1, q2, q3, -⟩
      · exact absurd h2 (flow_ex hG hs ht hst (fun e he => by have := hN e he; omega) q).1
      · exact ⟨S, q1, q2, q3⟩
    obtain ⟨S, q1, q2, q3⟩ := hff
    have g2 := pow2_le8 hn8
    rw [q2]
    unfold crowdP at q3
    rw [Bool.and_eq_true, beq_iff_eq, decide_eq_true_iff] at q3
    refine ⟨⟨by omega, by omega⟩, fun h => by omega, fun _ => ⟨_, cn_hasBit hX (d + 5) (S := S) (k := 0) (by omega) (by omega), ?_⟩⟩
    rintro _ J ⟨rfl, rfl⟩
    refine ⟨_, cn_hasBit hX (d + 5) (S := S) (k := t) (by omega) (by omega), ?_⟩
    rintro _ J ⟨rfl, rfl⟩
    have hnJ := kIJ.net i
    refine ⟨fun h => absurd q3.1 h, fun _ => ⟨_, cu_isCrowd hX (d + 4) (hC.eq hnJ) (hN.eq hnJ) (S := S) (by omega), ?_⟩⟩
    rintro _ K ⟨kK, rfl⟩
    rw [hnJ, hnJ, decide_eq_true q3.2]
    exact ⟨fun h => Bool.noConfusion h, fun _ => ⟨rfl, kIJ.tr (kp.C kK (by decide))⟩⟩
  refine ⟨fun _ => ?_, fun h => Bool.noConfusion h⟩
  rw [hamt] at f2 f3
  have hF2 := k2.fr l2
  have hab := amount_at hG hb100 f3
  have habd : -3200 ≤ amountF G (I (i + 3, 3)) (I (i + 3, 4)) 0 t ∧ amountF G (I (i + 3, 3)) (I (i + 3, 4)) 0 t ≤ 3200 := by
    obtain ⟨S, -, -, q⟩ := hab
    rw [← q]
    exact cutV_bd hG.2.2.1 hb100 S
  generalize hA : amountF G (I (i + 3, 3)) (I (i + 3, 4)) 0 t = a at *
  have hb16 : b100 G.m (I1 (0, 6)) (I1 (0, 7)) := fun e he => by
    have := hN e he
    rw [w1 e he, w2 e he]
    omega
  rw [show I2 (i + 3, 0) = I (i + 3, 0) from kI2.net i 0, c3]
  refine ⟨_, st_tellLeastRow hX (d + 1) hG hs ht hst hF2 f1 hb16, ?_⟩
  rintro _ I3 ⟨k3, r1, r2⟩
  have kI3 : keepC I I3 := kI2.tr (kp.C k3.1 (by decide))
  have hF3 := k3.fr hF2
  have hn3 := kI3.net i
  have h24 : I2 (0, 2) 4 = a := by rw [f4, f2]
  -- the row is a flow
  have hrow : FS G (I (i + 3, 3)) (I (i + 3, 4)) (isB 0 t a) (I3 (0, 11)) := by
    obtain ⟨t1, t2, t3, t4, t5, -⟩ := r1
    have tm := t4 G.m (Nat.lt_succ_self _)
    have hfs : FS (bk G 0 t) (I3 (0, 9)) (I3 (0, 10)) (isB 0 t p) (I3 (0, 11)) := ⟨fun e he => t4 e he, fun x _ => t5 x⟩
    have hg := bk_flow hs ht hst hfs (show I3 (0, 11) G.m = a0 by omega)
    rw [f2] at hg
    obtain ⟨f0, hf0⟩ : ∃ f, FS G (I1 (0, 6)) (I1 (0, 7)) (isB 0 t a) f := by
      obtain ⟨y1, y2, y3, y4, y5, -⟩ := f1
      have ym := y4 G.m (Nat.lt_succ_self _)
      have := bk_flow (a0 := a0) hs ht hst (⟨fun e he => y4 e he, fun x _ => y5 x⟩ : FS (bk G 0 t) (I2 (0, 9)) (I2 (0, 10)) (isB 0 t p) (I2 (0, 11))) (by omega)
      rw [f2] at this
      exact ⟨_, FS_cong4 (fun e he => (y1 e he).1) (fun e he => (y1 e he).2) (fun _ _ => rfl) this⟩
    have hlx := (lxF_ok hG.in hs ht hst hf0 (Nat.le_refl _)).1
    refine ⟨fun e he => ?_, hg.2⟩
    have z1 := hg.1 e he
    have z2 := t1 e he
    have z3 := hlx e he
    rw [f2] at z2
    rw [w1 e he, w2 e he] at z3
    omega
  obtain ⟨⟨n1, n2⟩, o1, o2⟩ := near_far hG hs ht hst hrow hab
  have hfl := flS_amount hG.2.1 hG.2.2.1 hb100 (s := 0) (t := t) (by rw [hA]; exact f3)
  rw [hA] at hfl
  have hflb := flS_bd (p := btw 0 t) (f := cutV G (I (i + 3, 3)) (I (i + 3, 4))) (n := 2 ^ G.n) (pow2_le8 hn8)
  refine ⟨_, cu_findLeast hX (d + 3) (hC.eq hn3) (hN.eq hn3) (s := 0) (t := t) (by omega) (by omega), ?_⟩
  rintro _ I4 ⟨k4, m4, m5, -⟩
  rw [hn3, hn3, hfl.2.1] at m4
  rw [hn3, hn3, hfl.2.2.1] at m5
  rw [hfl.2.1, hfl.2.2.1] at hflb
  have kI4 : keepC I I4 := kI3.tr (kp.C k4 (by decide))
  have hn4 := kI4.net i
  have hF4 : FR I4 (bk G 0 t) := hF3.kp k4 (by simp) (by simp) (by simp)
  have i411 : I4 (0, 11) = I3 (0, 11) := k4 _ (by simp)
  rw [m4, h24]
  refine ⟨_, cn_isCutSound hX (d + 1) (hC.eq hn4) (hN.eq hn4) hF4 (Nat.le_succ _) (by omega) (by omega) (by rw [hn4, hn4]; exact n1) (by rw [hn4, hn4, i411]; exact n2), ?_⟩
  rintro _ I5 ⟨rfl, k5, m15⟩
  have kI5 : keepC I I5 := kI4.tr (kp.C k5 (by decide))
  have hn5 := kI5.net i
  have hF5 : FR I5 (bk G 0 t) := hF4.kp k5 (by simp) (by simp) (by simp)
  have i511 : I5 (0, 11) = I3 (0, 11) := by rw [k5 _ (by simp)]; exact i411
  refine ⟨fun h => Bool.noConfusion h, fun _ => ?_⟩
  rw [m15 5 (by omega), m5]
  refine ⟨_, cn_isCutSound hX (d + 1) (hC.eq hn5) (hN.eq hn5) hF5 (Nat.le_succ _) (by omega) (by omega) (by rw [hn5, hn5]; exact o1) (by rw [hn5, hn5, i511]; exact o2), ?_⟩
  rintro _ I6 ⟨rfl, k6, -⟩
  have kI6 : keepC I I6 := kI5.tr (kp.C k6 (by decide))
  have hn6 := kI6.net i
  refine ⟨fun _ => ?_, fun h => Bool.noConfusion h⟩
  -- once more, as cheap as can be
  have hC6 := hC.eq hn6
  have hN6 := hN.eq hn6
  refine ⟨_, st_lay hX (d + 1) hC6 hN6 (s := 0) (t := t) hs ht, ?_⟩
  rintro _ L1 hL
  obtain ⟨P1, P2, P3, P4, P5⟩ := hL.pre hN6
  obtain ⟨-, L2, L3, L4, L5, L6⟩ := hL
  have W1 : ∀ e, e < G.m → L1 (0, 6) e = I (i + 3, 3) e := fun e he => by rw [(P3 e he).1, hn6]
  have W2 : ∀ e, e < G.m → L1 (0, 7) e = I (i + 3, 4) e := fun e he => by rw [(P3 e he).2.1, hn6]
  have W3 : ∀ e, e < G.m → L1 (0, 8) e = I (i + 3, 5) e := fun e he => by rw [(P3 e he).2.2, hn6]
  have hcm : L1 (0, 8) G.m = 0 := by rw [(L3 G.m (Nat.lt_succ_self _)).2.2.1, upL_s]
  have Hamt : amountF G (L1 (0, 6)) (L1 (0, 7)) 0 t = a := by rw [← hA]; exact amountF_cong W1 W2
  refine ⟨_, st_fill hX (d + 1) hG hs ht hst L2 P2 (fun e he => ?_) P4 P5 L4 L5 L6, ?_⟩
  · have := hN e he
    rw [W1 e he, W2 e he]
    omega
  rintro v M2 ⟨K2, H2⟩
  have kM2 : keepC I M2 := (kI6.tr (kpX.C P1)).tr (kp.C K2.1 (by decide))
  rcases H2 with ⟨rfl, b0, q, F1, F2, F3, F4⟩ | ⟨rfl, H2⟩
  rotate_left
  · rw [Hamt] at H2
    exact absurd H2 f3
  refine ⟨fun _ => ?_, fun h => Bool.noConfusion h⟩
  rw [Hamt] at F2
  have HF2 := K2.fr L2
  have e8 : M2 (0, 8) = L1 (0, 8) := K2.1 _ (by simp)
  have Hb16 : b100 G.m (L1 (0, 6)) (L1 (0, 7)) := fun e he => by
    have := hN e he
    rw [W1 e he, W2 e he]
    omega
  refine ⟨_, st_cheapen hX (d + 2) hG hs ht hst HF2 F1 Hb16 (fun e he => by
    have := hN e he
    rw [e8, W3 e he]
    omega) (by rw [e8]; exact hcm), ?_⟩
  rintro _ M3 ⟨K3, π, f, q1, q2, q3, q4⟩
  have HF3 := K3.fr HF2
  have kM3 : keepC I M3 := kM2.tr (kp.C K3.1 (by decide))
  rw [show M3 (i + 3, 0) = I (i + 3, 0) from kM3.net i 0, c3]
  refine ⟨_, st_tellLeastRow hX (d + 1) hG hs ht hst HF3 q3 q4, ?_⟩
  rintro _ M4 ⟨K4, y1, y2⟩
  have HF4 := K4.fr HF3
  have kM4 : keepC I M4 := kM3.tr (kp.C K4.1 (by decide))
  have z6 : M4 (0, 6) = L1 (0, 6) := by rw [K4.1 _ (by simp), K3.1 _ (by simp), K2.1 _ (by simp)]
  have z7 : M4 (0, 7) = L1 (0, 7) := by rw [K4.1 _ (by simp), K3.1 _ (by simp), K2.1 _ (by simp)]
  have z8 : M4 (0, 8) = L1 (0, 8) := by rw [K4.1 _ (by simp), K3.1 _ (by simp), e8]
  rw [e8] at q2 q3 q4 y2
  have hCH := CHR_of hG.in q1 q2
  have hz : ∀ e, e < G.m → (lxC G (fxl G (L1 (0, 6)) (L1 (0, 7)) (L1 (0, 8)) π) (fxh G (L1 (0, 6)) (L1 (0, 7)) (L1 (0, 8)) π) (isB 0 t (b0 + q)) G.m).1 e = M4 (0, 11) e := fun e he => by
    rw [y2 e he, lxF_C hs ht hst]
  have hle : costF G (L1 (0, 8)) (lxC G (fxl G (L1 (0, 6)) (L1 (0, 7)) (L1 (0, 8)) π) (fxh G (L1 (0, 6)) (L1 (0, 7)) (L1 (0, 8)) π) (isB 0 t (b0 + q)) G.m).1 = costF G (L1 (0, 8)) f := by
    have a := hCH.2.1 f q1
    have b := (opt hG.in q1 q2 hCH.1).1
    omega
  have hPT := PT_cong W1 W2 W3 hz (PT_opt hG.in q1 q2 hCH.1 hle)
  have hZf : FS G (I (i + 3, 3)) (I (i + 3, 4)) (isB 0 t (b0 + q)) (M4 (0, 11)) := FS_cong hz (FS_cong4 W1 W2 (fun _ _ => rfl) hCH.1)
  obtain ⟨-, t2, t3, t4, -, -⟩ := y1
  have tm := t4 G.m (Nat.lt_succ_self _)
  rw [show M4 (i + 3, 0) = I (i + 3, 0) from kM4.net i 0, c3]
  refine ⟨_, st_setPrices hX (d + 3) hG hs ht hst HF4 (lo := I (i + 3, 3)) (hi := I (i + 3, 4)) (co := I (i + 3, 5)) (fun e he => by rw [z6, z7, z8]; exact ⟨W1 e he, W2 e he, W3 e he⟩) (by rw [z8]; exact hcm) (by omega) (by omega) (fun e he => by have := hN e he; omega) hPT (a := 0) hs, ?_⟩
  rintro _ M5 ⟨K5, HF5, hD, hDb⟩
  have kM5 : keepC I M5 := kM4.tr (kp.C K5 (by decide))
  have hn9 := kM5.net i
  have m511 : M5 (0, 11) = M4 (0, 11) := K5 _ (by simp)
  refine ⟨_, st_arePricesRight hX (d + 2) (hC.eq hn9) (hN.eq hn9) HF5 (Nat.le_succ _) (Nat.le_refl _) (a := 0) (by rw [hn9, hn9, hn9, m511]; exact hD) hDb (fun e he => ?_), ?_⟩
  · have u1 := hZf.1 e he
    have u2 := hN e he
    rw [m511]
    omega
  rintro _ M5 ⟨rfl, rfl⟩
  refine ⟨fun h => Bool.noConfusion h, fun _ => ⟨_, cn_areRoundsSound hX d (hC.eq hn9) (hN.eq hn9) hs ht hst (a := a) (by rw [hn9, hn9]; exact hA.symm) (by omega), ?_⟩⟩
  rintro _ M6 ⟨rfl, K6⟩
  exact ⟨fun h => Bool.noConfusion h, fun _ => ⟨rfl, kM5.tr (kp.C K6 (by decide))⟩⟩
theorem cn_isSound (hX : xBase X) (d : Nat) (hT : NTok T) (hI : CI I c T) (hk : LKok lk) (hL : CL I lk) (hB : TBok B) (hC : CTB I B) : xRet rB X m_X9_isSound (d + 7) [xr (0, 0)] c I 0 0 (fun v I9 => v = true ∧ keepC I I9) xNo := by
  obtain ⟨h1, h2, h3⟩ := id hI
  have h4 := hT.1
  refine xRet_of hX pl_X9_isSound (LE1 rfl) fun V hV => rg_X9_isSound_0 hV I ?_
  -- behind the nets
  have fin : ∀ J, keepC I J → V 54 [(0, xr (0, 0))] [] (J, xst c) 0 0 := by
    intro J kJ
    have hLJ : CL J lk := fun k hk => by rw [kJ.1 _ (by simp [scrC]) (by simp) (by simp)]; exact hL k hk
    refine rg_X9_isSound_54 hV J ⟨_, pa_gather hX (d + 6) hk hLJ, ?_⟩
    rintro _ K ⟨kK, hTG⟩
    have kK9 : keepC I K := kJ.tr (kp.C kK (by decide))
    have hLK := hLJ.k9 kK (by decide)
    refine ⟨_, pa_tellLeastRow hX (d + 3) hk hLK hTG, ?_⟩
    rintro _ N ⟨kN, hR⟩
    have kN9 : keepC I N := kK9.tr (kp.C kN (by decide))
    have hCN : CTB N B := by
      obtain ⟨a, b, e⟩ := hC
      exact ⟨by rw [kN9.2.1 0 (by decide)]; exact a, by rw [kN9.2.1 1 (by decide)]; exact b, fun p hp => by rw [kN9.1 (0, 28) (by simp [scrC]) (by simp) (by simp)]; exact e p hp⟩
    refine ⟨_, tb_roundBy hX (d + 2) hB hCN, ?_⟩
    rintro _ Y ⟨kY, hw⟩
    have kY9 : keepC I Y := kN9.tr kY.C
    have y21 : Y (0, 21) = N (0, 21) := kY.1 _ (by simp [flP])
    have y22 : Y (0, 22) = N (0, 22) := kY.1 _ (by simp [flP])
    have y23 : Y (0, 23) = N (0, 23) := kY.1 _ (by simp [flP])
    have hLN := hLK.k9 kN (by decide)
    have hTN := hTG.k9 kN (by decide)
    refine ⟨_, pa_isCovered hX (d + 4) hk (lk := lk) (fun k hk => by rw [y21]; exact hLN k hk) (fun S hS => by rw [y22]; exact hTN S hS) (fun k hk => by rw [y23]; exact hR k hk), ?_⟩
    rintro _ Y ⟨rfl, rfl⟩
    have hCY : CTB Y B := by
      obtain ⟨a, b, e⟩ := hCN
      exact ⟨by rw [kY.2 0 (by decide)]; exact a, by rw [kY.2 1 (by decide)]; exact b, fun p hp => by rw [kY.1 (0, 28) (by simp [flP])]; exact e p hp⟩
    refine ⟨fun h => Bool.noConfusion h, fun _ => ⟨_, tb_isRounded hX (d + 4) hB hCY hw, ?_⟩⟩
    rintro _ Z ⟨rfl, kZ⟩
    exact ⟨fun h => Bool.noConfusion h, fun _ => ⟨rfl, kY9.tr kZ.C⟩⟩
  refine up_to0 (m := T.N) (W := fun k => ∀ J, keepC I J → V 2 [(0, xr (0, 0)), (1, xi (k : Int))] [] (J, xst c) 0 0) ?_ ?_ I keepC.id9
  · intro J kJ
    have j1 : J (0, 0) 1 = (T.N : Int) := by rw [kJ.1 _ (by simp [scrC]) (by simp) (by simp)]; exact h2
    refine rg_X9_isSound_2 hV J _ ?_
    rw [j1]
    exact ⟨⟨by omega, by omega⟩, fun _ => fin J kJ, fun h => by omega⟩
  · intro k hk9 ih J kJ
    have j1 : J (0, 0) 1 = (T.N : Int) := by rw [kJ.1 _ (by simp [scrC]) (by simp) (by simp)]; exact h2
    refine rg_X9_isSound_2 hV J _ ?_
    rw [j1]
    refine ⟨⟨by omega, by omega⟩, fun h => by omega, fun _ => ⟨fun h => by omega, fun _ => ⟨⟨by omega, by omega⟩, ?_, fun h => by omega⟩⟩⟩
    intro i3 hi3 he
    have he : k = i3 := by omega
    subst he
    have hnet := kJ.net k
    have hCJ := (h3 k hk9).1.eq hnet
    have hNJ := (hI.nb hT hk9).eq hnet
    refine ⟨_, cn_isFlowSound hX d hCJ hNJ, ?_⟩
    rintro _ K ⟨rfl, kK⟩
    have kIK := kJ.tr kK
    have hnK := kIK.net k
    refine ⟨fun h => Bool.noConfusion h, fun _ => ⟨_, cn_isTreeSound hX (d + 2) ((h3 k hk9).1.eq hnK) ((hI.nb hT hk9).eq hnK), ?_⟩⟩
    rintro _ N ⟨rfl, kN⟩
    exact ⟨fun _ => ih N (kIK.tr (kp.C kN (by decide))), fun h => Bool.noConfusion h⟩
end FSO
