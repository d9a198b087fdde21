/-! parent and between on both sides -/
section TRF
variable {X : xX} {c : xCx} {I : xIn} {T : NT} {a s t x : Int}
theorem cn_between (hX : xBase X) (d : Nat) (hT : NTok T) (hI : CI I c T) (ha : xin a) (hs : xin s) (ht : xin t) : xRet rI X m_X9_between (d + 8) [xr (0, 0), xi a, xi s, xi t] c I 2 12 (fun v I9 => keepC I I9 ∧ (v, 0) = betweenA T a s t) (fun x I9 => I9 = I ∧ exL [xIOB, xIAE] x (betweenA T a s t).2) := by
  have hwc := wrong_c T a s t
  refine xRet_of hX pl_X9_between (LE1 rfl) fun V hV => rg_X9_between_0 hV I _ _ _ (go_ends hX d hT hI ha hs ht (fun x hx hw => ⟨rfl, by unfold betweenA; rw [wE_p hw]; exact hx.l (by omega)⟩) ?_)
  rintro i s t rfl rfl rfl hi hC hs9 ht9 hst hw
  have hG := hC.2.2.2.1
  have hbd := bth_bd hG.2.2.1 (hi := I (i + 3, 4)) (hI.hb hT hi)
  refine ⟨_, tr_measure hX (d + 5) hC (hI.nb hT hi), ?_⟩
  rintro _ J ⟨k1, k2, hS⟩
  refine ⟨_, tr_leastCut hX (d + 5) hS hG.2.1 hbd hs9 ht9 hst, ?_⟩
  rintro _ _ ⟨rfl, rfl⟩
  refine ⟨kp.C k1 (by decide), ?_⟩
  unfold betweenA
  rw [wE_0 hw, tnN, tnN, tnN, bth_cong (hI.hi hi)]
theorem cn_parent (hX : xBase X) (d : Nat) (hT : NTok T) (hI : CI I c T) (ha : xin a) (hx : xin x) : xRet rI X m_X9_parent (d + 8) [xr (0, 0), xi a, xi x] c I 3 18 (fun v I9 => keepC I I9 ∧ (v, 0) = parentA T a x) (fun y I9 => keepC I I9 ∧ exL [xIOB, xNSE] y (parentA T a x).2) := by
  have hwc := wrong1C_c T a x
  refine xRet_of hX pl_X9_parent (LE1 rfl) fun V hV => rg_X9_parent_0 hV I _ _ (go_corner hX d hT hI ha hx (fun x hx hw => ⟨keepC.id9, by unfold parentA; rw [wE_p hw]; exact hx.l1 (by omega)⟩) ?_)
  rintro i x rfl rfl hi hC hx9 hw
  have hG := hC.2.2.2.1
  have hn8 := hG.2.1
  have hbd := bth_bd hG.2.2.1 (hi := I (i + 3, 4)) (hI.hb hT hi)
  have hA : parentA T (i : Int) (x : Int) = parentG (T.G i) (T.hi i) x := by unfold parentA; rw [wE_0 hw, tnN, tnN]
  refine ⟨⟨by omega, by omega⟩, fun hne => ⟨_, tr_measure hX (d + 5) hC (hI.nb hT hi), ?_⟩, fun he => ⟨keepC.id9, ?_⟩⟩
  · rintro _ J ⟨k1, k2, hS⟩
    refine ⟨_, tr_grow hX (d + 3) hS hG.1 hG.2.1 hbd, ?_⟩
    rintro _ K ⟨k3, k4, -⟩
    refine ⟨⟨by omega, by omega⟩, (kp.C k1 (by decide)).tr (kp.C k3 (by decide)), ?_⟩
    rw [hA, tnN, k4 x hx9, bth_cong (hI.hi hi)]
    unfold parentG
    rw [if_neg (by omega)]
  · rw [hA]
    unfold parentG
    rw [if_pos (by omega)]
    exact ⟨1, rfl, rfl⟩
end TRF
section TRM
variable {X : xX} {c : xCx} {I : xIn} {i : Nat} {G : Gr} {lo hi : Nat → Int}
theorem ok_bothWays (hX : xBase X) (d : Nat) (hG : GrOK G) (hM : MG I i G) (hB : MB I G.m lo hi) {S : Nat} (hS : S ≤ 2147483647) : xRet rI X m_X10_bothWays (d + 3) [xr (1, 0), xi (i : Int), xi (S : Int)] c I 0 0 (pv (bth G hi S) I) xNo := by
  refine xRet_of hX pl_X10_bothWays (LE1 rfl) fun V hV => rg_X10_bothWays_0 hV I _ _ ⟨_, ok_mostOut hX d hG hM hB hS, ?_⟩
  rintro _ _ ⟨rfl, rfl⟩
  refine ⟨_, ok_mostIn hX d hG hM hB hS, ?_⟩
  rintro _ _ ⟨rfl, rfl⟩
  exact pvI rfl
theorem ok_leastBetween (hX : xBase X) (d : Nat) (hG : GrOK G) (hM : MG I i G) (hB : MB I G.m lo hi) (hb : ∀ e, e < G.m → 0 ≤ hi e ∧ hi e ≤ 99) {s t : Nat} (hs : s < 32) (ht : t < 32) : xRet rI X m_X10_leastBetween (d + 4) [xr (1, 0), xi (i : Int), xi (s : Int), xi (t : Int)] c I 0 0 (pv (lbF (bth G hi) G.n s t) I) xNo := by
  have hn := hG.2.1
  have g2 := pow2_le8 hn
  have hbd := bth_bd hG.2.2.1 hb
  have hdef : lbF (bth G hi) G.n s t = mnb 100000 (btw s t) (bth G hi) (2 ^ G.n) := rfl
  rw [hdef]
  clear hdef
  have hmb := fun S => mnb_bd (p := btw s t) (f := bth G hi) (b := 100000) (z := 100000) ⟨by decide, by decide⟩ (fun S => by have := hbd S; omega) S
  generalize hNN : 2 ^ G.n = N at g2
  refine xRet_of hX pl_X10_leastBetween (LE1 rfl) fun V hV => rg_X10_leastBetween_0 hV I _ _ _ ?_
  refine up_to0 (m := N) (W := fun S => V 8 [(0, xr (1, 0)), (1, xi (i : Int)), (2, xi (s : Int)), (3, xi (t : Int)), (4, xi (mnb 100000 (btw s t) (bth G hi) S)), (5, xi (S : Int))] [] (I, xst c) 0 0) ?_ ?_
  · refine rg_X10_leastBetween_8 hV I _ _ _ _ _ ⟨_, ok_setsN hX (d + 3) hG hM hNN, ?_⟩
    rintro _ _ ⟨rfl, rfl⟩
    exact ⟨⟨by omega, by omega⟩, ⟨by omega, by omega⟩, fun _ => pvI rfl, fun h => by omega⟩
  · intro S hS ih
    have h1 := hmb S
    have h2 := hbd S
    rw [mnb] at ih
    refine rg_X10_leastBetween_8 hV I _ _ _ _ _ ⟨_, ok_setsN hX (d + 3) hG hM hNN, ?_⟩
    rintro _ _ ⟨rfl, rfl⟩
    refine ⟨⟨by omega, by omega⟩, ⟨by omega, by omega⟩, fun h => by omega, fun _ => ⟨_, ok_isBetween hX (d + 2) (by omega) hs ht, ?_⟩⟩
    rintro _ _ ⟨rfl, rfl⟩
    refine ⟨fun z => ?_, fun z => ⟨_, ok_bothWays hX d hG hM hB (by omega), ?_⟩⟩
    · rw [show btw s t S = false from z] at ih; exact ih
    rintro _ _ ⟨rfl, rfl⟩
    refine ⟨_, ok_min hX (d + 3) ⟨by omega, by omega⟩ ⟨by omega, by omega⟩, ?_⟩
    rintro _ _ ⟨rfl, rfl⟩
    rw [show btw s t S = true from z] at ih; exact ih
theorem grP_0 (f : Nat → Int) (n j : Nat) : grP f n j 0 = 0 := by
  induction j with
  | zero => rfl
  | succ j ih => rw [grP_s, if_neg (by omega), ih]
theorem grP_le (f : Nat → Int) (n j x : Nat) : grP f n j x ≤ x := by
  by_cases h : x = 0
  · rw [h, grP_0]; exact Nat.le_refl _
  · have := grP_lt f n j (show 1 ≤ x by omega); omega
theorem MB.k9 {J : xIn} {ps : List xP} {m : Nat} (h : MB I m lo hi) (hk : kp ps I J) (h1 : (1, 17) ∉ ps) (h2 : (1, 18) ∉ ps) : MB J m lo hi := fun e he => by rw [hk _ h1, hk _ h2]; exact h e he
theorem ok_grows (hX : xBase X) (d : Nat) (hG : GrOK G) (hM : MG I i G) (hN : MN I i G.m lo hi) (hb : ∀ e, e < G.m → 0 ≤ hi e ∧ hi e ≤ 99) : xRet rU X m_X10_grows (d + 5) [xr (1, 0), xi (i : Int)] c I 0 0 (fun _ I9 => kp [(1, 17), (1, 18), (1, 25)] I I9 ∧ ∀ x, x < G.n → I9 (1, 25) x = (parF (bth G hi) G.n x : Int)) xNo := by
  have hn := hG.2.1
  have hn2 := hG.1
  have g2 := pow2_le8 hn
  have hbd := bth_bd hG.2.2.1 hb
  refine xRet_of hX pl_X10_grows (LE1 rfl) fun V hV => rg_X10_grows_0 hV I _ ⟨_, ok_looksAt hX (d + 4) hG hM hN, ?_⟩
  rintro _ I0 ⟨kI, hB⟩
  have hM0 := kI.MG hM
  obtain ⟨h4, hn9, hm9, hE⟩ := id hM0
  have base : ∀ J, kp [(1, 25)] I0 J → kp [(1, 17), (1, 18), (1, 25)] I J := fun J h => (kp.mo kI (by simp)).tr (h.mo (by simp))
  refine up_to0 (m := G.n) (W := fun k => ∀ J, kp [(1, 25)] I0 J → (∀ x, x < k → J (1, 25) x = 0) → V 7 [(0, xr (1, 0)), (1, xi (i : Int)), (2, xi (k : Int))] [] (J, xst c) 0 0) ?_ ?_ I0 kp.rfl (fun x hx => absurd hx (Nat.not_lt_zero x))
  · intro J kJ hJ
    have main : ∀ j, j ≤ G.n - 1 → (∀ K, kp [(1, 25)] I0 K → (∀ x, x < G.n → K (1, 25) x = (grP (bth G hi) G.n (G.n - 1 - j) x : Int)) → V 32 [(0, xr (1, 0)), (1, xi (i : Int)), (2, xi ((G.n - j : Nat) : Int))] [] (K, xst c) 0 0) := by
      intro j
      induction j with
      | zero =>
        intro _ K kK h1
        have hnK : K (1, 1) i = (G.n : Int) := by rw [kK _ (by decide)]; exact hn9
        refine rg_X10_grows_32 hV K _ _ ⟨⟨by omega, by omega⟩, ⟨by omega, by omega⟩, fun _ => ⟨base K kK, h1⟩, fun h => ?_⟩
        rw [tnN, hnK] at h; omega
      | succ j ih =>
        intro hj K kK h1
        have ih := ih (by omega)
        have hnK : K (1, 1) i = (G.n : Int) := by rw [kK _ (by decide)]; exact hn9
        obtain ⟨cc, hcc⟩ : ∃ cc, cc = G.n - (j + 1) := ⟨_, rfl⟩
        rw [← hcc]
        rw [show G.n - 1 - (j + 1) = cc - 1 by omega] at h1
        rw [show G.n - 1 - j = cc by omega, show G.n - j = cc + 1 by omega] at ih
        have hcn : cc < G.n := by omega
        have hc1 : 1 ≤ cc := by omega
        have hp := grP_lt (bth G hi) G.n (cc - 1) hc1
        have hlb := lbF_bd hbd hcn (show cc ≠ grP (bth G hi) G.n (cc - 1) cc by omega)
        have hMK : MG K i G := hM0.k9 kK (by decide) (by decide) (by decide) (by decide)
        have hBK : MB K G.m lo hi := hB.k9 kK (by decide) (by decide)
        have hgs : ∀ x, grP (bth G hi) G.n cc x = if cc < x ∧ grP (bth G hi) G.n (cc - 1) x = grP (bth G hi) G.n (cc - 1) cc ∧ (sdF (bth G hi) G.n cc (grP (bth G hi) G.n (cc - 1) cc)).testBit x = true then cc else grP (bth G hi) G.n (cc - 1) x := fun x => by
          have := grP_s (bth G hi) G.n (cc - 1) x
          rw [show cc - 1 + 1 = cc by omega] at this
          exact this
        have hsd : sdF (bth G hi) G.n cc (grP (bth G hi) G.n (cc - 1) cc) ≤ 255 := andF_le _ _
        refine rg_X10_grows_32 hV K _ _ ⟨⟨by omega, by omega⟩, ⟨by omega, by omega⟩, fun h => ?_, fun _ => ⟨⟨by omega, by omega⟩, ?_⟩⟩
        · rw [tnN, hnK] at h; omega
        rw [tnN, h1 cc hcn]
        refine ⟨_, ok_leastBetween hX d hG hMK hBK hb (by omega) (by omega), ?_⟩
        rintro _ K ⟨rfl, rfl⟩
        -- the side
        have hsdd : sdF (bth G hi) G.n cc (grP (bth G hi) G.n (cc - 1) cc) = andF (sdQ (bth G hi) G.n cc (grP (bth G hi) G.n (cc - 1) cc)) (2 ^ G.n) := rfl
        have hqd : ∀ S, sdQ (bth G hi) G.n cc (grP (bth G hi) G.n (cc - 1) cc) S = (btw cc (grP (bth G hi) G.n (cc - 1) cc) S && decide (bth G hi S = lbF (bth G hi) G.n cc (grP (bth G hi) G.n (cc - 1) cc))) := fun _ => rfl
        have side : ∀ z : Nat, z = sdF (bth G hi) G.n cc (grP (bth G hi) G.n (cc - 1) cc) → V 122 [(0, xr (1, 0)), (1, xi (i : Int)), (2, xi (cc : Int)), (4, xi (z : Int)), (5, xi ((cc : Int) + 1))] [] (K, xst c) 0 0 := by
          rintro _ rfl
          refine up_to (m := G.n) (W := fun k => cc < k → ∀ L, kp [(1, 25)] K L → (∀ x, x < G.n → L (1, 25) x = ((if x < k then grP (bth G hi) G.n cc x else grP (bth G hi) G.n (cc - 1) x : Nat) : Int)) → V 122 [(0, xr (1, 0)), (1, xi (i : Int)), (2, xi (cc : Int)), (4, xi ((sdF (bth G hi) G.n cc (grP (bth G hi) G.n (cc - 1) cc) : Nat) : Int)), (5, xi (k : Int))] [] (L, xst c) 0 0) ?_ ?_ (cc + 1) (by omega) (Nat.lt_succ_self _) K kp.rfl (fun x hx => ?_)
          · intro _ L kL hL
            have hnL : L (1, 1) i = (G.n : Int) := by rw [kL _ (by decide)]; exact hnK
            refine rg_X10_grows_122 hV L _ _ _ _ ⟨⟨by omega, by omega⟩, ⟨by omega, by omega⟩, fun _ => ih L (kK.tr kL) fun x hx => by rw [hL x hx, if_pos hx], fun h => ?_⟩
            rw [tnN, hnL] at h; omega
          · intro k hk ih2 hck L kL hL
            have ih2 := ih2 (by omega)
            have hnL : L (1, 1) i = (G.n : Int) := by rw [kL _ (by decide)]; exact hnK
            have lk := hL k hk
            rw [if_neg (Nat.lt_irrefl _)] at lk
            have lc := hL cc hcn
            rw [if_pos hck, hgs cc, if_neg (by omega)] at lc
            have lt1 := grP_lt (bth G hi) G.n (cc - 1) (show 1 ≤ k by omega)
            have hkk := hgs k
            have nxt : ∀ (L9 : xIn) (z : Int), L9 = xu L (1, 25) k z → z = (grP (bth G hi) G.n cc k : Int) → V 122 [(0, xr (1, 0)), (1, xi (i : Int)), (2, xi (cc : Int)), (4, xi ((sdF (bth G hi) G.n cc (grP (bth G hi) G.n (cc - 1) cc) : Nat) : Int)), (5, xi ((k : Int) + 1))] [] (L9, xst c) 0 0 := fun L9 z e9 hz => by
              refine ih2 L9 (by rw [e9]; exact kL.xu (by simp)) fun x hx => ?_
              rw [e9, xuL]
              by_cases hxk : x = k
              · rw [hxk, upL_s, if_pos (Nat.lt_succ_self _), hz]
              · rw [upL_n hxk, hL x hx]
                by_cases h9 : x < k
                · rw [if_pos h9, if_pos (by omega)]
                · rw [if_neg h9, if_neg (by omega)]
            refine rg_X10_grows_122 hV L _ _ _ _ ⟨⟨by omega, by omega⟩, ⟨by omega, by omega⟩, fun h => ?_, fun _ => ⟨_, ok_has hX (d + 4) rfl rfl (by omega) (by omega), ?_⟩⟩
            · rw [tnN, hnL] at h; omega
            rintro _ L ⟨rfl, rfl⟩
            rw [tnN, tnN, lk, lc]
            refine ⟨fun z => ⟨⟨by omega, by omega⟩, fun L2 e2 => nxt L2 _ e2 (by rw [hkk, if_neg (by rw [z]; intro q; cases q.2.2)])⟩, fun z => ⟨⟨by omega, by omega⟩, ⟨by omega, by omega⟩, fun h => fun L2 e2 => nxt L2 _ e2 (by rw [hkk, if_neg (by omega)]), fun h => ⟨⟨by omega, by omega⟩, fun L2 e2 => nxt L2 _ e2 (by rw [hkk, if_pos ⟨by omega, by omega, z⟩])⟩⟩⟩
          · rw [h1 x hx]
            by_cases hxc : x < cc + 1
            · rw [if_pos hxc, hgs x, if_neg (by omega)]
            · rw [if_neg hxc]
        have side := side _ rfl
        rw [hsdd] at side
        generalize sdQ (bth G hi) G.n cc (grP (bth G hi) G.n (cc - 1) cc) = q at hqd side
        generalize hNN : 2 ^ G.n = N at g2 side
        refine up_to0 (m := N) (W := fun S => V 63 [(0, xr (1, 0)), (1, xi (i : Int)), (2, xi (cc : Int)), (3, xi (lbF (bth G hi) G.n cc (grP (bth G hi) G.n (cc - 1) cc))), (4, xi ((andF q S : Nat) : Int)), (5, xi (S : Int))] [] (K, xst c) 0 0) ?_ ?_
        · refine rg_X10_grows_63 hV K _ _ _ _ _ ⟨_, ok_setsN hX (d + 4) hG hMK hNN, ?_⟩
          rintro _ _ ⟨rfl, rfl⟩
          exact ⟨⟨by omega, by omega⟩, ⟨by omega, by omega⟩, fun _ => side, fun h => by omega⟩
        · intro S hS ih3
          have hbS := hbd S
          have haS := andF_le q S
          rw [andF] at ih3
          refine rg_X10_grows_63 hV K _ _ _ _ _ ⟨_, ok_setsN hX (d + 4) hG hMK hNN, ?_⟩
          rintro _ _ ⟨rfl, rfl⟩
          rw [tnN, h1 cc hcn]
          refine ⟨⟨by omega, by omega⟩, ⟨by omega, by omega⟩, fun h => by omega, fun _ => ⟨⟨by omega, by omega⟩, _, ok_isBetween hX (d + 3) (by omega) (by omega) (by omega), ?_⟩⟩
          rintro _ _ ⟨rfl, rfl⟩
          refine ⟨fun z => ?_, fun z => ⟨_, ok_bothWays hX (d + 1) hG hMK hBK (by omega), ?_⟩⟩
          · rw [if_neg (by rw [hqd, show btw cc (grP (bth G hi) G.n (cc - 1) cc) S = false from z]; simp)] at ih3; exact ih3
          rintro _ _ ⟨rfl, rfl⟩
          refine ⟨⟨by omega, by omega⟩, ⟨by omega, by omega⟩, fun y => ?_, fun y => ?_⟩
          · rw [if_neg (by rw [hqd, decide_eq_false y]; simp)] at ih3; exact ih3
          · rw [if_pos (by rw [hqd, decide_eq_true y, show btw cc (grP (bth G hi) G.n (cc - 1) cc) S = true from z]; rfl)] at ih3
            rw [v_and_nat (by omega)]; exact ih3
    have hnJ : J (1, 1) i = (G.n : Int) := by rw [kJ _ (by decide)]; exact hn9
    refine rg_X10_grows_7 hV J _ _ ⟨⟨by omega, by omega⟩, ⟨by omega, by omega⟩, fun _ => ?_, fun h => ?_⟩
    · have := main (G.n - 1) (Nat.le_refl _) J kJ (fun x hx => by rw [Nat.sub_self, hJ x hx]; rfl)
      rw [show G.n - (G.n - 1) = 1 by omega] at this
      exact this
    · rw [tnN, hnJ] at h; omega
  · intro k hk ih J kJ hJ
    have hnJ : J (1, 1) i = (G.n : Int) := by rw [kJ _ (by decide)]; exact hn9
    refine rg_X10_grows_7 hV J _ _ ⟨⟨by omega, by omega⟩, ⟨by omega, by omega⟩, fun h => ?_, fun _ => ⟨⟨by omega, by omega⟩, ?_⟩⟩
    · rw [tnN, hnJ] at h; omega
    rintro J2 e2
    refine ih J2 (by rw [e2]; exact kJ.xu (by simp)) fun x hx => ?_
    rw [e2, tnN, xuL]
    by_cases hxk : x = k
    · rw [hxk, upL_s]
    · rw [upL_n hxk]; exact hJ x (by omega)
end TRM
section TRN
variable {X : xX} {c : xCx} {I : xIn} {T : NT} {a s t x : Int}
theorem kp.keepG {I J : xIn} (h : kp [(1, 17), (1, 18), (1, 25)] I J) : keepM I J := ⟨fun p hp => h p (by
  rcases hp with hp | hp
  · simp only [List.mem_cons, List.mem_nil_iff, or_false, not_or]
    refine ⟨?_, ?_, ?_⟩ <;> rintro ⟨⟩ <;> exact hp (Eq.refl _)
  · simp only [List.mem_cons, List.mem_nil_iff, or_false, not_or]
    refine ⟨?_, ?_, ?_⟩ <;> rintro ⟨⟩ <;> revert hp <;> decide), fun k _ _ _ => by rw [h _ (by decide)]⟩
theorem ok_between (hX : xBase X) (d : Nat) (hT : NTok T) (hI : MI I T) (ha : xin a) (hs : xin s) (ht : xin t) : xRet rI X m_X10_between (d + 5) [xr (1, 0), xi a, xi s, xi t] c I 0 0 (fun v I9 => keepM I I9 ∧ (v, I9 (1, 0) 32) = betweenA T a s t) xNo := by
  refine xRet_of hX pl_X10_between (LE1 rfl) fun V hV => rg_X10_between_0 hV I _ _ _ (mo_wrong hX (d + 1) hT hI ha hs ht fun J k1 e32 => ?_)
  have hwc := wrong_c T a s t
  rw [e32]
  refine ⟨fun h => ?_, fun h => ⟨k1, by unfold betweenA; rw [wE_p h]⟩⟩
  have hw : wrongT T a s t = 0 := by omega
  obtain ⟨i, s, t, rfl, rfl, rfl, hi, hs9, ht9, hst⟩ := wrong_0 h
  obtain ⟨hG, hB, -⟩ := hT.2 i hi
  have hn := hG.2.1
  obtain ⟨hM, hN, -⟩ := (hI.keep k1).2.2 i hi
  refine ⟨_, ok_looksAt hX (d + 4) hG hM hN, ?_⟩
  rintro _ K ⟨k2, hB2⟩
  refine ⟨_, ok_leastBetween hX d hG (k2.MG hM) hB2 (hT.hb hi) (by omega) (by omega), ?_⟩
  rintro _ _ ⟨rfl, rfl⟩
  refine ⟨k1.tr k2.keep, ?_⟩
  unfold betweenA
  rw [wE_0 hw, tnN, tnN, tnN, k2 (1, 0) (by decide), e32, hw]
theorem ok_parent (hX : xBase X) (d : Nat) (hT : NTok T) (hI : MI I T) (ha : xin a) (hx : xin x) : xRet rI X m_X10_parent (d + 6) [xr (1, 0), xi a, xi x] c I 0 0 (fun v I9 => keepM I I9 ∧ (v, I9 (1, 0) 32) = parentA T a x) xNo := by
  refine xRet_of hX pl_X10_parent (LE1 rfl) fun V hV => ?_
  have bad : ∀ K, keepM I K → ∀ w : Int, 0 < w → w ≤ 3 → parentA T a x = (0, w) → V 31 [(0, xr (1, 0)), (1, xi a), (2, xi x)] [xi w, xr (1, 0)] (K, xst c) 0 0 := fun K hK w w0 w3 hA => rg_X10_parent_31 hV K _ _ _ ⟨⟨by omega, by omega⟩, by
    rintro K2 rfl
    rw [xu_same]
    exact ⟨fun h => by omega, fun _ => ⟨hK.tr (keepM.thrown _), by rw [hA]⟩⟩⟩
  have hW := hI.W hT
  refine rg_X10_parent_0 hV I _ _ ⟨_, ok_isNet hX (d + 4) hW ha, ?_⟩
  rintro _ I ⟨rfl, rfl⟩
  rw [hI.1]
  refine ⟨fun z => rg_X10_parent_18 hV I _ _ (bad I keepM.id9 1 (by decide) (by decide) (by unfold parentA wrong1C; rw [z, if_neg (by decide), wE_p (by decide)])), fun z => ?_⟩
  have hz := inB_t z
  obtain ⟨i, rfl⟩ := Int.eq_ofNat_of_zero_le hz.1
  have hi : i < T.N := by omega
  have h4 := hT.1
  obtain ⟨hG, hB, hs⟩ := hT.2 i hi
  have hn := hG.2.1
  obtain ⟨hM, hMN, -⟩ := hI.2.2 i hi
  refine ⟨_, ok_isCorner hX (d + 4) hW ⟨by omega, by omega⟩ hx, ?_⟩
  rintro _ I ⟨rfl, rfl⟩
  rw [tnN, hM.2.1]
  refine ⟨fun y => ?_, fun y => rg_X10_parent_18 hV I _ _ (bad I keepM.id9 1 (by decide) (by decide) (by unfold parentA wrong1C; rw [z, if_pos rfl, tnN, y, if_neg (by decide), wE_p (by decide)]))⟩
  have hy := inB_t y
  obtain ⟨x, rfl⟩ := Int.eq_ofNat_of_zero_le hy.1
  have hA : parentA T (i : Int) (x : Int) = parentG (T.G i) (T.hi i) x := by
    unfold parentA wrong1C
    rw [z, if_pos rfl, tnN, y, if_pos rfl, wE_0 rfl, tnN]
  refine ⟨⟨by omega, by omega⟩, fun hne => rg_X10_parent_31 hV I _ _ _ ⟨⟨by decide, by decide⟩, ?_⟩, fun he => bad I keepM.id9 2 (by decide) (by decide) (by rw [hA]; unfold parentG; rw [if_pos (by omega)])⟩
  rintro J e1
  have j32 : J (1, 0) 32 = 0 := by rw [e1, xu_same]
  have k1 : keepM I J := by rw [e1]; exact keepM.thrown _
  clear e1
  obtain ⟨hM1, hN1, -⟩ := (hI.keep k1).2.2 i hi
  rw [j32]
  refine ⟨fun _ => ⟨_, ok_grows hX d hG hM1 hN1 (hT.hb hi), ?_⟩, fun w => absurd w (by decide)⟩
  rintro _ K ⟨k2, k3⟩
  refine ⟨⟨by omega, by omega⟩, k1.tr (kp.keepG k2), ?_⟩
  rw [tnN, k3 x (by omega), hA, k2 (1, 0) (by decide), j32]
  unfold parentG
  rw [if_neg (by omega)]
end TRN
