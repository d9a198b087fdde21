/-! the reference: the cheapest row, costs and prices -/
section MCH
variable {X : xX} {c : xCx} {I : xIn} {i : Nat} {G : Gr} {lo hi co : Nat → Int} {s t : Nat}
theorem srcB_neg {a : Int} (h : a < 0) : srcB a = fun _ => true := funext fun x => decide_eq_true (Or.inl h)
theorem srcB_nat (s : Nat) : srcB (s : Int) = fun x => x == s := funext fun x => by
  unfold srcB
  by_cases h : x = s
  · rw [h, decide_eq_true (Or.inr rfl)]; simp
  · rw [decide_eq_false (by rintro (q | q) <;> omega)]
    simp [h]
/-- the loop of rings: from a flow that stands as the row -/
theorem ok_findsCheap (hX : xBase X) (d : Nat) (hG : GrOK G) (hM : MG I i G) (hN : MN I i G.m lo hi) (hC : MCo I i G.m co) (hb : ∀ e, e < G.m → 0 ≤ lo e ∧ lo e ≤ hi e ∧ hi e ≤ 99) (hco : ∀ e, e < G.m → -20 ≤ co e ∧ co e ≤ 20) (hs : s < G.n) (ht : t < G.n) (hst : s ≠ t) (hex : amountF G lo hi s t = NONE9 ∨ (-3200 ≤ amountF G lo hi s t ∧ amountF G lo hi s t ≤ 3200 ∧ ∃ f, FS G lo hi (isB s t (amountF G lo hi s t)) f)) : xRet rB X m_X10_findsCheap (d + 6) [xr (1, 0), xi (i : Int), xi (s : Int), xi (t : Int)] c I 0 0 (fun v I9 => kp [(1, 17), (1, 18), (1, 19), (1, 20), (1, 21)] I I9 ∧ ((v = true ∧ amountF G lo hi s t ≠ NONE9 ∧ CHR G lo hi co (isB s t (amountF G lo hi s t)) (I9 (1, 19)) ∧ ∃ π, PT G lo hi co (I9 (1, 19)) π) ∨ (v = false ∧ amountF G lo hi s t = NONE9))) xNo := by
  obtain ⟨h4, hn9, hm9, hE⟩ := id hM
  have hn8 := hG.2.1
  have hm16 := hG.2.2.1
  have hn2 := hG.1
  have hGi := hG.in
  have hne : ∀ e, e < G.m → G.u e ≠ G.v e := fun e he => (hG.2.2.2 e he).2.2
  refine xRet_of hX pl_X10_findsCheap (LE1 rfl) fun V hV => rg_X10_findsCheap_0 hV I _ _ _ ⟨_, ok_finds hX d hG hM hN (fun e he => by have := hb e he; omega) hs ht hst, ?_⟩
  rintro v J1 ⟨k1, ⟨rfl, b1, b2⟩ | ⟨rfl, b1⟩⟩
  rotate_left
  · exact ⟨fun h => Bool.noConfusion h, fun _ => ⟨kp.mo k1 (by simp), Or.inr ⟨rfl, b1⟩⟩⟩
  refine ⟨fun _ => ?_, fun h => Bool.noConfusion h⟩
  obtain ⟨ha1, ha2, f0, hf0⟩ := hex.resolve_left b1
  generalize hamt : amountF G lo hi s t = a at *
  -- the least row is a flow
  have hfl : FS G lo hi (isB s t a) (lxF G lo hi s t a G.m).1 := by
    obtain ⟨o1, g, g1, g2⟩ := lxF_ok hGi hs ht hst hf0 (Nat.le_refl _)
    refine FS_cong (g := g) (fun e he => ?_) ⟨fun e he => ?_, g2⟩
    · have a := g1 e he
      rw [← lxF_same he] at a
      omega
    · have a := g1 e he
      have b := o1 e he
      omega
  have hcost : ∀ g, FS G lo hi (isB s t a) g → -400000 ≤ costF G co g ∧ costF G co g ≤ 400000 := fun g hg => by
    have h2 := sumE_bd (n := G.m) (f := fun e => g e * co e) (a := -2000) (b := 2000) fun e he => by
      have a := hg.1 e he
      have b := hb e he
      have := mul_bd (A := 100) (B := 20) (by omega) (show -100 ≤ g e ∧ g e ≤ 100 by omega) (hco e he)
      show -2000 ≤ g e * co e ∧ g e * co e ≤ 2000
      omega
    unfold costF
    omega
  -- what is done behind the rings
  have fin : ∀ (J : xIn) (v : Int), kp [(1, 17), (1, 18), (1, 19), (1, 20), (1, 21)] I J → FS G lo hi (isB s t a) (J (1, 19)) → PT G lo hi co (J (1, 19)) (J (1, 20)) → (∀ x, x < G.n → -100000 ≤ J (1, 20) x ∧ J (1, 20) x ≤ 100000) → v < 0 → xin v → V 54 [(0, xr (1, 0)), (1, xi (i : Int)), (2, xi (s : Int)), (3, xi (t : Int)), (4, xi v)] [] (J, xst c) 0 0 := by
    intro J v kJ fJ pJ bJ hv hv9
    have hMJ : MG J i G := hM.k9 kJ (by simp) (by simp) (by simp) (by simp)
    have hNJ : MN J i G.m lo hi := hN.k9 kJ (by simp) (by simp)
    refine rg_X10_findsCheap_54 hV J _ _ _ _ ⟨hv9, fun _ => ⟨_, ok_looksAt hX (d + 5) hG hMJ hNJ, ?_⟩, fun h => by omega⟩
    rintro _ K ⟨kK, hB⟩
    have kIK : kp [(1, 17), (1, 18), (1, 19), (1, 20), (1, 21)] I K := kJ.tr (kp.mo kK (by simp))
    have hMK : MG K i G := hM.k9 kIK (by simp) (by simp) (by simp) (by simp)
    refine ⟨_, ok_amount hX (d + 1) hG hMK hB (z := 100) ⟨by omega, fun e he => by have := hb e he; omega⟩ (by omega) (s := s) (t := t) (by omega) (by omega), ?_⟩
    rintro _ K ⟨rfl, rfl⟩
    rw [hamt]
    have k19 : K (1, 19) = J (1, 19) := kK _ (by simp)
    have k20 : K (1, 20) = J (1, 20) := kK _ (by simp)
    -- fixing
    refine up_to0 (m := G.m) (W := fun k => ∀ Z, kp [(1, 17), (1, 18)] K Z → (∀ e, e < G.m → if e < k then Z (1, 17) e = fxl G lo hi co (J (1, 20)) e ∧ Z (1, 18) e = fxh G lo hi co (J (1, 20)) e else Z (1, 17) e = lo e ∧ Z (1, 18) e = hi e) → V 94 [(0, xr (1, 0)), (1, xi (i : Int)), (2, xi (s : Int)), (3, xi (t : Int)), (5, xi a), (6, xi (k : Int))] [] (Z, xst c) 0 0) ?_ ?_ K kp.rfl (fun e he => by rw [if_neg (Nat.not_lt_zero e)]; exact hB e he)
    · intro Z kZ hZ
      have hMZ : MG Z i G := hMK.k9 kZ (by simp) (by simp) (by simp) (by simp)
      have hBZ : MB Z G.m (fxl G lo hi co (J (1, 20))) (fxh G lo hi co (J (1, 20))) := fun e he => by
        have := hZ e he
        rw [if_pos he] at this
        exact this
      have hfx := (fx_flow hGi fJ pJ).2 ⟨fJ, rfl⟩
      have hfb : ∀ e, e < G.m → 0 ≤ fxl G lo hi co (J (1, 20)) e ∧ fxh G lo hi co (J (1, 20)) e ≤ 100 := fun e he => by
        have := hb e he
        unfold fxl fxh
        refine ⟨?_, ?_⟩ <;> split <;> omega
      refine rg_X10_findsCheap_94 hV Z _ _ _ _ _ ⟨⟨by omega, by omega⟩, ⟨by omega, by omega⟩, fun _ => ⟨_, ok_settles hX (d + 1) hG hMZ hBZ hfb hs ht hst ⟨by omega, by omega⟩ hfx, ?_⟩, fun h => by rw [tnN, hMZ.2.2.1] at h; omega⟩
      rintro _ N ⟨kN, hBN⟩
      rw [lxF_C hs ht hst] at hBN
      have hCH := CHR_of hGi fJ pJ
      have hle : costF G co (lxC G (fxl G lo hi co (J (1, 20))) (fxh G lo hi co (J (1, 20))) (isB s t a) G.m).1 = costF G co (J (1, 19)) := by
        have p := hCH.2.1 _ fJ
        have q := (opt hGi fJ pJ hCH.1).1
        omega
      have hPT := PT_opt hGi fJ pJ hCH.1 hle
      have kIN : kp [(1, 17), (1, 18), (1, 19), (1, 20), (1, 21)] I N := (kIK.tr (kZ.mo (by simp))).tr (kp.mo kN (by simp))
      -- the row
      refine up_to0 (m := G.m) (W := fun k => ∀ Y, kp [(1, 19)] N Y → (∀ e, e < k → Y (1, 19) e = (lxC G (fxl G lo hi co (J (1, 20))) (fxh G lo hi co (J (1, 20))) (isB s t a) G.m).1 e) → V 225 [(0, xr (1, 0)), (1, xi (i : Int)), (6, xi (k : Int))] [] (Y, xst c) 0 0) ?_ ?_ N kp.rfl (fun e he => absurd he (Nat.not_lt_zero e))
      · intro Y kY hY
        have kIY : kp [(1, 17), (1, 18), (1, 19), (1, 20), (1, 21)] I Y := kIN.tr (kY.mo (by simp))
        refine rg_X10_findsCheap_225 hV Y _ _ ⟨⟨by omega, by omega⟩, ⟨by omega, by omega⟩, fun _ => ⟨kIY, Or.inl ⟨rfl, b1, ?_, J (1, 20), ?_⟩⟩, fun h => by rw [kIY _ (by simp), tnN, hm9] at h; omega⟩
        · exact CHR_cong (fun _ _ => rfl) (fun _ _ => rfl) (fun _ _ => rfl) (fun e he => (hY e he).symm) hCH
        · exact PT_cong (fun _ _ => rfl) (fun _ _ => rfl) (fun _ _ => rfl) (fun e he => (hY e he).symm) hPT
      · intro k hk ih Y kY hY
        have kIY : kp [(1, 17), (1, 18), (1, 19), (1, 20), (1, 21)] I Y := kIN.tr (kY.mo (by simp))
        refine rg_X10_findsCheap_225 hV Y _ _ ⟨⟨by omega, by omega⟩, ⟨by omega, by omega⟩, fun h => by rw [kIY _ (by simp), tnN, hm9] at h; omega, fun _ => ⟨⟨by omega, by omega⟩, ?_⟩⟩
        rintro _ rfl
        refine ih _ (kY.xu (by simp)) fun e he => ?_
        rw [xuL, tnN]
        rcases upL_c (Y (1, 19)) k (Y (1, 17) k) e with ⟨w1, w2⟩ | ⟨w1, w2⟩
        · rw [w2, w1, kY _ (by simp)]; exact (hBN k hk).1
        · rw [w2]; exact hY e (by omega)
    · intro k hk ih Z kZ hZ
      have kIZ : kp [(1, 17), (1, 18), (1, 19), (1, 20), (1, 21)] I Z := kIK.tr (kZ.mo (by simp))
      have z20 : Z (1, 20) = J (1, 20) := by rw [kZ _ (by simp), k20]
      have zk := hZ k hk
      rw [if_neg (Nat.lt_irrefl k)] at zk
      have hEk := hE k hk
      have hGk := hG.2.2.2 k hk
      have hbu := bJ _ hGk.1
      have hbv := bJ _ hGk.2.1
      have hbc := hco k hk
      have hbk := hb k hk
      have z3 : Z (1, 3) (16 * i + k) = (G.u k : Int) := by rw [kIZ _ (by simp)]; exact hEk.1
      have z4 : Z (1, 4) (16 * i + k) = (G.v k : Int) := by rw [kIZ _ (by simp)]; exact hEk.2
      have z7 : Z (1, 7) (16 * i + k) = co k := by rw [kIZ _ (by simp)]; exact hC k hk
      refine rg_X10_findsCheap_94 hV Z _ _ _ _ _ ⟨⟨by omega, by omega⟩, ⟨by omega, by omega⟩, fun h => by rw [kIZ _ (by simp), tnN, hm9] at h; omega, fun _ => ?_⟩
      rintro _ rfl
      rw [tn16, z3, z4, z7, tnN, tnN, tnN, z20, zk.1, zk.2]
      refine ⟨⟨by omega, by omega⟩, ⟨by omega, by omega⟩, ⟨by omega, by omega⟩, ?_⟩
      rintro r hr
      have hput : ∀ hv : Int, (hv = fxh G lo hi co (J (1, 20)) k) → V 177 [(0, xr (1, 0)), (1, xi (i : Int)), (2, xi (s : Int)), (3, xi (t : Int)), (5, xi a), (6, xi (k : Int)), (8, xi r)] [xi hv, xi (k : Int), xr (1, 18)] (Z, xst c) 0 0 := by
        intro hv hh
        have hvb : 0 ≤ hv ∧ hv ≤ 99 := by rw [hh]; unfold fxh; split <;> omega
        refine rg_X10_findsCheap_177 hV Z _ _ _ _ _ _ _ _ ⟨⟨by omega, by omega⟩, ⟨by omega, by omega⟩, ?_⟩
        rintro Y rfl
        rw [tnN]
        have kY : kp [(1, 17), (1, 18)] K (xu Z (1, 18) k hv) := kZ.xu (by simp)
        have y18 : (xu Z (1, 18) k hv) (1, 18) = upL (Z (1, 18)) k hv := xuL
        have y17 : (xu Z (1, 18) k hv) (1, 17) = Z (1, 17) := xu_p (by decide)
        generalize xu Z (1, 18) k hv = Y at kY y18 y17 ⊢
        have last : ∀ w : Int, w = fxl G lo hi co (J (1, 20)) k → V 94 [(0, xr (1, 0)), (1, xi (i : Int)), (2, xi (s : Int)), (3, xi (t : Int)), (5, xi a), (6, xi ((k : Int) + 1))] [] (xu Y (1, 17) k w, xst c) 0 0 := fun w hw => by
          refine ih _ (kY.xu (by simp)) fun e he => ?_
          rw [xuL, xu_p (by decide), y17, y18]
          by_cases hek : e = k
          · rw [hek, upL_s, upL_s, if_pos (show k < k + 1 by omega)]
            exact ⟨hw, hh⟩
          · rw [upL_n hek, upL_n hek]
            have := hZ e he
            by_cases h1 : e < k
            · rw [if_pos h1] at this; rw [if_pos (show e < k + 1 by omega)]; exact this
            · rw [if_neg h1] at this; rw [if_neg (show ¬ e < k + 1 by omega)]; exact this
        refine ⟨⟨by omega, by omega⟩, fun h0 => ⟨⟨by omega, by omega⟩, ?_⟩, fun h0 => ⟨⟨by omega, by omega⟩, ?_⟩⟩
        · rintro _ rfl
          refine last _ ?_
          rw [y17, zk.1]
          unfold fxl
          rw [← hr, if_neg (show ¬ r < 0 by omega)]
        · rintro _ rfl
          refine last _ ?_
          rw [y18, upL_s, hh]
          unfold fxl fxh
          rw [← hr, if_pos h0, if_neg (show ¬ 0 < r by omega)]
      refine ⟨⟨by omega, by omega⟩, fun h0 => ⟨⟨by omega, by omega⟩, hput _ ?_⟩, fun h0 => ⟨⟨by omega, by omega⟩, hput _ ?_⟩⟩
      · unfold fxh; rw [← hr, if_neg (show ¬ 0 < r by omega)]
      · unfold fxh; rw [← hr, if_pos h0]
  -- one look at the costs
  have look : ∀ (J : xIn), kp [(1, 17), (1, 18), (1, 19), (1, 20), (1, 21)] I J → FS G lo hi (isB s t a) (J (1, 19)) → (∀ (K : xIn) (x : Nat), kp [(1, 17), (1, 18), (1, 19), (1, 20), (1, 21)] I K → K (1, 19) = J (1, 19) → x < G.n → (∃ via τ, BFI G.n 32 (BAs G lo hi co (J (1, 19)) c32) (GR G lo hi co (J (1, 19))) 9999 (fun _ => true) (G.n * 32) 32 (K (1, 20)) via τ ∧ EncR K G.n via τ ∧ G.n * 32 < τ x) → V 54 [(0, xr (1, 0)), (1, xi (i : Int)), (2, xi (s : Int)), (3, xi (t : Int)), (4, xi (x : Int))] [] (K, xst c) 0 0) → ∃ P2 : Int → xIn → Prop, xRet rI X m_X10_costsFrom (d + 5) [xr (1, 0), xi (i : Int), xi (-1)] c J 0 0 P2 xNo ∧ ∀ (v4 : Int) (I3 : xIn), P2 v4 I3 → V 54 [(0, xr (1, 0)), (1, xi (i : Int)), (2, xi (s : Int)), (3, xi (t : Int)), (4, xi v4)] [] (I3, xst c) 0 0 := by
    intro J kJ fJ hgo
    have hMJ : MG J i G := hM.k9 kJ (by simp) (by simp) (by simp) (by simp)
    have hNJ : MN J i G.m lo hi := hN.k9 kJ (by simp) (by simp)
    have hCJ : MCo J i G.m co := hC.k9 kJ (by simp)
    refine ⟨_, ok_costsFrom hX (d + 4) hG hMJ hNJ hCJ hco rfl (a := -1) ⟨by omega, by omega⟩, ?_⟩
    rintro v K ⟨kK, via, τ, hB, hEn, hl⟩
    rw [srcB_neg (by omega)] at hB
    have kIK := kJ.tr (kK.mo (qs := [(1, 17), (1, 18), (1, 19), (1, 20), (1, 21)]) (by simp))
    have k19 : K (1, 19) = J (1, 19) := kK _ (by simp)
    rcases hl with ⟨q1, q2⟩ | ⟨x, q1, q2, q3⟩
    · have hA := BAs_ok (lo := lo) (hi := hi) (f := J (1, 19)) hGi hne hco (c32_ok hm16)
      refine fin K v kIK (by rw [k19]; exact fJ) ?_ (fun x hx => ?_) (by omega) ⟨by omega, by omega⟩
      · rw [k19]
        refine PT_of (by omega) fun u x q hr => ?_
        obtain ⟨j, i1, i2, i3, i4, i5⟩ := BAs_all (c32_ok hm16) hr
        have := hB.feas hA (by omega) q2 i1 i2 (hB.2.2.2.2 _ (hA j i1 i2).1 rfl).1
        rw [i3, i4, i5] at this
        exact this.2
      · have a := (hB.bd hx).resolve_left (hB.2.2.2.2 x hx rfl).1
        have : G.n * 32 ≤ 256 := Nat.mul_le_mul hn8 (Nat.le_refl 32)
        omega
    · rw [q2]
      exact hgo K x kIK k19 q1 ⟨via, τ, hB, hEn, q3⟩
  have loop : ∀ fuel : Nat, ∀ (J : xIn), kp [(1, 17), (1, 18), (1, 19), (1, 20), (1, 21)] I J → FS G lo hi (isB s t a) (J (1, 19)) → costF G co (J (1, 19)) + 400000 ≤ fuel → ∃ P2 : Int → xIn → Prop, xRet rI X m_X10_costsFrom (d + 5) [xr (1, 0), xi (i : Int), xi (-1)] c J 0 0 P2 xNo ∧ ∀ (v4 : Int) (I3 : xIn), P2 v4 I3 → V 54 [(0, xr (1, 0)), (1, xi (i : Int)), (2, xi (s : Int)), (3, xi (t : Int)), (4, xi v4)] [] (I3, xst c) 0 0 := by
    intro fuel
    induction fuel with
    | zero =>
      intro J kJ fJ cJ
      refine look J kJ fJ ?_
      rintro K x kK k19 hx ⟨via, τ, hB, hEn, hτ⟩
      exfalso
      have hlt : (G.n - 1) * 32 < τ x := by
        have := Nat.mul_le_mul_right 32 (show G.n - 1 ≤ G.n by omega)
        omega
      obtain ⟨l, l1, l2, l3, l4, hall, happ, hturn⟩ := ring_turn (c32_ok hm16) hGi hne hco fJ hB hx hlt
      have := hturn 1 (by omega) (fun k hk => (hall k).2.2.2)
      have := hcost _ this.1
      omega
    | succ fuel ih =>
      intro J kJ fJ cJ
      refine look J kJ fJ ?_
      rintro K x kK k19 hx ⟨via, τ, hB, hEn, hτ⟩
      have hlt : (G.n - 1) * 32 < τ x := by
        have := Nat.mul_le_mul_right 32 (show G.n - 1 ≤ G.n by omega)
        omega
      obtain ⟨l, l1, l2, l3, l4, hall, happ, hturn⟩ := ring_turn (c32_ok hm16) hGi hne hco fJ hB hx hlt
      have hA := BAs_ok (lo := lo) (hi := hi) (f := J (1, 19)) hGi hne hco (c32_ok hm16)
      have hback := hB.back hA hx hlt
      have hch : ∀ k, chn (BAs G lo hi co (J (1, 19)) c32) via x k < G.n ∧ K (1, 21) (chn (BAs G lo hi co (J (1, 19)) c32) via x k) = (via (chn (BAs G lo hi co (J (1, 19)) c32) via x k) : Int) ∧ eg (c32 (via (chn (BAs G lo hi co (J (1, 19)) c32) via x k))) < G.m ∧ via (chn (BAs G lo hi co (J (1, 19)) c32) via x k) < 32 ∧ chn (BAs G lo hi co (J (1, 19)) c32) via x (k + 1) = bgn G (c32 (via (chn (BAs G lo hi co (J (1, 19)) c32) via x k))) := by
        intro k
        have hfr : chn (BAs G lo hi co (J (1, 19)) c32) via x k < G.n ∧ 0 < τ (chn (BAs G lo hi co (J (1, 19)) c32) via x k) := by
          by_cases hi9 : k + 1 ≤ G.n
          · have := hback k (by omega)
            exact ⟨this.1, by omega⟩
          · have := hall (k - G.n)
            rw [show G.n + (k - G.n) = k by omega] at this
            exact ⟨this.1, this.2.1⟩
        obtain ⟨-, -, h3⟩ := hB.1 _ hfr.1
        obtain ⟨y1, y2, -⟩ := h3 hfr.2
        exact ⟨hfr.1, hEn _ hfr.1 hfr.2, (of_decide_eq_true y2).1, y1, rfl⟩
      have hMK : MG K i G := hM.k9 kK (by simp) (by simp) (by simp) (by simp)
      have hNK : MN K i G.m lo hi := hN.k9 kK (by simp) (by simp)
      have htr := ok_turnsRound (c := c) hX (d + 4) hG hMK hNK (fun e he => by have := hb e he; omega) (fun e he => by rw [k19]; exact fJ.1 e he) (u := chn (BAs G lo hi co (J (1, 19)) c32) via x) (sg := fun k => via (chn (BAs G lo hi co (J (1, 19)) c32) via x k)) hch l1 l2 l3 l4 happ (fun k _ => by rw [k19]; exact (hall k).2.2.2)
      rw [show chn (BAs G lo hi co (J (1, 19)) c32) via x 0 = x from Eq.refl _] at htr
      refine rg_X10_findsCheap_54 hV K _ _ _ _ ⟨⟨by omega, by omega⟩, fun h => by omega, fun _ => ⟨_, htr, ?_⟩⟩
      rintro _ N ⟨kN, n19⟩
      rw [k19] at n19
      have hge : 1 ≤ mw 1000 (fun k => rsp lo hi (J (1, 19)) (c32 (via (chn (BAs G lo hi co (J (1, 19)) c32) via x (G.n + k))))) l := mw_ge (by omega) fun k _ => (hall k).2.2.2
      have hle := mw_le (lim := 1000) (g := fun k => rsp lo hi (J (1, 19)) (c32 (via (chn (BAs G lo hi co (J (1, 19)) c32) via x (G.n + k))))) (k := l)
      have ht9 := hturn _ hge hle.2
      rw [← n19] at ht9
      exact ih N (kK.tr (kN.mo (by simp))) ht9.1 (by have := ht9.2; omega)
  -- the row begins as the least one
  have kI1 : kp [(1, 17), (1, 18), (1, 19), (1, 20), (1, 21)] I J1 := kp.mo k1 (by simp)
  refine up_to0 (m := G.m) (W := fun k => ∀ Y, kp [(1, 19)] J1 Y → (∀ e, e < k → Y (1, 19) e = (lxF G lo hi s t a G.m).1 e) → V 15 [(0, xr (1, 0)), (1, xi (i : Int)), (2, xi (s : Int)), (3, xi (t : Int)), (4, xi (k : Int))] [] (Y, xst c) 0 0) ?_ ?_ J1 kp.rfl (fun e he => absurd he (Nat.not_lt_zero e))
  · intro Y kY hY
    have kIY : kp [(1, 17), (1, 18), (1, 19), (1, 20), (1, 21)] I Y := kI1.tr (kY.mo (by simp))
    have fY : FS G lo hi (isB s t a) (Y (1, 19)) := FS_cong (fun e he => (hY e he).symm) hfl
    have := hcost _ fY
    refine rg_X10_findsCheap_15 hV Y _ _ _ _ ⟨⟨by omega, by omega⟩, ⟨by omega, by omega⟩, fun _ => loop 800000 Y kIY fY (by omega), fun h => by rw [kIY _ (by simp), tnN, hm9] at h; omega⟩
  · intro k hk ih Y kY hY
    have kIY : kp [(1, 17), (1, 18), (1, 19), (1, 20), (1, 21)] I Y := kI1.tr (kY.mo (by simp))
    refine rg_X10_findsCheap_15 hV Y _ _ _ _ ⟨⟨by omega, by omega⟩, ⟨by omega, by omega⟩, fun h => by rw [kIY _ (by simp), tnN, hm9] at h; omega, fun _ => ⟨⟨by omega, by omega⟩, ?_⟩⟩
    rintro _ rfl
    refine ih _ (kY.xu (by simp)) fun e he => ?_
    rw [xuL, tnN]
    rcases upL_c (Y (1, 19)) k (Y (1, 17) k) e with ⟨w1, w2⟩ | ⟨w1, w2⟩
    · rw [w2, w1, kY _ (by simp)]; exact (b2 k hk).1
    · rw [w2]; exact hY e (by omega)
end MCH
