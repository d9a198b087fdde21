/-! the class: rings are turned until none costs less than nothing -/
section CHG
variable {X : xX} {c : xCx} {I : xIn} {G : Gr} {lo hi co f : Nat → Int}
theorem fl_cameFrom (hX : xBase X) (d : Nat) (hF : FR I G) {y σ : Nat} (hy : y < G.n) (hs : I (0, 13) y = (σ : Int)) (h9 : eg σ < G.m) (h64 : σ < 64) : xRet rI X m_X1_cameFrom d [xr (0, 3), xi (y : Int)] c I 0 0 (pv ((bgn G σ : Nat) : Int) I) xNo := by
  obtain ⟨g1, g2, g3, g4, g5, g6⟩ := id hF
  refine xRet_of hX pl_X1_cameFrom (LE1 rfl) fun V hV => rg_X1_cameFrom_0 hV I _ ⟨⟨by omega, by omega⟩, ?_⟩
  rintro _ rfl
  rw [tnN, hs]
  unfold eg at h9
  refine ⟨fun _ => ⟨fun h => ⟨⟨by omega, by omega⟩, ?_⟩, fun h => ⟨⟨by omega, by omega⟩, ?_⟩⟩, fun h => by omega⟩
  · have c1 : ¬ σ < 32 := by omega
    rw [if_neg c1] at h9
    rw [tnS]
    refine ⟨?_, rfl⟩
    rw [(g6 _ h9).2]
    unfold bgn
    rw [if_neg c1]
  · have c1 : σ < 32 := by omega
    rw [if_pos c1] at h9
    rw [tnN]
    refine ⟨?_, rfl⟩
    rw [(g6 _ h9).1]
    unfold bgn
    rw [if_pos c1]
theorem fl_findRing (hX : xBase X) (d : Nat) (hF : FR I G) {u sg : Nat → Nat} {l : Nat} (h1 : ∀ i, u i < G.n ∧ I (0, 13) (u i) = (sg i : Int) ∧ eg (sg i) < G.m ∧ sg i < 64 ∧ u (i + 1) = bgn G (sg i)) (hl1 : 1 ≤ l) (hl2 : l ≤ G.n) (hl3 : u (G.n + l) = u G.n) (hl4 : ∀ i, 1 ≤ i → i < l → u (G.n + i) ≠ u G.n) : xRet rB X m_X1_findRing (d + 1) [xr (0, 3), xi (u 0 : Int)] c I 0 0 (fun v I9 => v = true ∧ kp [(0, 3), (0, 14)] I I9 ∧ (∀ j, j ≠ 13 → I9 (0, 3) j = I (0, 3) j) ∧ I9 (0, 3) 13 = (l : Int) ∧ ∀ i, i < l → I9 (0, 14) i = (sg (G.n + i) : Int)) xNo := by
  obtain ⟨g1, g2, g3, g4, g5, g6⟩ := id hF
  refine xRet_of hX pl_X1_findRing (LE1 rfl) fun V hV => rg_X1_findRing_0 hV I _ ?_
  -- the ring
  have ring : ∀ fuel i, l ≤ i + fuel → ∀ J, kp [(0, 3), (0, 14)] I J → (∀ j, j ≠ 13 → J (0, 3) j = I (0, 3) j) → J (0, 3) 13 = (i : Int) → (∀ k, k < i → J (0, 14) k = (sg (G.n + k) : Int)) → i < l → V 36 [(0, xr (0, 3)), (2, xi (u (G.n + i) : Int)), (3, xi (u G.n : Int))] [] (J, xst c) 0 0 := by
    intro fuel
    induction fuel with
    | zero => intro i h1 J _ _ _ _ h2; omega
    | succ fuel ih =>
      intro i hil J kJ q3 q13 q14 hlt
      obtain ⟨a1, a2, a3, a4, a5⟩ := h1 (G.n + i)
      have b1 : u (G.n + i + 1) < G.n := (h1 (G.n + i + 1)).1
      have ⟨b0, _⟩ := h1 G.n
      refine rg_X1_findRing_36 hV J _ _ ⟨⟨by omega, by omega⟩, fun h => by omega, fun _ => ⟨fun h => by omega, fun h => ⟨⟨by omega, by omega⟩, ⟨by omega, by omega⟩, ?_⟩⟩⟩
      rintro _ rfl
      have e13 : xu J (0, 14) (Int.toNat (J (0, 3) 13)) (J (0, 13) (Int.toNat (u (G.n + i) : Int))) (0, 3) 13 = (i : Int) := by rw [xu_p (by decide), q13]
      rw [e13]
      refine ⟨⟨by omega, by omega⟩, ?_⟩
      rintro _ rfl
      have kK : kp [(0, 3), (0, 14)] I (xu (xu J (0, 14) (Int.toNat (J (0, 3) 13)) (J (0, 13) (Int.toNat (u (G.n + i) : Int)))) (0, 3) 13 ((i : Int) + 1)) := (kJ.xu (by simp)).xu (by simp)
      have k3 : ∀ j, j ≠ 13 → (xu (xu J (0, 14) (Int.toNat (J (0, 3) 13)) (J (0, 13) (Int.toNat (u (G.n + i) : Int)))) (0, 3) 13 ((i : Int) + 1)) (0, 3) j = I (0, 3) j := fun j hj => by rw [xu_k hj, xu_p (by decide), q3 j hj]
      have k13 : (xu (xu J (0, 14) (Int.toNat (J (0, 3) 13)) (J (0, 13) (Int.toNat (u (G.n + i) : Int)))) (0, 3) 13 ((i : Int) + 1)) (0, 3) 13 = ((i + 1 : Nat) : Int) := by rw [xu_same]; omega
      have k14 : ∀ k, k < i + 1 → (xu (xu J (0, 14) (Int.toNat (J (0, 3) 13)) (J (0, 13) (Int.toNat (u (G.n + i) : Int)))) (0, 3) 13 ((i : Int) + 1)) (0, 14) k = (sg (G.n + k) : Int) := fun k hk => by
        have ek : J (0, 13) (u (G.n + i)) = (sg (G.n + i) : Int) := by rw [kJ (0, 13) (by simp)]; exact a2
        rw [xu_p (by decide), xuL, q13, tnN, tnN, ek]
        rcases upL_c (J (0, 14)) i (sg (G.n + i) : Int) k with ⟨w1, w2⟩ | ⟨w1, w2⟩
        · rw [w2, w1]
        · rw [w2]; exact q14 k (by omega)
      generalize xu (xu J (0, 14) (Int.toNat (J (0, 3) 13)) (J (0, 13) (Int.toNat (u (G.n + i) : Int)))) (0, 3) 13 ((i : Int) + 1) = K at kK k3 k13 k14 ⊢
      have hFK : FR K G := by
        refine ⟨by rw [k3 _ (by decide), g1], by rw [k3 _ (by decide), g2], g3, g4, g5, fun e he => ?_⟩
        rw [kK _ (by simp), kK _ (by simp)]; exact g6 e he
      refine ⟨_, fl_cameFrom hX d hFK a1 (by rw [kK _ (by simp)]; exact a2) a3 a4, ?_⟩
      rintro _ _ ⟨rfl, rfl⟩
      rw [← a5]
      refine ⟨⟨by omega, by omega⟩, ⟨by omega, by omega⟩, fun hne => ?_, fun heq => ⟨fun h => by omega, fun _ => ?_⟩⟩
      · have hil9 : i + 1 < l := by
          by_cases hc : i + 1 = l
          · exfalso
            apply hne
            show ((u (G.n + i + 1) : Nat) : Int) = _
            rw [show G.n + i + 1 = G.n + l by omega, hl3]
          · omega
        exact ih (i + 1) (by omega) _ kK k3 k13 k14 hil9
      · have hil9 : i + 1 = l := by
          by_cases hc : i + 1 = l
          · exact hc
          · exact absurd (show u (G.n + (i + 1)) = u G.n by have : ((u (G.n + i + 1) : Nat) : Int) = (u G.n : Int) := heq; rw [show G.n + (i + 1) = G.n + i + 1 by omega]; omega) (hl4 (i + 1) (by omega) (by omega))
        rw [hil9] at k13 k14
        exact ⟨rfl, kK, k3, k13, k14⟩
  -- the way back
  refine up_to0 (m := G.n) (W := fun i => V 4 [(0, xr (0, 3)), (2, xi (u i : Int)), (3, xi (i : Int))] [] (I, xst c) 0 0) ?_ ?_
  · refine rg_X1_findRing_4 hV I _ _ ⟨⟨by omega, by omega⟩, fun _ => ?_, fun h => by omega⟩
    rintro _ rfl
    exact ring l 0 (by omega) _ (kp.rfl.xu (by simp)) (fun j hj => xu_k hj) (xu_same) (fun k hk => absurd hk (Nat.not_lt_zero k)) (by omega)
  · intro i hi9 ih
    obtain ⟨a1, a2, a3, a4, a5⟩ := h1 i
    obtain ⟨b1, -⟩ := h1 (i + 1)
    refine rg_X1_findRing_4 hV I _ _ ⟨⟨by omega, by omega⟩, fun h => by omega, fun _ => ⟨⟨by omega, by omega⟩, fun h => by omega, fun _ => ⟨_, fl_cameFrom hX d hF a1 a2 a3 a4, ?_⟩⟩⟩
    rintro _ _ ⟨rfl, rfl⟩
    rw [← a5]
    exact ih
def kpC9 (I J : xIn) : Prop := kp [(0, 3), (0, 11), (0, 12), (0, 13), (0, 14)] I J ∧ ∀ j, j ≠ 13 → J (0, 3) j = I (0, 3) j
theorem kpC9.tr {I J K : xIn} (h1 : kpC9 I J) (h2 : kpC9 J K) : kpC9 I K := ⟨h1.1.tr h2.1, fun j hj => by rw [h2.2 j hj, h1.2 j hj]⟩
theorem kpC9.fr {I J : xIn} {G : Gr} (h : kpC9 I J) (hF : FR I G) : FR J G := by
  obtain ⟨g1, g2, g3, g4, g5, g6⟩ := hF
  refine ⟨by rw [h.2 _ (by decide), g1], by rw [h.2 _ (by decide), g2], g3, g4, g5, fun e he => ?_⟩
  rw [h.1 _ (by simp), h.1 _ (by simp)]; exact g6 e he
theorem fl_cheapen (hX : xBase X) (d : Nat) (hF : FR I G) (hn : 1 ≤ G.n) (hne : ∀ e, e < G.m → G.u e ≠ G.v e) (hco : ∀ e, e < G.m → -20 ≤ I (0, 8) e ∧ I (0, 8) e ≤ 20) (hb9 : Bd9 I G.m) {b : Nat → Int} (hf : FS G (I (0, 9)) (I (0, 10)) b (I (0, 11))) (hcost : ∀ g, FS G (I (0, 9)) (I (0, 10)) b g → -400000 ≤ costF G (I (0, 8)) g ∧ costF G (I (0, 8)) g ≤ 400000) : xRet rU X m_X1_cheapen (d + 2) [xr (0, 3)] c I 0 0 (fun _ I9 => kpC9 I I9 ∧ FS G (I (0, 9)) (I (0, 10)) b (I9 (0, 11)) ∧ PT G (I (0, 9)) (I (0, 10)) (I (0, 8)) (I9 (0, 11)) (I9 (0, 12)) ∧ ∀ x, x < G.n → -100000 ≤ I9 (0, 12) x ∧ I9 (0, 12) x ≤ 100000) xNo := by
  refine xRet_of hX pl_X1_cheapen (LE1 rfl) fun V hV => rg_X1_cheapen_0 hV I ?_
  have loop : ∀ fuel k : Nat, 900000 ≤ k + fuel → ∀ J, kpC9 I J → FS G (I (0, 9)) (I (0, 10)) b (J (0, 11)) → costF G (I (0, 8)) (J (0, 11)) + k ≤ 400000 → V 2 [(0, xr (0, 3)), (1, xi (k : Int))] [] (J, xst c) 0 0 := by
    intro fuel
    induction fuel with
    | zero => intro k hk J kJ fJ cJ; have := hcost _ fJ; omega
    | succ fuel ih =>
      intro k hk J kJ fJ cJ
      have hcJ := hcost _ fJ
      have hFJ := kJ.fr hF
      obtain ⟨g1, g2, g3, g4, g5, g6⟩ := id hFJ
      have e9 : J (0, 9) = I (0, 9) := kJ.1 _ (by simp)
      have e10 : J (0, 10) = I (0, 10) := kJ.1 _ (by simp)
      have e8 : J (0, 8) = I (0, 8) := kJ.1 _ (by simp)
      refine rg_X1_cheapen_2 hV J _ ⟨⟨by omega, by omega⟩, fun h => by omega, fun _ => ⟨_, fl_lowerAll hX d hFJ hn hne e9 e10 e8 rfl hco, ?_⟩⟩
      rintro v K ⟨kK, hK⟩
      have kIK : kpC9 I K := kJ.tr ⟨kK.mo (by simp), fun j _ => by rw [kK _ (by simp)]⟩
      rcases hK with ⟨q1, q2, q3⟩ | ⟨x, Q, via, τ, x1, x2, hB, hE, ht⟩
      · refine ⟨⟨by omega, by omega⟩, fun _ => ⟨kIK, ?_, ?_, q3⟩, fun h => absurd q1 h⟩
        · rw [kK _ (by simp)]; exact fJ
        · rw [kK _ (by simp)]; exact q2
      · obtain ⟨l, l1, l2, l3, l4, hall, happ, hturn⟩ := ring_turn (sg2_ok g4) g5 hne hco fJ hB x1 ht
        have hA := BAs_ok (lo := I (0, 9)) (hi := I (0, 10)) (f := J (0, 11)) g5 hne hco (sg2_ok g4)
        have hback := hB.back hA x1 ht
        have hfresh : ∀ i, chn (BAs G (I (0, 9)) (I (0, 10)) (I (0, 8)) (J (0, 11)) sg2) via x i < G.n ∧ 0 < τ (chn (BAs G (I (0, 9)) (I (0, 10)) (I (0, 8)) (J (0, 11)) sg2) via x i) := by
          intro i
          by_cases hi9 : i + 1 ≤ G.n
          · have := hback i (by omega)
            exact ⟨this.1, by omega⟩
          · have := hall (i - G.n)
            rw [show G.n + (i - G.n) = i by omega] at this
            exact ⟨this.1, this.2.1⟩
        have hFK := kIK.fr hF
        have hch : ∀ i, chn (BAs G (I (0, 9)) (I (0, 10)) (I (0, 8)) (J (0, 11)) sg2) via x i < G.n ∧ K (0, 13) (chn (BAs G (I (0, 9)) (I (0, 10)) (I (0, 8)) (J (0, 11)) sg2) via x i) = (sg2 (via (chn (BAs G (I (0, 9)) (I (0, 10)) (I (0, 8)) (J (0, 11)) sg2) via x i)) : Int) ∧ eg (sg2 (via (chn (BAs G (I (0, 9)) (I (0, 10)) (I (0, 8)) (J (0, 11)) sg2) via x i))) < G.m ∧ sg2 (via (chn (BAs G (I (0, 9)) (I (0, 10)) (I (0, 8)) (J (0, 11)) sg2) via x i)) < 64 ∧ chn (BAs G (I (0, 9)) (I (0, 10)) (I (0, 8)) (J (0, 11)) sg2) via x (i + 1) = bgn G (sg2 (via (chn (BAs G (I (0, 9)) (I (0, 10)) (I (0, 8)) (J (0, 11)) sg2) via x i))) := by
          intro i
          obtain ⟨a1, a2⟩ := hfresh i
          obtain ⟨-, -, h3⟩ := hB.1 _ a1
          obtain ⟨y1, y2, -⟩ := h3 a2
          exact ⟨a1, hE _ a1 a2, (of_decide_eq_true y2).1, (sg2_ok g4).1 _ y1, rfl⟩
        have hfr := fl_findRing (c := c) hX d hFK (u := chn (BAs G (I (0, 9)) (I (0, 10)) (I (0, 8)) (J (0, 11)) sg2) via x) (sg := fun i => sg2 (via (chn (BAs G (I (0, 9)) (I (0, 10)) (I (0, 8)) (J (0, 11)) sg2) via x i))) hch l1 l2 l3 l4
        rw [show chn (BAs G (I (0, 9)) (I (0, 10)) (I (0, 8)) (J (0, 11)) sg2) via x 0 = x from Eq.refl _, ← x2] at hfr
        refine ⟨⟨by omega, by omega⟩, fun h => by omega, fun _ => ⟨_, hfr, ?_⟩⟩
        rintro _ N ⟨rfl, kN, n3, n13, n14⟩
        have kIN : kpC9 I N := kIK.tr ⟨kN.mo (by simp), n3⟩
        have hFN := kIN.fr hF
        have m9 : N (0, 9) = I (0, 9) := kIN.1 _ (by simp)
        have m10 : N (0, 10) = I (0, 10) := kIN.1 _ (by simp)
        have m11 : N (0, 11) = J (0, 11) := by rw [kN _ (by simp), kK _ (by simp)]
        refine ⟨fun h => (Bool.noConfusion h), fun _ => ⟨_, fl_shift hX (d + 1) hFN (lim := 1000000) n13 (by omega) (fun i hi9 => ⟨n14 i hi9, (hch (G.n + i)).2.2.1⟩) (by omega) (fun e he => ?_), ?_⟩⟩
        · have a := hb9 e he
          have b := fJ.1 e he
          rw [m9, m10, m11]
          omega
        rintro v9 Z ⟨rfl, kZ, z11⟩
        rw [m9, m10, m11] at z11
        rw [m9, m10, m11]
        have hge : 1 ≤ mw 1000000 (fun i => rsp (I (0, 9)) (I (0, 10)) (J (0, 11)) (sg2 (via (chn (BAs G (I (0, 9)) (I (0, 10)) (I (0, 8)) (J (0, 11)) sg2) via x (G.n + i))))) l := mw_ge (by omega) fun i _ => (hall i).2.2.2
        have hle := mw_le (lim := 1000000) (g := fun i => rsp (I (0, 9)) (I (0, 10)) (J (0, 11)) (sg2 (via (chn (BAs G (I (0, 9)) (I (0, 10)) (I (0, 8)) (J (0, 11)) sg2) via x (G.n + i))))) (k := l)
        have ht9 := hturn _ hge hle.2
        generalize mw 1000000 (fun i => rsp (I (0, 9)) (I (0, 10)) (J (0, 11)) (sg2 (via (chn (BAs G (I (0, 9)) (I (0, 10)) (I (0, 8)) (J (0, 11)) sg2) via x (G.n + i))))) l = w at z11 hge hle ht9 ⊢
        refine ⟨⟨by omega, by omega⟩, fun _ => ?_, fun h => by omega⟩
        refine ih (k + 1) (by omega) Z (kIN.tr ⟨kZ.mo (by simp), fun j _ => by rw [kZ _ (by simp)]⟩) ?_ ?_
        · rw [z11]; exact ht9.1
        · rw [z11]
          have := ht9.2
          omega
  have := hcost _ hf
  exact loop 900000 0 (by omega) I ⟨kp.rfl, fun _ _ => rfl⟩ hf (by omega)
theorem fl_keepCheap (hX : xBase X) (d : Nat) (hF : FR I G) {b : Nat → Int} (hf : FS G (I (0, 9)) (I (0, 10)) b (I (0, 11))) (hp : PT G (I (0, 9)) (I (0, 10)) (I (0, 8)) (I (0, 11)) (I (0, 12))) (hbd : ∀ x, x < G.n → -100000 ≤ I (0, 12) x ∧ I (0, 12) x ≤ 100000) (hco : ∀ e, e < G.m → -20 ≤ I (0, 8) e ∧ I (0, 8) e ≤ 20) : xRet rU X m_X1_keepCheap (d + 2) [xr (0, 3)] c I 0 0 (fun _ I9 => kp [(0, 9), (0, 10)] I I9 ∧ ∀ e, e < G.m → I9 (0, 9) e = fxl G (I (0, 9)) (I (0, 10)) (I (0, 8)) (I (0, 12)) e ∧ I9 (0, 10) e = fxh G (I (0, 9)) (I (0, 10)) (I (0, 8)) (I (0, 12)) e) xNo := by
  obtain ⟨g1, g2, g3, g4, g5, g6⟩ := id hF
  refine xRet_of hX pl_X1_keepCheap (LE1 rfl) fun V hV => rg_X1_keepCheap_0 hV I ?_
  refine up_to0 (m := G.m) (W := fun k => ∀ J, kp [(0, 9), (0, 10)] I J → (∀ e, e < G.m → if e < k then J (0, 9) e = fxl G (I (0, 9)) (I (0, 10)) (I (0, 8)) (I (0, 12)) e ∧ J (0, 10) e = fxh G (I (0, 9)) (I (0, 10)) (I (0, 8)) (I (0, 12)) e else J (0, 9) e = I (0, 9) e ∧ J (0, 10) e = I (0, 10) e) → V 2 [(0, xr (0, 3)), (1, xi (k : Int))] [] (J, xst c) 0 0) ?_ ?_ I kp.rfl (fun e he => by rw [if_neg (Nat.not_lt_zero e)]; exact ⟨rfl, rfl⟩)
  · intro J hJ hL
    refine rg_X1_keepCheap_2 hV J _ ⟨⟨by omega, by omega⟩, fun _ => ⟨hJ, fun e he => ?_⟩, fun h => by rw [hJ _ (by simp), g2] at h; omega⟩
    have := hL e he
    rw [if_pos he] at this
    exact this
  · intro k hk ih J hJ hL
    obtain ⟨hu, hv⟩ := g6 k hk
    obtain ⟨hun, hvn⟩ := g5 k hk
    have bu := hbd _ hun
    have bv := hbd _ hvn
    have bc := hco k hk
    have pk := hp k hk
    have fk := hf.1 k hk
    have Lk := hL k hk
    rw [if_neg (Nat.lt_irrefl k)] at Lk
    have hFJ : FR J G := hF.kp hJ (by simp) (by simp) (by simp)
    have k4 : J (0, 4) = I (0, 4) := hJ _ (by simp)
    have k5 : J (0, 5) = I (0, 5) := hJ _ (by simp)
    have k8 : J (0, 8) = I (0, 8) := hJ _ (by simp)
    have k12 : J (0, 12) = I (0, 12) := hJ _ (by simp)
    have k11 : J (0, 11) = I (0, 11) := hJ _ (by simp)
    refine rg_X1_keepCheap_2 hV J _ ⟨⟨by omega, by omega⟩, fun h => by rw [hJ _ (by simp), g2] at h; omega, fun _ => ⟨⟨by omega, by omega⟩, ?_⟩⟩
    rw [tnN, k4, k5, hu, hv, tnN, tnN, k8, k12]
    refine ⟨⟨by omega, by omega⟩, ⟨by omega, by omega⟩, ⟨by omega, by omega⟩, fun h => ih J hJ fun e he => ?_, fun h => ⟨_, fl_keep hX d hFJ hk, ?_⟩⟩
    · by_cases hek : e = k
      · rw [hek, if_pos (by omega)]
        unfold fxl fxh
        rw [if_neg (by omega), if_neg (by omega)]
        exact Lk
      · have := hL e he
        by_cases h1 : e < k
        · rw [if_pos h1] at this; rw [if_pos (show e < k + 1 by omega)]; exact this
        · rw [if_neg h1] at this; rw [if_neg (show ¬ e < k + 1 by omega)]; exact this
    · rintro _ K ⟨kK, q9, q10⟩
      refine ih K (hJ.tr kK) fun e he => ?_
      rw [q9, q10, k11]
      by_cases hek : e = k
      · rw [hek, if_pos (by omega), upL_s, upL_s]
        unfold fxl fxh
        have hr0 : I (0, 12) (G.u k) + I (0, 8) k - I (0, 12) (G.v k) ≠ 0 := by omega
        generalize I (0, 12) (G.u k) + I (0, 8) k - I (0, 12) (G.v k) = r at *
        by_cases hr : r < 0
        · rw [if_pos hr, if_neg (by omega)]
          have : I (0, 11) k = I (0, 10) k := by
            by_cases hz : I (0, 11) k < I (0, 10) k
            · have := pk.1 hz; omega
            · omega
          exact ⟨this, this⟩
        · have hr9 : 0 < r := by omega
          rw [if_neg hr, if_pos hr9]
          have : I (0, 11) k = I (0, 9) k := by
            by_cases hz : I (0, 9) k < I (0, 11) k
            · have := pk.2 hz; omega
            · omega
          exact ⟨this, this⟩
      · rw [upL_n hek, upL_n hek]
        have := hL e he
        by_cases h1 : e < k
        · rw [if_pos h1] at this; rw [if_pos (show e < k + 1 by omega)]; exact this
        · rw [if_neg h1] at this; rw [if_neg (show ¬ e < k + 1 by omega)]; exact this
theorem fl_sumOfCosts (hX : xBase X) (d : Nat) (hF : FR I G) {k : Nat} (hk : k ≤ G.m) : xRet rI X m_X1_sumOfCosts d [xr (0, 3), xi (k : Int)] c I 0 0 (pv (sumE k (fun e => I (0, 11) e * I (0, 8) e)) I) xNo := by
  obtain ⟨g1, g2, g3, g4, g5, g6⟩ := id hF
  refine xRet_of hX pl_X1_sumOfCosts (LE1 rfl) fun V hV => rg_X1_sumOfCosts_0 hV I _ ?_
  refine up_to0 (m := k) (W := fun j => V 4 [(0, xr (0, 3)), (1, xi (k : Int)), (2, xi (sumE j (fun e => I (0, 11) e * I (0, 8) e))), (3, xi (j : Int))] [] (I, xst c) 0 0) ?_ ?_
  · exact rg_X1_sumOfCosts_4 hV I _ _ _ ⟨⟨by omega, by omega⟩, ⟨by omega, by omega⟩, fun _ => pvI rfl, fun h => by omega⟩
  · intro j hj ih
    refine rg_X1_sumOfCosts_4 hV I _ _ _ ⟨⟨by omega, by omega⟩, ⟨by omega, by omega⟩, fun h => by omega, fun _ => ⟨fun h => by rw [g2] at h; omega, fun _ => ⟨⟨by omega, by omega⟩, ?_⟩⟩⟩
    rintro _ rfl
    rw [tnN]
    exact ih
end CHG
