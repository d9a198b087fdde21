/-! the law on ways and steps -/
section SO
variable {X : xX} {c : xCx} {I : xIn} {T : NT} {lk : Nat → Nat} {B : TB} {P : PJ} {m b : Nat} {A : Int} {s t : Nat}
theorem lw_cornerWays (hX : xBase X) (d : Nat) (h : WS I c T lk B P m A) (hs : s < (T.G 0).n) (ht : t < (T.G 0).n) (hst : s ≠ t) : xRet rI X m_X9_cornerWays (d + 8) [xr (0, 0), xi 0, xi (s : Int), xi (t : Int)] c I 2 12 (fun v J => keepC I J ∧ v = cornerWaysG (T.G 0) (T.hi 0) s t) xNo := by
  have h6 := h.n6
  have hA : cornerWaysA T 0 s t = (cornerWaysG (T.G 0) (T.hi 0) s t, 0) := by
    unfold cornerWaysA
    rw [wE_0 (w0 h.N hs ht hst), tnN, tnN, Int.toNat_zero]
  refine xRet_w (cn_cornerWays hX d h.1 h.2.1 x0 (xn (by omega)) (xn (by omega))) (fun v J => ?_) (fun e J => ?_)
  · rintro ⟨k, hv⟩
    rw [hA] at hv
    exact ⟨k, congrArg Prod.fst hv⟩
  · rintro ⟨k, hv⟩
    rw [hA] at hv
    exact (exL0 hv).elim
theorem lw_edgeWays (hX : xBase X) (d : Nat) (h : WS I c T lk B P m A) (hs : s < (T.G 0).n) (ht : t < (T.G 0).n) (hst : s ≠ t) : xRet rI X m_X9_edgeWays (d + 8) [xr (0, 0), xi 0, xi (s : Int), xi (t : Int)] c I 2 12 (fun v J => keepC I J ∧ v = edgeWaysG (T.G 0) (T.hi 0) s t) xNo := by
  have h6 := h.n6
  have hA : edgeWaysA T 0 s t = (edgeWaysG (T.G 0) (T.hi 0) s t, 0) := by
    unfold edgeWaysA
    rw [wE_0 (w0 h.N hs ht hst), tnN, tnN, Int.toNat_zero]
  refine xRet_w (cn_edgeWays hX d h.1 h.2.1 x0 (xn (by omega)) (xn (by omega))) (fun v J => ?_) (fun e J => ?_)
  · rintro ⟨k, hv⟩
    rw [hA] at hv
    exact ⟨k, congrArg Prod.fst hv⟩
  · rintro ⟨k, hv⟩
    rw [hA] at hv
    exact (exL0 hv).elim
theorem lw_apart (hX : xBase X) (d : Nat) (h : WS I c T lk B P m A) (hs : s < (T.G 0).n) (ht : t < (T.G 0).n) (hst : s ≠ t) : xRet rI X m_X9_apart (d + 8) [xr (0, 0), xi 0, xi (s : Int), xi (t : Int)] c I 3 18 (fun v J => J = I ∧ v = partV (T.G 0) (T.hi 0) s t ∧ dirN (T.G 0) (T.hi 0) s t (T.G 0).m = 0) (fun e J => J = I ∧ e = xUOE ∧ 0 < dirN (T.G 0) (T.hi 0) s t (T.G 0).m) := by
  have h6 := h.n6
  have hA : apartA T 0 s t = if 0 < dirN (T.G 0) (T.hi 0) s t (T.G 0).m then (0, 3) else (partV (T.G 0) (T.hi 0) s t, 0) := by
    unfold apartA apartG
    rw [wE_0 (w0 h.N hs ht hst), tnN, tnN, Int.toNat_zero]
  have h0 := (dirN_bd (T.G 0) (T.hi 0) s t (T.G 0).m).1
  refine xRet_w (cn_apart hX d h.1 h.2.1 x0 (xn (by omega)) (xn (by omega))) (fun v J => ?_) (fun e J => ?_)
  · rintro ⟨k, hv⟩
    rw [hA] at hv
    by_cases z : 0 < dirN (T.G 0) (T.hi 0) s t (T.G 0).m
    · rw [if_pos z] at hv
      exact absurd (congrArg Prod.snd hv) (show (0 : Int) ≠ 3 by decide)
    · rw [if_neg z] at hv
      exact ⟨k, congrArg Prod.fst hv, by omega⟩
  · rintro ⟨k, hv⟩
    rw [hA] at hv
    by_cases z : 0 < dirN (T.G 0) (T.hi 0) s t (T.G 0).m
    · rw [if_pos z] at hv
      exact ⟨k, exL_at (k := 2) hv rfl, z⟩
    · rw [if_neg z] at hv
      exact (exL0 hv).elim
theorem lw_inSteps (hX : xBase X) (d : Nat) (h : WS I c T lk B P m A) (hs : s < (T.G 0).n) (ht : t < (T.G 0).n) (hst : s ≠ t) {x : Int} {k : Nat} (hx : x = (k : Int)) (hk : k ≤ 8) : xRet rI X m_X9_inSteps (d + 8) [xr (0, 0), xi 0, xi (s : Int), xi (t : Int), xi x] c I 3 18 (fun v J => keepC I J ∧ v = inStepsG (T.G 0) (T.hi 0) s t k) xNo := by
  subst hx
  have h6 := h.n6
  have hA : inStepsA T 0 s t k = (inStepsG (T.G 0) (T.hi 0) s t k, 0) := by
    unfold inStepsA
    rw [wE_0 (w0 h.N hs ht hst), tnN, tnN, tnN, Int.toNat_zero, if_pos ⟨by omega, by omega⟩]
  refine xRet_w (cn_inSteps hX d h.1 h.2.1 x0 (xn (by omega)) (xn (by omega)) (xn (by omega))) (fun v J => ?_) (fun e J => ?_)
  · rintro ⟨k, hv⟩
    rw [hA] at hv
    exact ⟨k, congrArg Prod.fst hv⟩
  · rintro ⟨k, hv⟩
    rw [hA] at hv
    exact (exL0 hv).elim
theorem lc_waysSo (hX : xBase X) (d : Nat) (hLA : LA c m b) (hS : SC X c) (hW : WS I c T lk B P m A) (hA : A + 3 ≤ 1000000) : xRet rB X m_L_waysSo (d + 9) [xr (2, 0)] c I 20 120 (fun v J => v = true ∧ keepV 3 I J) xNo := by
  have h6 := hW.n6
  have h11 := hW.m11
  have hm9 := hW.m9
  have hE := hW.2.2.1
  have hAt := hW.2.2.2.2.2.2
  have hb : ∀ e, e < (T.G 0).m → 0 ≤ T.hi 0 e ∧ T.hi 0 e ≤ 99 := fun e he => by have := hW.bd e he; omega
  refine xRet_of hX pl_L_waysSo (LE1 rfl) fun V hV => rg_L_waysSo_0 hX hV hLA (LE1 rfl) (LE1 rfl) I ⟨_, lc_draw hX (d + 7) hLA.1 hS ⟨hAt.1, by have := hAt.2.1; omega⟩ (LD.d4 hE), ?_⟩
  rintro v3 I2 ⟨hv3, k2⟩
  have hW2 := hW.keep k2.V (by omega)
  have hE2 := hW2.2.2.1
  have h42 : I2 (2, 0) 4 = ((T.G 0).n : Int) := hE2.2.2.2.1
  have h41 : I (2, 0) 4 = ((T.G 0).n : Int) := hE.2.2.2.1
  refine ⟨_, lc_draw hX (d + 7) hLA.1 hS ⟨hW2.2.2.2.2.2.2.1, by have := hW2.2.2.2.2.2.2.2.1; omega⟩ (by rw [h42]; omega), ?_⟩
  rintro v8 I7 ⟨hv8, k7⟩
  have kV7 : keepV 2 I I7 := k2.V.tr k7.V
  have hW7 := hW.keep kV7 (by omega)
  have hE7 := hW7.2.2.1
  have h47 : I7 (2, 0) 4 = ((T.G 0).n : Int) := hE7.2.2.2.1
  rw [h41] at hv3
  rw [h42] at hv8
  rw [h47]
  refine ⟨⟨by omega, by omega⟩, ⟨by omega, by omega⟩, fun x11 hx11 => ?_⟩
  obtain ⟨s, t, rfl, ht, hs, htn, hst⟩ := ends2 hv3 hv8
  rw [ht] at hx11
  subst hx11
  obtain ⟨⟨w1, w2⟩, w3⟩ := ways_bd (hi := T.hi 0) hW.g hs htn hst
  have w4 := ways_le (hi := T.hi 0) hW.g hs htn hst
  have last : ∀ J : xIn, keepV 2 I J → V 115 [(0, xr (2, 0)), (1, xi (s : Int)), (2, xi (t : Int)), (5, xi (xbi true))] [] (J, xst c) 7 42 := by
    intro J hJ
    have hWJ := hW.keep hJ (by omega)
    have hAJ := hWJ.2.2.2.2.2.2
    refine rg_L_waysSo_115 hX hV hLA (LE1 rfl) (LE1 rfl) J _ _ _ ⟨_, lc_draw hX (d + 7) hLA.1 hS ⟨hAJ.1, by have := hAJ.2.1; omega⟩ ⟨by decide, by decide⟩, ?_⟩
    rintro v J1 ⟨hv, k1⟩
    have hJ1 : keepV 3 I J1 := hJ.tr k1.V
    have hvn : v = ((v.toNat : Nat) : Int) := by omega
    have hv9 : v + 1 = ((v.toNat + 1 : Nat) : Int) := by omega
    have st := steps_up (s := s) (t := t) hW.g hb v.toNat
    have b1 := steps_bd (s := s) (t := t) hW.g hb v.toNat
    have b2 := steps_bd (s := s) (t := t) hW.g hb (v.toNat + 1)
    refine ⟨_, lw_inSteps hX (d + 0) (hW.keep hJ1 (by omega)) hs htn hst hvn (by omega), ?_⟩
    rintro _ J2 ⟨k2, rfl⟩
    have hJ2 := hJ1.C k2
    refine ⟨(fun z => by cases z), fun _ => ⟨_, lw_inSteps hX (d + 0) (hW.keep hJ2 (by omega)) hs htn hst hv9 (by omega), ?_⟩⟩
    rintro _ J3 ⟨k3, rfl⟩
    have hJ3 := hJ2.C k3
    refine ⟨⟨by omega, by omega⟩, ⟨by omega, by omega⟩, fun z => by omega, fun _ => ⟨_, lw_inSteps hX (d + 0) (hW.keep hJ3 (by omega)) hs htn hst (x := 0) (k := 0) rfl (by omega), ?_⟩⟩
    rintro _ J4 ⟨k4, rfl⟩
    rw [steps_0 hs hst]
    exact ⟨⟨by decide, by decide⟩, fun z => absurd rfl z, fun _ => ⟨rfl, hJ3.C k4⟩⟩
  refine ⟨_, lw_cornerWays hX (d + 0) hW7 hs htn hst, ?_⟩
  rintro _ J1 ⟨k1, rfl⟩
  have hJ1 := kV7.C k1
  refine ⟨_, lw_edgeWays hX (d + 0) (hW.keep hJ1 (by omega)) hs htn hst, ?_⟩
  rintro _ J2 ⟨k2, rfl⟩
  have hJ2 := hJ1.C k2
  refine ⟨⟨by omega, by omega⟩, ⟨by have := w1; omega, by omega⟩, fun z => by omega, fun _ => ?_⟩
  refine rg_L_waysSo_63 hX hV hLA (LE1 rfl) (LE1 rfl) J2 _ _ _ _ ⟨(fun z => by cases z), fun _ => ⟨_, _, lw_apart hX (d + 0) (hW.keep hJ2 (by omega)) hs htn hst, ?_, ?_⟩⟩
  · rintro e J ⟨rfl, rfl, hd⟩
    have hpos : 0 < cornerWaysG (T.G 0) (T.hi 0) s t := by unfold cornerWaysG; omega
    exact ⟨rfl, (fun z => by cases z), fun _ => ⟨⟨by omega, by omega⟩, fun z => by omega, fun _ => rg_L_waysSo_113 hX hV hLA (LE1 rfl) (LE1 rfl) J _ _ _ (last J hJ2)⟩⟩
  · rintro _ J ⟨rfl, rfl, hd⟩
    obtain ⟨M, m1, m2, -⟩ := part_ex hW.g (T.hi 0) hs htn hst
    have hp := pow2_le8 hW.g.2.1
    have hcw : cornerWaysG (T.G 0) (T.hi 0) s t = ((pc8 M : Nat) : Int) := by
      unfold cornerWaysG
      rw [hd, m2, tnN]
      omega
    refine ⟨_, jd_bitCount hX (d + 8) m2 (by omega), ?_⟩
    rintro _ _ ⟨rfl, rfl⟩
    rw [← hcw]
    exact ⟨⟨by omega, by omega⟩, ⟨by omega, by omega⟩, fun z => absurd rfl z, fun _ => rg_L_waysSo_92 hX hV hLA (LE1 rfl) (LE1 rfl) _ _ _ _ _ _ (last _ hJ2)⟩
end SO
