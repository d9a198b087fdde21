/-! the law on flows -/
theorem ends2 {n : Nat} {a v : Int} (ha : 0 ≤ a ∧ a < n) (hv : 0 ≤ v ∧ v < (n : Int) - 1) : ∃ s t : Nat, a = (s : Int) ∧ (a + 1 + v) % (n : Int) = (t : Int) ∧ s < n ∧ t < n ∧ s ≠ t := by
  refine ⟨a.toNat, ((a + 1 + v) % (n : Int)).toNat, by omega, ?_, by omega, ?_, ?_⟩
  · have := Int.emod_nonneg (a + 1 + v) (show (n : Int) ≠ 0 by omega)
    omega
  · have := Int.emod_lt_of_pos (a + 1 + v) (show (0 : Int) < n by omega)
    omega
  · by_cases h : a + 1 + v < n
    · rw [Int.emod_eq_of_lt (by omega) h]
      omega
    · have e : (a + 1 + v) % (n : Int) = a + 1 + v - n := by
        have e1 : a + 1 + v = (a + 1 + v - n) + n := by omega
        rw [e1, Int.add_emod_right, Int.emod_eq_of_lt (by omega) (by omega)]
        omega
      rw [e]
      omega
theorem LD.d4 {I : xIn} {T : NT} {m : Nat} (h : EW I T m) : 0 < I (2, 0) 4 ∧ I (2, 0) 4 ≤ 2147483647 := by
  obtain ⟨-, -, -, h4, h5, -⟩ := h
  omega
abbrev lxr (T : NT) (s t : Nat) : Nat → Int := (lxF (T.G 0) (T.lo 0) (T.hi 0) s t (amt T s t) (T.G 0).m).1
noncomputable abbrev chp (T : NT) (s t : Nat) : Nat → Int := cheapG (T.G 0) (T.lo 0) (T.hi 0) (T.co 0) s t
section SO
variable {X : xX} {c : xCx} {I : xIn} {T : NT} {lk : Nat → Nat} {B : TB} {P : PJ} {m b : Nat} {A : Int} {s t : Nat}
theorem fl_x (hW : WS I c T lk B P m A) (hex : EXZ T s t) : ∃ z : Nat → Int, (∀ e, e < m → chp T s t e = z e) ∧ FS (T.G 0) (T.lo 0) (T.hi 0) (isB s t (amt T s t)) z ∧ costG (T.G 0) (T.lo 0) (T.hi 0) (T.co 0) s t = sumE m (fun e => z e * T.co 0 e) ∧ ∀ g, FS (T.G 0) (T.lo 0) (T.hi 0) (isB s t (amt T s t)) g → sumE m (fun e => z e * T.co 0 e) ≤ sumE m (fun e => g e * T.co 0 e) := by
  obtain ⟨z, π, h1, -⟩ := hex
  have hm := hW.m9
  have e1 : ∀ g : Nat → Int, costF (T.G 0) (T.co 0) g = sumE m (fun e => g e * T.co 0 e) := fun g => by unfold costF; rw [hm]
  refine ⟨z, fun e he => cheapG_eq h1 (by omega), h1.1, ?_, fun g hg => ?_⟩
  · rw [costG_eq h1, e1]
  · rw [← e1, ← e1]; exact h1.2.1 g hg
theorem fs_99 (hW : WS I c T lk B P m A) {b9 z : Nat → Int} (h : FS (T.G 0) (T.lo 0) (T.hi 0) b9 z) {e : Nat} (he : e < m) : (0 ≤ z e ∧ z e ≤ 99) ∧ -1980 ≤ z e * T.co 0 e ∧ z e * T.co 0 e ≤ 1980 := by
  have hm := hW.m9
  have h1 := h.1 e (by omega)
  have h2 := hW.bd e (by omega)
  obtain ⟨h3, h4⟩ := hW.co e (by omega)
  have z0 : 0 ≤ z e := by omega
  have a1 := Int.mul_le_mul_of_nonneg_left h3 z0
  have a2 := Int.mul_le_mul_of_nonneg_left h4 z0
  exact ⟨⟨z0, by omega⟩, by omega, by omega⟩
theorem x99 {v : Int} (h : 0 ≤ v ∧ v ≤ 99) : xin v := ⟨by omega, by omega⟩
theorem fs_sum (hW : WS I c T lk B P m A) {b9 z : Nat → Int} (h : FS (T.G 0) (T.lo 0) (T.hi 0) b9 z) {k : Nat} (hk : k ≤ m) : xin (sumE k (fun e => z e * T.co 0 e)) := by
  have h11 := hW.m11
  have := sumE_bd (n := k) (f := fun e => z e * T.co 0 e) (a := -1980) (b := 1980) fun e he => (fs_99 hW h (by omega)).2
  exact ⟨by omega, by omega⟩
theorem out_e (hW : WS I c T lk B P m A) (S : Nat) : sOut (T.G 0) (fun k => I (er k) 3) S = sOut (T.G 0) (T.hi 0) S ∧ sOut (T.G 0) (fun k => I (er k) 2) S = sOut (T.G 0) (T.lo 0) S ∧ sIn (T.G 0) (fun k => I (er k) 3) S = sIn (T.G 0) (T.hi 0) S ∧ sIn (T.G 0) (fun k => I (er k) 2) S = sIn (T.G 0) (T.lo 0) S := by
  obtain ⟨e1, e2, e3, e4, e5, e6, e7⟩ := hW.2.2.1
  unfold sOut sIn
  refine ⟨sumE_cong fun e he => ?_, sumE_cong fun e he => ?_, sumE_cong fun e he => ?_, sumE_cong fun e he => ?_⟩
  all_goals obtain ⟨-, f3, f4, -⟩ := e7 e (by omega)
  · dsimp only; rw [f4]
  · dsimp only; rw [f3]
  · dsimp only; rw [f4]
  · dsimp only; rw [f3]
theorem sum_in (hW : WS I c T lk B P m A) (S : Nat) : (-1600 ≤ sOut (T.G 0) (T.hi 0) S ∧ sOut (T.G 0) (T.hi 0) S ≤ 1600) ∧ (-1600 ≤ sOut (T.G 0) (T.lo 0) S ∧ sOut (T.G 0) (T.lo 0) S ≤ 1600) ∧ (-1600 ≤ sIn (T.G 0) (T.hi 0) S ∧ sIn (T.G 0) (T.hi 0) S ≤ 1600) ∧ (-1600 ≤ sIn (T.G 0) (T.lo 0) S ∧ sIn (T.G 0) (T.lo 0) S ≤ 1600) := by
  have hb := hW.bd
  have h16 := hW.g.2.2.1
  refine ⟨sOut_bd (z := 100) h16 (by decide) fun e he => ?_, sOut_bd (z := 100) h16 (by decide) fun e he => ?_, sIn_bd (z := 100) h16 (by decide) fun e he => ?_, sIn_bd (z := 100) h16 (by decide) fun e he => ?_⟩
  all_goals have := hb e he; omega
theorem lc_flowSo (hX : xBase X) (d : Nat) (hLA : LA c m b) (hS : SC X c) (hW : WS I c T lk B P m A) (hA : A + 2 ≤ 1000000) : xRet rB X m_L_flowSo (d + 11) [xr (2, 0)] c I 1000 5000 (fun v J => v = true ∧ keepV 2 I J) xNo := by
  have h6 := hW.n6
  have h11 := hW.m11
  have hm9 := hW.m9
  have hE := hW.2.2.1
  have hAt := hW.2.2.2.2.2.2
  have hp64 : 2 ^ (T.G 0).n ≤ 64 := Nat.pow_le_pow_right (by decide) h6.2
  refine xMet_in fun hI => ?_
  refine xMet_le (p1 := fun o h9 => ∃ (J : xIn), o = .inl (some (xi (xbi true))) ∧ keepV 2 I J ∧ (h9 = (J, xst c) ∨ ∃ a1 a2 : Nat, h9 = (J, xst (cAd (cAd c (pI m b) a1) (pI m (b + 1)) a2)))) ?_ ?_
  · refine xMet_of hX pl_L_flowSo.1 (fun w hw => (pl_L_flowSo.2.2.1 w hw).1) (LE1 rfl) fun V hV => rg_L_flowSo_0 hX hV hLA (LE1 rfl) (LE1 rfl) I ⟨_, lc_draw hX (d + 9) hLA.1 hS ⟨hAt.1, by have := hAt.2.1; omega⟩ (LD.d4 hE), ?_⟩
    rintro v3 I2 ⟨hv3, k2⟩
    have hW2 := hW.keep k2.V (by omega)
    have hE2 := hW2.2.2.1
    have h42 : I2 (2, 0) 4 = ((T.G 0).n : Int) := hE2.2.2.2.1
    have h41 : I (2, 0) 4 = ((T.G 0).n : Int) := hE.2.2.2.1
    refine ⟨_, lc_draw hX (d + 9) hLA.1 hS ⟨hW2.2.2.2.2.2.2.1, by have := hW2.2.2.2.2.2.2.2.1; omega⟩ (by rw [h42]; omega), ?_⟩
    rintro v8 I7 ⟨hv8, k7⟩
    have kV7 : keepV 2 I I7 := k2.V.tr k7.V
    have hW7 := hW.keep kV7 (by omega)
    have hE7 := hW7.2.2.1
    have h47 : I7 (2, 0) 4 = ((T.G 0).n : Int) := hE7.2.2.2.1
    rw [h41] at hv3
    rw [h42] at hv8
    rw [h47]
    refine ⟨⟨by omega, by omega⟩, ⟨by omega, by omega⟩, fun x11 hx11 => ?_⟩
    obtain ⟨s, t, rfl, ht, hs, htn, hst⟩ := ends2 hv3 hv8
    rw [ht] at hx11
    subst hx11
    clear ht hv3 hv8 v8 hE2 h42 hW2
    refine ⟨_, _, lw_most hX (d + 1) hW7 hs htn hst, ?_, ?_⟩
    · rintro e J ⟨kc, rfl, hN⟩
      have hWJ := hW7.keepC kc
      refine ⟨rfl, _, lw_crowd hX (d + 1) hWJ hs htn hst hN, ?_⟩
      rintro v J1 ⟨kc1, S, rfl, hS9, hcr⟩
      have hW1 := hWJ.keepC kc1
      refine ⟨_, lc_has hX (d + 10) rfl rfl (by omega) (by omega), ?_⟩
      rintro v1 _ ⟨rfl, rfl⟩
      refine ⟨_, lc_has hX (d + 10) rfl rfl (by omega) (by omega), ?_⟩
      rintro v2 _ ⟨rfl, rfl⟩
      unfold crowdP at hcr
      rw [Bool.and_eq_true, beq_iff_eq] at hcr
      refine ⟨fun z => absurd hcr.1 z, fun _ => ⟨_, lc_out hX (d + 7) hLA hW1.2.2.1 hW1.uv rfl (w := 2) (W := 2) rfl (by omega) (by decide), ?_⟩⟩
      rintro v4 _ ⟨rfl, rfl⟩
      refine ⟨_, lc_into hX (d + 7) hLA hW1.2.2.1 hW1.uv rfl (w := 3) (W := 3) rfl (by omega) (by decide), ?_⟩
      rintro v5 _ ⟨rfl, rfl⟩
      obtain ⟨o1, o2, o3, o4⟩ := out_e hW1 S
      rw [o2, o3]
      obtain ⟨b1, b2, b3, b4⟩ := sum_in hW1 S
      have := of_decide_eq_true hcr.2
      exact ⟨⟨by omega, by omega⟩, ⟨by omega, by omega⟩, fun z => by omega, fun _ => ⟨_, rfl, (kV7.C kc).C kc1, Or.inl rfl⟩⟩
    rintro v15 J ⟨kc, rfl, hN⟩
    have kVJ := kV7.C kc
    have hWJ := hW7.keepC kc
    have ham := hW.am hs htn hst hN
    obtain ⟨⟨c1, cq2⟩, ⟨c3, cq4⟩, c5, c6⟩ := pf_cuts hW.g hs htn hst hW.bd hN
    have hcnt := cntF_le (cutQ (T.G 0) (T.lo 0) (T.hi 0) s t) (2 ^ (T.G 0).n)
    have cutN : ∀ (d : Nat) (J : xIn), WS J c T lk B P m (A + 2) → xRet rI X m_X9_cut (d + 9) [xr (0, 0), xi 0, xi (s : Int), xi (t : Int), xi (xbi false)] c J 3 18 (fun v J9 => keepC J J9 ∧ v = ((andF (cutQ (T.G 0) (T.lo 0) (T.hi 0) s t) (2 ^ (T.G 0).n) : Nat) : Int)) xNo := fun d J h => lw_cut hX d h hs htn hst hN false
    have cutF : ∀ (d : Nat) (J : xIn), WS J c T lk B P m (A + 2) → xRet rI X m_X9_cut (d + 9) [xr (0, 0), xi 0, xi (s : Int), xi (t : Int), xi (xbi true)] c J 3 18 (fun v J9 => keepC J J9 ∧ v = ((orF (cutQ (T.G 0) (T.lo 0) (T.hi 0) s t) (2 ^ (T.G 0).n) : Nat) : Int)) xNo := fun d J h => lw_cut hX d h hs htn hst hN true
    have cutC : ∀ (d : Nat) (J : xIn), WS J c T lk B P m (A + 2) → xRet rI X m_X9_cuts (d + 9) [xr (0, 0), xi 0, xi (s : Int), xi (t : Int)] c J 3 18 (fun v J9 => keepC J J9 ∧ v = ((cntF (cutQ (T.G 0) (T.lo 0) (T.hi 0) s t) (2 ^ (T.G 0).n) : Nat) : Int)) xNo := fun d J h => lw_cuts hX d h hs htn hst hN
    generalize andF (cutQ (T.G 0) (T.lo 0) (T.hi 0) s t) (2 ^ (T.G 0).n) = N at *
    generalize orF (cutQ (T.G 0) (T.lo 0) (T.hi 0) s t) (2 ^ (T.G 0).n) = F at *
    generalize cntF (cutQ (T.G 0) (T.lo 0) (T.hi 0) s t) (2 ^ (T.G 0).n) = nc at *
    obtain ⟨n1, n2⟩ := cutQ_i cq2
    obtain ⟨f1, f2⟩ := cutQ_i cq4
    have hlx := pf_row hW.g hs htn hst hW.bd hN
    have rows : ∀ (kc nc : Nat) (J : xIn), kc ≤ 148 → nc ≤ 628 → keepV 2 I J → V 268 [(0, xr (2, 0)), (1, xi (s : Int)), (2, xi (t : Int)), (3, xi (amt T s t)), (4, xi (N : Int)), (5, xi (F : Int)), (6, xi (xbi true))] [] (J, xst c) kc nc := by
      intro kc nc J hkc hnc hJ
      have hWJ := hW.keep hJ hA
      have h21 : J (2, 1) 2 = (m : Int) := hWJ.2.2.1.2.2.1
      refine rg_L_flowSo_268 (mc := 1000) (ms := 5000) hX hV hLA (by omega) (by omega) J _ _ _ _ _ _ ⟨⟨by omega, by omega⟩, fun a1 I2 e2 => ?_⟩
      have h22 : I2 (2, 1) 2 = (m : Int) := by rw [e2, zI_n (fun z => by cases z)]; exact h21
      refine ⟨⟨by omega, by omega⟩, fun a2 I5 e5 => ?_⟩
      rw [h21, tnN] at e2 ⊢
      rw [h22, tnN] at e5 ⊢
      have hL1 : LA (cAd c (pI m b) a1) m (b + 1) := hLA.adI (by omega)
      have hL2 : LA (cAd (cAd c (pI m b) a1) (pI m (b + 1)) a2) m (b + 1 + 1) := hL1.adI (by omega)
      have nw1 : nwP (pI m b) := nwP_I hLA.1
      have nw2 : nwP (pI m (b + 1)) := nwP_I hL1.1
      have kd1 : kd (pI m b) = (1, m) := kd_pI (by omega)
      have kd2 : kd (pI m (b + 1)) = (1, m) := kd_pI (by omega)
      have q12 : pI m b ≠ pI m (b + 1) := fun z => by
        have z : m + 64 * b = m + 64 * (b + 1) := congrArg Prod.snd z
        omega
      have m1 : pI m b ∈ lvL (cAd (cAd c (pI m b) a1) (pI m (b + 1)) a2).1 (cAd (cAd c (pI m b) a1) (pI m (b + 1)) a2).2.1 := cAd_mem cAd_self
      have m2 : pI m (b + 1) ∈ lvL (cAd (cAd c (pI m b) a1) (pI m (b + 1)) a2).1 (cAd (cAd c (pI m b) a1) (pI m (b + 1)) a2).2.1 := cAd_self
      have kV5 : keepV 2 I I5 := by rw [e5, e2]; exact (hJ.zI nw1).zI nw2
      have g1 : (pI m b).1 ≠ 0 := Nat.succ_ne_zero 0
      have g2 : (pI m (b + 1)).1 ≠ 0 := Nat.succ_ne_zero 0
      have fin : ∀ J, keepV 2 I J → ∃ (J9 : xIn), (.inl (some (xi (xbi true))) : xO) = .inl (some (xi (xbi true))) ∧ keepV 2 I J9 ∧ ((J, xst (cAd (cAd c (pI m b) a1) (pI m (b + 1)) a2)) = (J9, xst c) ∨ ∃ b1 b2 : Nat, (J, xst (cAd (cAd c (pI m b) a1) (pI m (b + 1)) a2)) = (J9, xst (cAd (cAd c (pI m b) b1) (pI m (b + 1)) b2))) := fun J hJ => ⟨J, rfl, hJ, Or.inr ⟨a1, a2, rfl⟩⟩
      have hWk : ∀ J, keepV 2 I J → WS J (cAd (cAd c (pI m b) a1) (pI m (b + 1)) a2) T lk B P m (A + 2) := fun J hJ => by
        have := hW.keep hJ hA
        exact this
      clear e2 e5
      generalize hc2 : cAd (cAd c (pI m b) a1) (pI m (b + 1)) a2 = c2 at *
      generalize pI m b = q1 at *
      generalize pI m (b + 1) = q2 at *
      have last : ∀ (k9 n9 : Nat) (J : xIn), k9 ≤ 600 → n9 ≤ 2800 → keepV 2 I J → (∀ e, e < m → J q2 e = chp T s t e) → V 557 [(0, xr (2, 0)), (1, xi (s : Int)), (2, xi (t : Int)), (3, xi (amt T s t)), (8, xr q2)] [xi (xbi true)] (J, xst c2) k9 n9 := by
        intro k9 n9 J hk9 hn9 hJ hr
        refine rg_L_flowSo_557 (mc := 1000) (ms := 5000) hX hV hL2 (by omega) (by omega) J kd2 m2 _ _ _ _ ⟨(fun z => by cases z), fun _ => ⟨_, lc_pricesSo hX d hL2 (hWk J hJ) hs htn hst hN kd2 m2 g2 hr, ?_⟩⟩
        rintro v J1 ⟨rfl, k1⟩
        have hJ1 : keepV 2 I J1 := (hJ.tr k1).le (by decide)
        refine ⟨(fun z => by cases z), fun _ => ⟨_, lc_roundsSo hX (d + 1) hL2 (hWk J1 hJ1) hs htn hst rfl hN, ?_⟩⟩
        rintro v J2 ⟨rfl, k2⟩
        exact ⟨(fun z => by cases z), fun _ => fin J2 ((hJ1.tr k2).le (by decide))⟩
      have main : ∀ k : Nat, k ≤ m → ∀ (J : xIn) (l9 l10 : Int), keepV 2 I J → (∀ e, e < k → J q1 e = lxr T s t e ∧ J q2 e = chp T s t e) → l9 = sumE k (fun e => lxr T s t e * T.co 0 e) → l10 = sumE k (fun e => chp T s t e * T.co 0 e) → (k = 0 ∨ EXZ T s t) → V 299 [(0, xr (2, 0)), (1, xi (s : Int)), (2, xi (t : Int)), (3, xi (amt T s t)), (4, xi (N : Int)), (5, xi (F : Int)), (6, xi (xbi true)), (7, xr q1), (8, xr q2), (9, xi l9), (10, xi l10), (11, xi (k : Int))] [] (J, xst c2) (kc + 2 + 12 * k) (nc + 32 + 72 * k) := by
        refine up_to (m := m) (W := fun k => ∀ (J : xIn) (l9 l10 : Int), keepV 2 I J → (∀ e, e < k → J q1 e = lxr T s t e ∧ J q2 e = chp T s t e) → l9 = sumE k (fun e => lxr T s t e * T.co 0 e) → l10 = sumE k (fun e => chp T s t e * T.co 0 e) → (k = 0 ∨ EXZ T s t) → V 299 [(0, xr (2, 0)), (1, xi (s : Int)), (2, xi (t : Int)), (3, xi (amt T s t)), (4, xi (N : Int)), (5, xi (F : Int)), (6, xi (xbi true)), (7, xr q1), (8, xr q2), (9, xi l9), (10, xi l10), (11, xi (k : Int))] [] (J, xst c2) (kc + 2 + 12 * k) (nc + 32 + 72 * k)) ?_ ?_
        · intro J l9 l10 hJ hr h9 h10 hk0
          have hFS1 : FS (T.G 0) (T.lo 0) (T.hi 0) (isB s t (amt T s t)) (J q1) := FS_cong (fun e he => ((hr e (by omega)).1).symm) hlx
          obtain ⟨z, z1, z2, z3, z4⟩ := fl_x hW (hk0.resolve_left (by omega))
          have hFS2 : FS (T.G 0) (T.lo 0) (T.hi 0) (isB s t (amt T s t)) (J q2) := FS_cong (fun e he => by rw [(hr e (by omega)).2, z1 e (by omega)]) z2
          have hWJ := hWk J hJ
          have hEJ := hWJ.2.2.1
          have h10z : l10 = sumE m (fun e => z e * T.co 0 e) := by rw [h10]; exact sumE_cong fun e he => by rw [z1 e he]
          have x9 : xin l9 := by rw [h9]; exact fs_sum hW hlx (Nat.le_refl _)
          have x10 : xin l10 := by rw [h10z]; exact fs_sum hW z2 (Nat.le_refl _)
          have fill : ∀ (S : Nat), cutQ (T.G 0) (T.lo 0) (T.hi 0) s t S = true → ∀ g, FS (T.G 0) (T.lo 0) (T.hi 0) (isB s t (amt T s t)) g → ∀ e, e < m → (lvs (T.G 0) S e = true → g e = T.hi 0 e) ∧ (ens (T.G 0) S e = true → g e = T.lo 0 e) := fun S hS g hg e he => pf_tgt hW.g hs htn hst hS hg e (by omega)
          refine rg_L_flowSo_299 (mc := 1000) (ms := 5000) hX hV hL2 (by omega) (by omega) J kd1 m1 kd2 m2 _ _ _ _ _ _ _ _ _ ⟨⟨by omega, by omega⟩, ⟨by omega, by omega⟩, fun _ => ⟨(fun z => by cases z), fun _ => ⟨_, lc_isFlow hX (d + 6) hL2 hEJ kd1 m1 rfl rfl hs htn hst (by omega) hFS1, ?_⟩⟩, fun z => by omega⟩
          rintro _ _ ⟨rfl, rfl⟩
          refine ⟨(fun z => by cases z), fun _ => ⟨_, lc_isFlow hX (d + 6) hL2 hEJ kd2 m2 rfl rfl hs htn hst (by omega) hFS2, ?_⟩⟩
          rintro _ _ ⟨rfl, rfl⟩
          refine ⟨(fun z => by cases z), fun _ => ⟨_, lc_isFilled hX (d + 7) hL2 hEJ hWJ.uv kd1 m1 rfl (by omega) (fill N cq2 _ hFS1), ?_⟩⟩
          rintro _ _ ⟨rfl, rfl⟩
          refine ⟨(fun z => by cases z), fun _ => ⟨_, lc_isFilled hX (d + 7) hL2 hEJ hWJ.uv kd1 m1 rfl (by omega) (fill F cq4 _ hFS1), ?_⟩⟩
          rintro _ _ ⟨rfl, rfl⟩
          refine ⟨(fun z => by cases z), fun _ => ⟨_, lc_isFilled hX (d + 7) hL2 hEJ hWJ.uv kd2 m2 rfl (by omega) (fill N cq2 _ hFS2), ?_⟩⟩
          rintro _ _ ⟨rfl, rfl⟩
          refine ⟨(fun z => by cases z), fun _ => ⟨_, lw_cost hX (d + 1) hWJ hs htn hst hN, ?_⟩⟩
          rintro _ J1 ⟨k1, -, rfl⟩
          rw [z3, ← h10z]
          refine ⟨x10, x10, fun z => absurd rfl z, fun _ => ⟨x9, fun z0 => ?_, fun _ => last _ _ J1 (by omega) (by omega) (hJ.C k1) (fun e he => by rw [k1.q g2]; exact (hr e he).2)⟩⟩
          have := z4 _ hlx
          rw [← h10z, ← h9] at this
          omega
        · intro k hk ih J l9 l10 hJ hr h9 h10 hk0
          have hWJ := hWk J hJ
          refine rg_L_flowSo_299 (mc := 1000) (ms := 5000) hX hV hL2 (by omega) (by omega) J kd1 m1 kd2 m2 _ _ _ _ _ _ _ _ _ ⟨⟨by omega, by omega⟩, ⟨by omega, by omega⟩, fun z => by omega, fun _ => ⟨_, lw_flow hX (d + 1) hWJ hs htn hst hN hk, ?_⟩⟩
          rintro _ J1 ⟨k1, rfl⟩
          have hb1 := (fs_99 hW hlx hk).1
          refine ⟨⟨by omega, by omega⟩, x99 hb1, fun J2 e2 => ⟨_, lw_cheapest hX (d + 1) (hWk J2 (by rw [e2]; exact (hJ.C k1).xu nw1)) hs htn hst hN hk, ?_⟩⟩
          rintro _ J3 ⟨k3, hEX, rfl⟩
          obtain ⟨z, z1, z2, z3, z4⟩ := fl_x hW hEX
          have hb2 := (fs_99 hW z2 hk).1
          have hz := z1 k hk
          have hV2 : keepV 2 I J2 := by rw [e2]; exact (hJ.C k1).xu nw1
          have hz9 : xin (chp T s t k) := by rw [hz]; exact x99 hb2
          refine ⟨⟨by omega, by omega⟩, hz9, fun J4 e4 => ?_⟩
          have hV4 : keepV 2 I J4 := by rw [e4]; exact (hV2.C k3).xu nw2
          have hW4 := hWk J4 hV4
          have hE4 := hW4.2.2.1
          rw [tnN] at e2 e4
          have r4 : ∀ e, e < k + 1 → J4 q1 e = lxr T s t e ∧ J4 q2 e = chp T s t e := by
            intro e he
            by_cases hek : e = k
            · rw [hek, e4, xu_p q12, xu_same, k3.q g1, e2, xu_same]
              exact ⟨rfl, rfl⟩
            · rw [e4, xu_p q12, xu_k hek, k3.q g1, k3.q g2, e2, xu_k hek, xu_p q12.symm, k1.q g1, k1.q g2]
              exact hr e (by omega)
          have hco : J4 (er k) 4 = T.co 0 k := (hE4.2.2.2.2.2.2 k hk).2.2.2
          have hhi : J4 (er k) 3 = T.hi 0 k := (hE4.2.2.2.2.2.2 k hk).2.2.1
          have w1 := (r4 k (by omega)).1
          have w2 := (r4 k (by omega)).2
          refine ⟨⟨by omega, by omega⟩, hE4.2.2.1, fun x54 h54 x56 h56 => ?_⟩
          rw [tnN, w1, hco, h9] at h54
          rw [tnN, w2, hco, h10] at h56
          rw [Int.natCast_add] at ih
          refine ⟨(fun z => by cases z), fun _ => ⟨_, lw_isFull hX (d + 1) hW4 hs htn hst hN hk, ?_⟩⟩
          rintro v J5 ⟨k5, rfl⟩
          have hV5 := hV4.C k5
          have hW5 := hWk J5 hV5
          have nx : V 299 [(0, xr (2, 0)), (1, xi (s : Int)), (2, xi (t : Int)), (3, xi (amt T s t)), (4, xi (N : Int)), (5, xi (F : Int)), (6, xi (xbi true)), (7, xr q1), (8, xr q2), (9, xi x54), (10, xi x56), (11, xi ((k : Int) + 1))] [] (J5, xst c2) (kc + 2 + 12 * k + 12) (nc + 32 + 72 * k + 72) := ih J5 x54 x56 hV5 (fun e he => by rw [k5.q g1, k5.q g2]; exact r4 e he) h54 h56 (Or.inr hEX)
          refine ⟨fun _ => nx, fun hfull => ⟨hW5.2.2.1.2.2.1, fun z0 => absurd ?_ z0, fun _ => ⟨fun z0 => absurd ?_ z0, fun _ => nx⟩⟩⟩
          all_goals
            have hf := of_decide_eq_true hfull
            have h3 : J5 (er k) 3 = T.hi 0 k := (hW5.2.2.1.2.2.2.2.2.2 k hk).2.2.1
          · rw [tnN, k5.q g1, w1, h3]
            exact pf_full hW.g hs htn hst (by omega) hf hlx
          · rw [tnN, k5.q g2, w2, h3, hz]
            exact pf_full hW.g hs htn hst (by omega) hf z2
      exact main 0 (Nat.zero_le _) I5 0 0 kV5 (fun e he => by omega) rfl rfl (Or.inl rfl)
    have sets : ∀ S : Nat, S ≤ 2 ^ (T.G 0).n → ∀ J : xIn, keepV 2 I J → V 200 [(0, xr (2, 0)), (1, xi (s : Int)), (2, xi (t : Int)), (3, xi (amt T s t)), (4, xi (N : Int)), (5, xi (F : Int)), (6, xi (xbi true)), (7, xi (S : Int))] [] (J, xst c) (18 + 2 * S) (108 + 8 * S) := by
      refine up_to (m := 2 ^ (T.G 0).n) (W := fun S => ∀ J : xIn, keepV 2 I J → V 200 [(0, xr (2, 0)), (1, xi (s : Int)), (2, xi (t : Int)), (3, xi (amt T s t)), (4, xi (N : Int)), (5, xi (F : Int)), (6, xi (xbi true)), (7, xi (S : Int))] [] (J, xst c) (18 + 2 * S) (108 + 8 * S)) ?_ ?_
      · intro J hJ
        have h4 : J (2, 0) 4 = ((T.G 0).n : Int) := (hW.keep hJ hA).2.2.1.2.2.2.1
        refine rg_L_flowSo_200 (mc := 1000) (ms := 5000) hX hV hLA (by omega) (by omega) J _ _ _ _ _ _ _ ⟨xn (by omega), fun _ => rows _ _ J (by omega) (by omega) hJ, fun z => ?_⟩
        rw [h4, v_pow hW.g.2.1] at z
        omega
      · intro S hS ih J hJ
        have hWJ := hW.keep hJ hA
        have h4 : J (2, 0) 4 = ((T.G 0).n : Int) := hWJ.2.2.1.2.2.2.1
        have ih := ih J hJ
        rw [Int.natCast_add] at ih
        refine rg_L_flowSo_200 (mc := 1000) (ms := 5000) hX hV hLA (by omega) (by omega) J _ _ _ _ _ _ _ ⟨xn (by omega), fun z => ?_, fun _ => ⟨(fun z => by cases z), fun _ => ⟨_, lc_has hX (d + 10) rfl rfl (by omega) (by omega), ?_⟩⟩⟩
        · rw [h4, v_pow hW.g.2.1] at z
          omega
        rintro _ _ ⟨rfl, rfl⟩
        refine ⟨fun _ => ih, fun b1 => ⟨_, lc_has hX (d + 10) rfl rfl (by omega) (by omega), ?_⟩⟩
        rintro _ _ ⟨rfl, rfl⟩
        refine ⟨fun _ => ih, fun b2 => ⟨_, lc_out hX (d + 7) hLA hWJ.2.2.1 hWJ.uv rfl (w := 3) (W := 3) rfl (by omega) (by decide), ?_⟩⟩
        rintro _ _ ⟨rfl, rfl⟩
        refine ⟨_, lc_into hX (d + 7) hLA hWJ.2.2.1 hWJ.uv rfl (w := 2) (W := 2) rfl (by omega) (by decide), ?_⟩
        rintro _ _ ⟨rfl, rfl⟩
        obtain ⟨o1, o2, o3, o4⟩ := out_e hWJ S
        rw [o1, o4]
        have hc := cutV_bd hW.g.2.2.1 hW.bd.c
        have hall := pf_all hN (fun S _ z => by have := hc S; rw [z] at this; exact absurd this.1 (by decide)) hS (by unfold btw; rw [b1, b2]; rfl)
        have hcS := hc S
        have hall : amt T s t ≤ sOut (T.G 0) (T.hi 0) S - sIn (T.G 0) (T.lo 0) S := hall
        have hcS : -3200 ≤ sOut (T.G 0) (T.hi 0) S - sIn (T.G 0) (T.lo 0) S ∧ sOut (T.G 0) (T.hi 0) S - sIn (T.G 0) (T.lo 0) S ≤ 3200 := hcS
        exact ⟨⟨by omega, by omega⟩, ⟨by omega, by omega⟩, fun z => by omega, fun _ => ih⟩
    have s187 : ∀ (s0 : Int) (J : xIn), keepV 2 I J → s0 ≤ nc → xin s0 → V 187 [(0, xr (2, 0)), (1, xi (s : Int)), (2, xi (t : Int)), (3, xi (amt T s t)), (4, xi (N : Int)), (5, xi (F : Int))] [xi s0, xi (nc : Int)] (J, xst c) 18 108 := by
      intro s0 J hJ h1 h2
      exact rg_L_flowSo_187 hX hV hLA (LE1 rfl) (LE1 rfl) J _ _ _ _ _ _ _ ⟨xn (by omega), h2, fun z => by omega, fun _ => sets 0 (Nat.zero_le _) J hJ⟩
    refine ⟨_, cutN (d + 1) J hWJ, ?_⟩
    rintro _ J1 ⟨k1, rfl⟩
    have hV1 := kVJ.C k1
    refine ⟨_, cutF (d + 1) J1 (hW.keep hV1 hA), ?_⟩
    rintro _ J2 ⟨k2, rfl⟩
    have hV2 := hV1.C k2
    refine ⟨_, lw_cutSum hX (d + 1) (hW.keep hV2 hA) hs htn hst c1 n1, ?_⟩
    rintro _ J3 ⟨k3, rfl⟩
    have hV3 := hV2.C k3
    have n2 : cutV (T.G 0) (T.lo 0) (T.hi 0) N = amt T s t := n2
    have f2 : cutV (T.G 0) (T.lo 0) (T.hi 0) F = amt T s t := f2
    rw [n2]
    refine ⟨⟨by omega, by omega⟩, ⟨by omega, by omega⟩, fun z => absurd rfl z, fun _ => ⟨_, lw_cutSum hX (d + 1) (hW.keep hV3 hA) hs htn hst c3 f1, ?_⟩⟩
    rintro _ J4 ⟨k4, rfl⟩
    have hV4 := hV3.C k4
    rw [f2, v_andnot (by omega), c5]
    refine ⟨⟨by omega, by omega⟩, fun z => absurd rfl z, fun _ => ⟨fun z => absurd rfl z, fun _ => ⟨_, cutC (d + 1) J4 (hW.keep hV4 hA), ?_⟩⟩⟩
    rintro _ J5 ⟨k5, rfl⟩
    have hV5 := hV4.C k5
    refine ⟨xn (by omega), xn (by omega), fun hne => s187 2 J5 hV5 ?_ ⟨by decide, by decide⟩, fun heq => s187 1 J5 hV5 ?_ ⟨by decide, by decide⟩⟩
    · rw [if_neg (fun z => hne (by rw [z]))] at c6
      omega
    · rw [if_pos (by omega)] at c6
      omega
  · rintro o h9 ⟨J, rfl, hJ, rfl | ⟨a1, a2, rfl⟩⟩
    · exact ⟨_, ⟨lv_nodup hLA.1.1, fun p hp => ⟨hp, rfl, rfl, rfl, fun _ _ _ => rfl⟩, fun h => h⟩, fun r hr => by cases hr; rfl, J, rfl, Or.inl ⟨_, rfl, rfl, hJ⟩⟩
    have hL1 : LA (cAd c (pI m b) a1) m (b + 1) := hLA.adI (by omega)
    refine ⟨_, (xLe_ad (I := I) hL1.1.1 hL1.frI (fun k => hI _ _)).tr (xLe_ad (I := I) hLA.1.1 hLA.frI (fun k => hI _ _)), fun r hr => ?_, _, rfl, Or.inl ⟨_, rfl, rfl, ?_⟩⟩
    · cases hr; rfl
    · exact ((hJ.rest (nwP_I hL1.1)).rest (nwP_I hLA.1))
end SO
