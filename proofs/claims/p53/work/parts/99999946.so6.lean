/-! the law on pairs -/
theorem SC.ad {X : xX} {c : xCx} {q : xP} {a : Nat} (h : SC X c) (hq : q ≠ (2, 9)) : SC X (cAd c q a) := by
  obtain ⟨bs, Ls, xs, h1, h2⟩ := h
  refine ⟨bs, Ls, xs, h1, ?_⟩
  show (if (2, 9) = q then a else c.2.2.2 (2, 9)) = bs
  rw [if_neg hq.symm]
  exact h2
section SO
variable {X : xX} {c : xCx} {I : xIn} {T : NT} {lk : Nat → Nat} {B : TB} {P : PJ} {m b : Nat} {A : Int} {s t : Nat}
theorem WS.z0 {J : xIn} {l9 : Nat → Nat} {B9 : TB} {P9 : PJ} (h : WS I c T lk B P m A) (hz : ∀ p : xP, p.1 ≠ 0 → J p = I p) (h0 : J (0, 0) = I (0, 0)) (hL : LKok l9 ∧ CL J l9) (hB : TBok B9 ∧ CTB J B9) (hP : PJok P9 ∧ CPJ J P9) : WS J c T l9 B9 P9 m A := by
  obtain ⟨a1, a2, a3, -, -, -, a10⟩ := h
  have z : ∀ (i : Nat) (j : Nat), J (i + 1, j) = I (i + 1, j) := fun i j => hz _ (Nat.succ_ne_zero i)
  refine ⟨a1, ?_, ?_, hL, hB, hP, ?_⟩
  · have r : ∀ i j, J (i + 3, j) = I (i + 3, j) := fun i j => z (i + 2) j
    unfold CI CG at a2 ⊢
    simp only [r, h0]
    exact a2
  · unfold EW at a3 ⊢
    rw [z 1 1, z 1 0]
    refine ⟨a3.1, a3.2.1, a3.2.2.1, a3.2.2.2.1, a3.2.2.2.2.1, a3.2.2.2.2.2.1, fun e he => ?_⟩
    rw [hz (er e) (Nat.succ_ne_zero 0)]
    exact a3.2.2.2.2.2.2 e he
  · unfold AtB at a10 ⊢
    rw [z 1 0]
    exact a10
theorem WS.kpL {J : xIn} {ps : List xP} (h : WS I c T lk B P m A) (hk : kp ps I J) {l9 : Nat → Nat} (hL : LKok l9 ∧ CL J l9) (hps : (ps.all fun p => p == (0, 21)) = true) : WS J c T l9 B P m A := by
  have z : ∀ p : xP, p ≠ (0, 21) → J p = I p := fun p hp => hk p fun hm => hp (eq_of_beq (List.all_eq_true.mp hps p hm))
  obtain ⟨-, -, -, -, ⟨b1, b2⟩, ⟨p1, p2⟩, -⟩ := id h
  refine h.z0 (fun p hp => z p fun e => hp (by rw [e])) (z _ (by decide)) hL ⟨b1, ?_⟩ ⟨p1, ?_⟩
  · unfold CTB; rw [z _ (by decide), z _ (by decide)]; exact b2
  · unfold CPJ; rw [z _ (by decide), z _ (by decide), z _ (by decide), z _ (by decide)]; exact p2
theorem lw_likes (hX : xBase X) (d : Nat) (h : WS I c T lk B P m A) {x S : Nat} (hx : x < 8) (hS : S ≤ 255) : xRet rI X m_X9_likes (d + 8) [xr (0, 0), xi (x : Int), xi (S : Int)] c I 2 12 (fun w J => (∀ p : xP, p ≠ (0, 21) → J p = I p) ∧ WS J c T (upN lk x S) B P m A) xNo := by
  have hA : likesA lk x S = ((((lk x : Nat) : Int), 0), upN lk x S) := by
    unfold likesA
    rw [if_pos ⟨by omega, by omega⟩, if_pos ⟨by omega, by omega⟩, tnN, tnN]
  obtain ⟨-, -, -, ⟨l1, l2⟩, -⟩ := id h
  have hok := likesA_ok l1 x S
  refine xRet_w (cn_likes hX d l2 (xn (by omega)) (xn (by omega))) (fun v J => ?_) (fun e J => ?_)
  · rintro ⟨k, hC, hv⟩
    rw [hA] at hC hok
    exact ⟨fun p hp => k p (fun z => hp (List.mem_singleton.mp z)), h.kpL k ⟨hok, hC⟩ rfl⟩
  · rintro ⟨k, hv, hw⟩
    rw [hA] at hw
    exact (exL0 hw).elim
theorem lc_pairsSo (hX : xBase X) (d : Nat) (hLA : LA c m b) (hS : SC X c) (hW : WS I c T lk B P m A) (hA : A + 25 ≤ 1000000) : xRet rB X m_L_pairsSo (d + 9) [xr (2, 0)] c I 50 300 (fun v J => v = true ∧ WW J c m (A + 25)) xNo := by
  refine xMet_in fun hI => ?_
  refine xMet_le (p1 := fun o h9 => o = .inl (some (xi (xbi true))) ∧ ∃ (J : xIn) (a1 : Nat), WW J c m (A + 25) ∧ h9 = (J, xst (cAd c (pI 8 b) a1))) ?_ ?_
  · refine xMet_of hX pl_L_pairsSo.1 (fun w hw => (pl_L_pairsSo.2.2.1 w hw).1) (LE1 rfl) fun V hV => ?_
    refine rg_L_pairsSo_0 (mc := 50) (ms := 300) hX hV hLA (by omega) (by omega) I ⟨⟨by decide, by decide⟩, fun a1 I2 e2 => ?_⟩
    have hL1 : LA (cAd c (pI 8 b) a1) m (b + 1) := hLA.adI (by omega)
    have hS1 : SC X (cAd c (pI 8 b) a1) := hS.ad (fun z => by cases congrArg Prod.fst z)
    have nwq : nwP (pI 8 b) := nwP_I hLA.1
    have kdq : kd (pI 8 b) = (1, 8) := kd_pI (by omega)
    have gq : (pI 8 b).1 ≠ 0 := Nat.succ_ne_zero 0
    have mq : pI 8 b ∈ lvL (cAd c (pI 8 b) a1).1 (cAd c (pI 8 b) a1).2.1 := cAd_self
    have hW2 : WS I2 (cAd c (pI 8 b) a1) T lk B P m A := by rw [e2]; exact (hW.k0 (keepV.id9.zI nwq)).c9 rfl
    have fin : ∀ (J : xIn) (T9 : NT) (l9 : Nat → Nat) (B9 : TB) (P9 : PJ), WS J (cAd c (pI 8 b) a1) T9 l9 B9 P9 m (A + 25) → (.inl (some (xi (xbi true))) : xO) = .inl (some (xi (xbi true))) ∧ ∃ (J9 : xIn) (b1 : Nat), WW J9 c m (A + 25) ∧ (J, xst (cAd c (pI 8 b) a1)) = (J9, xst (cAd c (pI 8 b) b1)) := fun J T9 l9 B9 P9 h => ⟨rfl, J, a1, ⟨T9, l9, B9, P9, h.c9 rfl⟩, rfl⟩
    have qdr : ∀ {I J : xIn}, kdr I J → J (pI 8 b) = I (pI 8 b) := fun h => h.1 _ (fun z => by cases congrArg Prod.fst z)
    have q21 : pI 8 b ≠ (0, 21) := fun z => by cases congrArg Prod.fst z
    clear e2
    generalize hcc : cAd c (pI 8 b) a1 = c1 at *
    generalize pI 8 b = q at *
    have loop2 : ∀ (J : xIn) (lk : Nat → Nat) (kc nc : Nat), kc ≤ 17 → nc ≤ 112 → WS J c1 T lk B P m (A + 25) → (∀ k, k < 8 → J q k = ((lk k : Nat) : Int)) → V 125 [(0, xr (2, 0)), (1, xr q), (3, xi ((coverS lk : Nat) : Int)), (4, xi ((tog lk (nd 255 (coverS lk)) : Nat) : Int)), (5, xi 0), (6, xi 0), (7, xi (xbi true)), (8, xi 0)] [] (J, xst c1) kc nc := by
      intro J lk kc nc hkc hnc hWJ hrow
      have hok := hWJ.2.2.2.1.1
      obtain ⟨v1, v2, v3⟩ := coverS_spec hok
      generalize coverS lk = C at *
      have hR := tog_lt hok (nd 255 C)
      have n255 := nd_255 ⟨C, v1⟩
      have hcov : ∀ k, k < 8 → C.testBit k = false → nd (lk k) (tog lk (nd 255 C)) = 0 := by
        intro k hk hb
        refine nd_sub.mpr fun i hi => tog_bit hk ?_ hi
        rw [nd_bit, hb]
        have : (255 : Nat).testBit k = true := by
          have h9 : ∀ k : Fin 8, (255 : Nat).testBit k.val = true := by decide +kernel
          exact h9 ⟨k, hk⟩
        rw [this]
        rfl
      generalize tog lk (nd 255 C) = R at *
      have main : ∀ k : Nat, k ≤ 8 → ∀ (J : xIn) (l5 : Int) (U kc9 nc9 : Nat), WS J c1 T lk B P m (A + 25) → (∀ k, k < 8 → J q k = ((lk k : Nat) : Int)) → l5 = manyN lk k → (0 ≤ l5 ∧ l5 ≤ k) → U ≤ 255 → (∀ i, U.testBit i = true → (pSt lk k).1.testBit i = false) → kc9 ≤ kc + 2 * k → nc9 ≤ nc + 12 * k → V 125 [(0, xr (2, 0)), (1, xr q), (3, xi (C : Int)), (4, xi (R : Int)), (5, xi l5), (6, xi (U : Int)), (7, xi (xbi true)), (8, xi (k : Int))] [] (J, xst c1) kc9 nc9 := by
        refine up_to (m := 8) (W := fun k => ∀ (J : xIn) (l5 : Int) (U kc9 nc9 : Nat), WS J c1 T lk B P m (A + 25) → (∀ k, k < 8 → J q k = ((lk k : Nat) : Int)) → l5 = manyN lk k → (0 ≤ l5 ∧ l5 ≤ k) → U ≤ 255 → (∀ i, U.testBit i = true → (pSt lk k).1.testBit i = false) → kc9 ≤ kc + 2 * k → nc9 ≤ nc + 12 * k → V 125 [(0, xr (2, 0)), (1, xr q), (3, xi (C : Int)), (4, xi (R : Int)), (5, xi l5), (6, xi (U : Int)), (7, xi (xbi true)), (8, xi (k : Int))] [] (J, xst c1) kc9 nc9) ?_ ?_
        · intro J l5 U kc9 nc9 hWJ hrow h5 b5 hU hUF g1 g2
          refine rg_L_pairsSo_125 (mc := 50) (ms := 300) hX hV hL1 (by omega) (by omega) J kdq mq _ _ _ _ _ _ ⟨⟨by omega, by omega⟩, fun _ => ⟨(fun z => by cases z), fun _ => ⟨_, cn_pairs hX (d + 6) hok hWJ.2.2.2.1.2, ?_⟩⟩, fun z => by omega⟩
          rintro _ J1 ⟨k1, rfl⟩
          have := many_all hok
          exact ⟨⟨by omega, by omega⟩, ⟨by omega, by omega⟩, fun z => absurd (by omega) z, fun _ => fin J1 _ _ _ _ (hWJ.keepC k1)⟩
        · intro k hk ih J l5 U kc9 nc9 hWJ hrow h5 b5 hU hUF g1 g2
          rw [Int.natCast_add] at ih
          have s164 : V 164 [(0, xr (2, 0)), (1, xr q), (3, xi (C : Int)), (4, xi (R : Int)), (5, xi l5), (6, xi (U : Int)), (8, xi (k : Int))] [xi (xbi true)] (J, xst c1) kc9 nc9 := by
            have hA : pairOfA lk k = if rowF lk k = 8 then (0, 2) else ((rowF lk k : Int), 0) := by
              unfold pairOfA
              rw [if_pos ⟨by omega, by omega⟩, tnN]
            refine rg_L_pairsSo_164 (mc := 50) (ms := 300) hX hV hL1 (by omega) (by omega) J kdq mq _ _ _ _ _ _ ⟨_, _, cn_pairOf hX (d + 0) hok hWJ.2.2.2.1.2 (a := (k : Int)) ⟨by omega, by omega⟩, ?_, ?_⟩
            · rintro e J1 ⟨k1, he⟩
              rw [hA] at he
              by_cases h8 : rowF lk k = 8
              · rw [if_pos h8] at he
                refine ⟨exL_at (k := 1) he rfl, (fun z => by cases z), fun _ => ⟨⟨by omega, by omega⟩, fun z => by omega, fun _ => ih J1 l5 U _ _ (hWJ.keepC k1) (fun x hx => by rw [k1.q gq]; exact hrow x hx) ?_ ⟨by omega, by omega⟩ hU ?_ (by omega) (by omega)⟩⟩
                · rw [manyN, if_neg (by omega)]; omega
                · rw [pSt_s, if_neg (by omega)]; exact hUF
              · rw [if_neg h8] at he
                exact (exL0 he).elim
            · rintro v J1 ⟨k1, hv⟩
              rw [hA] at hv
              by_cases h8 : rowF lk k = 8
              · rw [if_pos h8] at hv
                exact absurd (congrArg Prod.snd hv) (show (0 : Int) ≠ 2 by decide)
              rw [if_neg h8] at hv
              have hv : v = ((rowF lk k : Nat) : Int) := congrArg Prod.fst hv
              have hlt : rowF lk k < 8 := by have := rowF_le lk k; omega
              have hfr := row_free hlt
              rw [Nat.testBit_and, Bool.and_eq_true] at hfr
              have hlk := hok k hk
              have hW1 := hWJ.keepC k1
              have hm1 : manyN lk (k + 1) = manyN lk k + 1 := by rw [manyN, if_pos hlt]
              have hp1 : pSt lk (k + 1) = (nd (pSt lk k).1 (2 ^ rowF lk k), (pSt lk k).2 - 1) := by rw [pSt_s, if_pos hlt]
              generalize rowF lk k = r at *
              subst hv
              refine ⟨(fun z => by cases z), fun _ => ⟨⟨by omega, by omega⟩, _, lc_has hX (d + 8) (S := lk k) (by rw [tnN, k1.q gq]; exact hrow k hk) rfl (by omega) (by omega), ?_⟩⟩
              rintro _ _ ⟨rfl, rfl⟩
              refine ⟨fun z => absurd z (by rw [hfr.1]; decide), fun _ => ⟨_, lc_has hX (d + 8) rfl rfl (by omega) (by omega), ?_⟩⟩
              rintro _ _ ⟨rfl, rfl⟩
              refine ⟨fun z => absurd (hUF _ z) (by rw [hfr.2]; decide), fun _ x25 h25 => ?_⟩
              have h2r : 2 ^ r < 2 ^ 8 := Nat.pow_lt_pow_right (by decide) hlt
              rw [v_pow (by omega), v_or_nat (by omega) (by omega)] at h25
              rw [h25]
              refine ih _ (l5 + 1) (U ||| 2 ^ r) _ _ hW1 (fun x hx => by rw [k1.q gq]; exact hrow x hx) (by rw [hm1, h5]) ⟨by omega, by omega⟩ ?_ ?_ (by omega) (by omega)
              · have := Nat.or_lt_two_pow (n := 8) (x := U) (y := 2 ^ r) (by omega) h2r
                omega
              · intro i hi
                rw [Nat.testBit_or, Bool.or_eq_true] at hi
                rw [hp1]
                show (nd (pSt lk k).1 (2 ^ r)).testBit i = false
                rw [nd_bit]
                rcases hi with hi | hi
                · rw [hUF i hi]; rfl
                · rw [hi]; simp
          have s159 := rg_L_pairsSo_159 (mc := 50) (ms := 300) hX hV hL1 (by omega) (by omega) J kdq mq _ _ _ _ _ s164
          refine rg_L_pairsSo_125 (mc := 50) (ms := 300) hX hV hL1 (by omega) (by omega) J kdq mq _ _ _ _ _ _ ⟨⟨by omega, by omega⟩, fun z => by omega, fun _ => ⟨(fun z => by cases z), fun _ => ⟨_, lc_has hX (d + 8) rfl rfl (by omega) (by omega), ?_⟩⟩⟩
          rintro _ _ ⟨rfl, rfl⟩
          have hlk := hok k hk
          refine ⟨fun _ => s159, fun hb => ⟨⟨by omega, by omega⟩, fun z => absurd ?_ z, fun _ => s159⟩⟩
          rw [tnN, hrow k hk, v_andnot (by omega), hcov k hk hb]
          rfl
      exact main 0 (Nat.zero_le _) J 0 0 kc nc hWJ hrow rfl ⟨by omega, by omega⟩ (Nat.zero_le _) (fun i hi => by rw [Nat.zero_testBit] at hi; cases hi) (by omega) (by omega)
    have loop1 : ∀ k : Nat, k ≤ 8 → ∀ (J : xIn) (lk : Nat → Nat) (w kc nc : Nat), 1 ≤ w → w ≤ 8 → WS J c1 T lk B P m (A + 1 + 3 * k) → (∀ y, y < k → J q y = ((lk y : Nat) : Int)) → kc ≤ 1 + 2 * k → nc ≤ 16 + 12 * k → V 16 [(0, xr (2, 0)), (1, xr q), (2, xi (w : Int)), (3, xi (k : Int))] [] (J, xst c1) kc nc := by
      refine up_to (m := 8) (W := fun k => ∀ (J : xIn) (lk : Nat → Nat) (w kc nc : Nat), 1 ≤ w → w ≤ 8 → WS J c1 T lk B P m (A + 1 + 3 * k) → (∀ y, y < k → J q y = ((lk y : Nat) : Int)) → kc ≤ 1 + 2 * k → nc ≤ 16 + 12 * k → V 16 [(0, xr (2, 0)), (1, xr q), (2, xi (w : Int)), (3, xi (k : Int))] [] (J, xst c1) kc nc) ?_ ?_
      · intro J lk w kc nc hw1 hw2 hWJ hrow g1 g2
        have hok := hWJ.2.2.2.1.1
        obtain ⟨v1, v2, v3⟩ := coverS_spec hok
        have hR := tog_lt hok (nd 255 (coverS lk))
        refine rg_L_pairsSo_16 (mc := 50) (ms := 300) hX hV hL1 (by omega) (by omega) J kdq mq _ _ ⟨⟨by omega, by omega⟩, fun _ => ⟨_, cn_cover hX (d + 6) hok hWJ.2.2.2.1.2 true, ?_⟩, fun z => by omega⟩
        rintro _ J1 ⟨k1, rfl⟩
        have hW1 := hWJ.keepC k1
        refine ⟨_, cn_cover hX (d + 6) hok hW1.2.2.2.1.2 false, ?_⟩
        rintro _ J2 ⟨k2, rfl⟩
        have hW2 := hW1.keepC k2
        have cA1 : coverA lk true = ((coverS lk : Nat) : Int) := rfl
        have cA2 : coverA lk false = ((tog lk (nd 255 (coverS lk)) : Nat) : Int) := rfl
        rw [cA1, cA2]
        refine ⟨_, jd_bitCount hX (d + 8) rfl v1, ?_⟩
        rintro _ _ ⟨rfl, rfl⟩
        refine ⟨_, jd_bitCount hX (d + 8) rfl hR, ?_⟩
        rintro _ _ ⟨rfl, rfl⟩
        refine ⟨_, cn_pairs hX (d + 6) hok hW2.2.2.2.1.2, ?_⟩
        rintro _ J3 ⟨k3, rfl⟩
        have hb := prs_bd lk 255 255
        have v2 : (pc8 (coverS lk) : Int) + (pc8 (tog lk (nd 255 (coverS lk))) : Int) = prs lk 255 255 := v2
        refine ⟨⟨by omega, by omega⟩, ⟨by omega, by omega⟩, fun z => absurd v2 z, fun _ => loop2 J3 lk _ _ (by omega) (by omega) ((hW2.keepC k3).le (by omega) hA) (fun y hy => by rw [k3.q gq, k2.q gq, k1.q gq]; exact hrow y hy)⟩
      · intro k hk ih J lk w kc nc hw1 hw2 hWJ hrow g1 g2
        have s51 : ∀ (J : xIn) (S : Nat) (s0 : Int), s0 = (S : Int) → S ≤ 255 → WS J c1 T lk B P m (A + 1 + 3 * (k + 1)) → (∀ y, y < k → J q y = ((lk y : Nat) : Int)) → V 51 [(0, xr (2, 0)), (1, xr q), (2, xi (w : Int)), (3, xi (k : Int))] [xi s0, xi (k : Int), xr q] (J, xst c1) kc nc := by
          rintro J S _ rfl hS hWJ hrow
          refine rg_L_pairsSo_51 (mc := 50) (ms := 300) hX hV hL1 (by omega) (by omega) J kdq mq _ _ _ _ ⟨⟨by omega, by omega⟩, xn (by omega), fun I1 e1 => ⟨⟨by omega, by omega⟩, ?_⟩⟩
          have hk1 : I1 q (Int.toNat (k : Int)) = (S : Int) := by rw [e1, xu_same]
          rw [hk1]
          have hW1 : WS I1 c1 T lk B P m (A + 1 + 3 * (k + 1)) := by rw [e1]; exact hWJ.k0 (keepV.id9.xu nwq)
          refine ⟨_, lw_likes hX (d + 0) hW1 hk hS, ?_⟩
          rintro v J2 ⟨z2, hW2⟩
          rw [tnN] at e1
          have := ih J2 (upN lk k S) w (kc + 2) (nc + 12) hw1 hw2 (by rw [Int.natCast_add]; exact hW2) (fun y hy => ?_) (by omega) (by omega)
          · rw [Int.natCast_add] at this
            exact this
          · rw [z2 _ q21, e1]
            by_cases hyk : y = k
            · rw [hyk, xu_same, upN_s]
            · rw [xu_k hyk, upN_n hyk]
              exact hrow y (by omega)
        refine rg_L_pairsSo_16 (mc := 50) (ms := 300) hX hV hL1 (by omega) (by omega) J kdq mq _ _ ⟨⟨by omega, by omega⟩, fun z => by omega, fun _ => ⟨_, lc_draw hX (d + 7) hL1.1 hS1 ⟨hWJ.2.2.2.2.2.2.1, by have := hWJ.2.2.2.2.2.2.2.1; omega⟩ ⟨by decide, by decide⟩, ?_⟩⟩
        rintro v J1 ⟨hv, k1⟩
        have hW1 := hWJ.keep k1.V (by omega)
        refine ⟨⟨by omega, by omega⟩, fun _ => ?_, fun _ => s51 J1 0 0 rfl (by omega) (hW1.le (by omega) (by omega)) (fun y hy => by rw [qdr k1]; exact hrow y hy)⟩
        have hpw : 2 ^ w ≤ 256 := pow2_le8 hw2
        have hpp : 0 < 2 ^ w := Nat.pow_pos (by decide)
        rw [v_pow hw2]
        refine ⟨_, lc_draw hX (d + 7) hL1.1 hS1 ⟨hW1.2.2.2.2.2.2.1, by have := hW1.2.2.2.2.2.2.2.1; omega⟩ ⟨by omega, by omega⟩, ?_⟩
        rintro v2 J2 ⟨hv2, k2⟩
        have hW2 := hW1.keep k2.V (by omega)
        refine ⟨_, lc_draw hX (d + 7) hL1.1 hS1 ⟨hW2.2.2.2.2.2.2.1, by have := hW2.2.2.2.2.2.2.2.1; omega⟩ ⟨by decide, by decide⟩, ?_⟩
        rintro v3 J3 ⟨hv3, k3⟩
        have hW3 := hW2.keep k3.V (by omega)
        have ha : v2 = ((v2.toNat : Nat) : Int) := by omega
        have hb : v3 = ((v3.toNat : Nat) : Int) := by omega
        have hand : v_iand v2 v3 = ((v2.toNat &&& v3.toNat : Nat) : Int) := by
          rw [ha, hb, v_and_nat (by omega)]
          rfl
        have hle : v2.toNat &&& v3.toNat ≤ 255 := by
          have : v2.toNat &&& v3.toNat ≤ v3.toNat := Nat.and_le_right
          omega
        exact s51 J3 _ _ hand hle (hW3.le (by omega) (by omega)) (fun y hy => by rw [qdr k3, qdr k2, qdr k1]; exact hrow y hy)
    refine ⟨_, lc_draw hX (d + 7) hL1.1 hS1 ⟨hW2.2.2.2.2.2.2.1, by have := hW2.2.2.2.2.2.2.2.1; omega⟩ ⟨by decide, by decide⟩, ?_⟩
    rintro v J1 ⟨hv, k1⟩
    have e1 : 1 + v = ((1 + v.toNat : Nat) : Int) := by omega
    rw [e1]
    exact loop1 0 (Nat.zero_le _) J1 lk (1 + v.toNat) _ _ (by omega) (by omega) ((hW2.keep k1.V (by omega)).le (by omega) (by omega)) (fun y hy => by omega) (by omega) (by omega)
  · rintro o h9 ⟨rfl, J, a1, hJ, rfl⟩
    refine ⟨_, xLe_ad (I := I) hLA.1.1 hLA.frI (fun k => hI _ _), fun r hr => ?_, _, rfl, Or.inl ⟨_, rfl, rfl, hJ.rest (nwP_I hLA.1)⟩⟩
    cases hr; rfl
end SO
