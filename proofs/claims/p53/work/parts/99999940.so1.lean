/-! the law on prices and rounds -/
theorem xLe.tr {h h1 h2 : xS} (a : xLe h h1) (g : xLe h1 h2) : xLe h h2 := by
  obtain ⟨-, a2, a3⟩ := a
  obtain ⟨g1, g2, g3⟩ := g
  refine ⟨g1, fun p hp => ?_, fun q => g3 (a3 q)⟩
  obtain ⟨b1, b2, b3, b4, b5⟩ := g2 p hp
  obtain ⟨c1, c2, c3, c4, c5⟩ := a2 p b1
  exact ⟨c1, b2.trans c2, b3.trans c3, b4.trans c4, fun k t ht => (b5 k t (by rw [c3]; exact ht)).trans (c5 k t ht)⟩
section PR
variable {G : Gr} {lo hi co z π D : Nat → Int} {s : Nat} {Z : Int}
theorem pr_wk (h : PT G lo hi co z π) : ∀ (k x : Nat) (a : Int), wk G.n (GR G lo hi co z) (fun x => x == s) k x a → π x - π s ≤ a
  | 0, x, a, hw => by
    obtain ⟨-, h2, h3⟩ := hw
    have : x = s := eq_of_beq h2
    rw [this, h3]
    omega
  | k + 1, x, a, hw => by
    obtain ⟨u, q, ⟨σ, h1, h2, h3, h4, h5, h6⟩, hw⟩ := hw
    have ih := pr_wk h k u _ hw
    obtain ⟨p1, p2⟩ := h (eg σ) h2
    unfold rsp at h3
    unfold bgn at h4
    unfold edn at h5
    unfold sgn at h6
    by_cases hc : σ < 32
    · have e9 : eg σ = σ := by unfold eg; rw [if_pos hc]
      rw [if_pos hc] at h3 h4 h5 h6
      rw [e9] at p1 p2 h6
      have := p1 (by omega)
      rw [h4, h5] at this
      omega
    · have e9 : eg σ = σ - 32 := by unfold eg; rw [if_neg hc]
      rw [if_neg hc] at h3 h4 h5 h6
      rw [e9] at p1 p2 h6
      have := p2 (by omega)
      rw [h4, h5] at this
      omega
theorem pr_zero (h : PT G lo hi co z π) (hD : DSX G lo hi co z s Z D) (hs : s < G.n) : D s ≠ Z ∧ D s = 0 := by
  obtain ⟨h1, h2, -⟩ := hD
  obtain ⟨g1, g2⟩ := h2 s hs (beq_self_eq_true s)
  obtain ⟨k, hk⟩ := h1 s hs g1
  have := pr_wk h k s _ hk
  exact ⟨g1, by omega⟩
end PR
section SO
variable {X : xX} {c : xCx} {I : xIn} {T : NT} {lk : Nat → Nat} {B : TB} {P : PJ} {m b : Nat} {A : Int} {s t : Nat}
theorem lc_pricesSo (hX : xBase X) (d : Nat) (hLA : LA c m b) (hW : WS I c T lk B P m A) (hs : s < (T.G 0).n) (ht : t < (T.G 0).n) (hst : s ≠ t) (hn : amt T s t ≠ NONE9) {q : xP} (hkq : kd q = (1, m)) (hq : q ∈ lvL c.1 c.2.1) (gq : q.1 ≠ 0) (hrow : ∀ e, e < m → I q e = cheapG (T.G 0) (T.lo 0) (T.hi 0) (T.co 0) s t e) : xRet rB X m_L_pricesSo (d + 10) [xr (2, 0), xr q, xi (s : Int), xi (t : Int)] c I 60 400 (fun v J => v = true ∧ keepV 0 I J) xNo := by
  have h6 := hW.n6
  have h11 := hW.m11
  have hE := hW.2.2.1
  have hm9 := hW.m9
  have hn4 : I (2, 0) 4 = ((T.G 0).n : Int) := hE.2.2.2.1
  refine xMet_in fun hI => ?_
  refine xMet_le (p1 := fun o h9 => ∃ (J : xIn) (a1 a2 : Nat), h9 = (J, xst (cAd (cAd c (pI (T.G 0).n b) a1) (pB (T.G 0).n (b + 1)) a2)) ∧ o = .inl (some (xi (xbi true))) ∧ keepV 0 I J) ?_ ?_
  · refine xMet_of hX pl_L_pricesSo.1 (fun w hw => (pl_L_pricesSo.2.2.1 w hw).1) (LE1 rfl) fun V hV => rg_L_pricesSo_0 hX hV hLA (LE1 rfl) (LE1 rfl) I hkq hq _ _ ⟨⟨by omega, by omega⟩, fun a1 I2 e2 => ?_⟩
    have hn5 : I2 (2, 0) 4 = ((T.G 0).n : Int) := by rw [e2, zI_n (fun z => by cases z)]; exact hn4
    refine ⟨⟨by omega, by omega⟩, fun a2 I5 e5 => ?_⟩
    rw [hn4, tnN] at e2 ⊢
    rw [hn5, tnN] at e5 ⊢
    generalize hq4 : pI (T.G 0).n b = q4 at *
    have hf4 : cFr c q4 := by rw [← hq4]; exact hLA.frI
    have hL1 : LA (cAd c q4 a1) m (b + 1) := by rw [← hq4]; exact hLA.adI (by omega)
    generalize hq12 : pB (T.G 0).n (b + 1) = q12 at *
    have hf12 : cFr (cAd c q4 a1) q12 := by rw [← hq12]; exact hL1.frB
    have hL2 : LA (cAd (cAd c q4 a1) q12 a2) m (b + 1 + 1) := by rw [← hq12]; exact hL1.adB (by omega)
    have n4 : nwP q4 := by rw [← hq4]; exact nwP_I hLA.1
    have n12 : nwP q12 := by rw [← hq12]; exact nwP_B hL1.1
    have k4 : kd q4 = (1, (T.G 0).n) := by rw [← hq4]; exact kd_pI (by omega)
    have k12 : kd q12 = (2, (T.G 0).n) := by rw [← hq12]; exact kd_pB (by omega) (by omega)
    have m4 : q4 ∈ lvL (cAd (cAd c q4 a1) q12 a2).1 (cAd (cAd c q4 a1) q12 a2).2.1 := cAd_mem cAd_self
    have m12 : q12 ∈ lvL (cAd (cAd c q4 a1) q12 a2).1 (cAd (cAd c q4 a1) q12 a2).2.1 := cAd_self
    have mq : q ∈ lvL (cAd (cAd c q4 a1) q12 a2).1 (cAd (cAd c q4 a1) q12 a2).2.1 := cAd_mem (cAd_mem hq)
    have q4q : q ≠ q4 := fun z => lv_not hf4.1 hf4.2.1 (z ▸ hq)
    have q12q : q ≠ q12 := fun z => lv_not hf12.1 hf12.2.1 (z ▸ cAd_mem hq)
    have q412 : q4 ≠ q12 := fun z => lv_not (N := c.1) hf12.1 hf12.2.1 (by rw [← z]; exact (cAd_self : q4 ∈ lvL (cAd c q4 a1).1 (cAd c q4 a1).2.1))
    have g4 : q4.1 ≠ 0 := by rw [← hq4]; exact Nat.succ_ne_zero 0
    have g12 : q12.1 ≠ 0 := by rw [← hq12]; exact Nat.succ_ne_zero 1
    have kV5 : keepV 0 I I5 := by rw [e5, e2]; exact (keepV.id9.zI n4).zI n12
    have row5 : I5 q = I q := by rw [e5, zI_n q12q, e2, zI_n q4q]
    have c2N : (cAd (cAd c q4 a1) q12 a2).1 = c.1 := rfl
    have hWk : ∀ J, keepV 0 I J → WS J (cAd (cAd c q4 a1) q12 a2) T lk B P m A := fun J hJ => by
      have := hW.keep hJ (by have := hW.2.2.2.2.2.2.2.2; omega)
      rw [Int.add_zero] at this
      exact this
    have fin : ∀ (c2 : xCx) (J : xIn), c2 = cAd (cAd c q4 a1) q12 a2 → keepV 0 I J → ∃ (J9 : xIn) (a1 a2 : Nat), (J, xst c2) = (J9, xst (cAd (cAd c q4 a1) q12 a2)) ∧ (.inl (some (xi (xbi true))) : xO) = .inl (some (xi (xbi true))) ∧ keepV 0 I J9 := fun c2 J e hJ => ⟨J, a1, a2, by rw [e], rfl, hJ⟩
    generalize hc2 : (cAd (cAd c q4 a1) q12 a2) = c2 at *
    have hE2 : ∀ J, keepV 0 I J → EW J T m := fun J hJ => (hWk J hJ).2.2.1
    have hEr : ∀ J, keepV 0 I J → J q = I q → (EXD T s t) → (∀ x, x < (T.G 0).n → (J q12 x ≠ 0 ↔ (priceG (T.G 0) (T.lo 0) (T.hi 0) (T.co 0) s t x).2 = 0) ∧ ((priceG (T.G 0) (T.lo 0) (T.hi 0) (T.co 0) s t x).2 = 0 → J q4 x = (priceG (T.G 0) (T.lo 0) (T.hi 0) (T.co 0) s t x).1 ∧ -100000 ≤ J q4 x ∧ J q4 x ≤ 100000)) → ∃ (z D : Nat → Int) (Z : Int), (∀ x, x < (T.G 0).n → (J q12 x ≠ 0 ↔ D x ≠ Z) ∧ (D x ≠ Z → J q4 x = D x ∧ -100000 ≤ D x ∧ D x ≤ 100000)) ∧ (D s ≠ Z ∧ D s = 0) ∧ ∀ e, e < m → J q e = z e ∧ (z e < T.hi 0 e → D ((T.G 0).u e) ≠ Z → D ((T.G 0).v e) ≠ Z ∧ D ((T.G 0).v e) ≤ D ((T.G 0).u e) + T.co 0 e) ∧ (T.lo 0 e < z e → D ((T.G 0).v e) ≠ Z → D ((T.G 0).u e) ≠ Z ∧ D ((T.G 0).u e) ≤ D ((T.G 0).v e) - T.co 0 e) := by
      rintro J hJ hJq ⟨z, Z, D, π, hz, hPT, hD⟩ hx
      refine ⟨z, D, Z, fun x hx9 => ?_, pr_zero hPT hD hs, fun e he => ?_⟩
      · have := hx x hx9
        rw [priceG_eq hz hD hx9] at this
        by_cases h : D x = Z
        · rw [if_pos h] at this
          exact ⟨⟨fun g => absurd (this.1.mp g) (by decide), fun g => absurd h g⟩, fun g => absurd h g⟩
        · rw [if_neg h] at this
          obtain ⟨t1, t2⟩ := this
          obtain ⟨t3, t4, t5⟩ := t2 rfl
          have t3 : J q4 x = D x := t3
          exact ⟨⟨fun _ => h, fun _ => t1.mpr rfl⟩, fun _ => ⟨t3, by omega, by omega⟩⟩
      · have := DSX_edge (by omega) hD (e := e) (by omega)
        refine ⟨?_, this.1, this.2⟩
        rw [hJq, hrow e he, cheapG_eq hz (by omega)]
    have edges : ∀ (kc nc : Nat) (J : xIn), keepV 0 I J → (∃ (z D : Nat → Int) (Z : Int), (∀ x, x < (T.G 0).n → (J q12 x ≠ 0 ↔ D x ≠ Z) ∧ (D x ≠ Z → J q4 x = D x ∧ -100000 ≤ D x ∧ D x ≤ 100000)) ∧ (D s ≠ Z ∧ D s = 0) ∧ ∀ e, e < m → J q e = z e ∧ (z e < T.hi 0 e → D ((T.G 0).u e) ≠ Z → D ((T.G 0).v e) ≠ Z ∧ D ((T.G 0).v e) ≤ D ((T.G 0).u e) + T.co 0 e) ∧ (T.lo 0 e < z e → D ((T.G 0).v e) ≠ Z → D ((T.G 0).u e) ≠ Z ∧ D ((T.G 0).u e) ≤ D ((T.G 0).v e) - T.co 0 e)) → kc ≤ 60 → nc ≤ 400 → V 92 [(0, xr (2, 0)), (1, xr q), (4, xr q4), (5, xr q12), (6, xi (xbi true)), (7, xi 0)] [] (J, xst c2) kc nc := by
      rintro kc nc J hJ ⟨z, D, Z, hx, -, he⟩ hkc hnc
      obtain ⟨e1, e2, e3, e4, e5, e6, e7⟩ := hE2 J hJ
      have hmi : xin (m : Int) := ⟨by omega, by omega⟩
      refine up_to0 (m := m) (W := fun k => V 92 [(0, xr (2, 0)), (1, xr q), (4, xr q4), (5, xr q12), (6, xi (xbi true)), (7, xi (k : Int))] [] (J, xst c2) kc nc) ?_ ?_
      · exact rg_L_pricesSo_92 hX hV hL2 (mc := 60) (ms := 400) hkc hnc J hkq mq k4 m4 k12 m12 true _ ⟨hmi, hmi, fun _ => fin c2 J rfl hJ, fun z => by omega⟩
      intro k hk ih
      rw [Int.natCast_add] at ih
      obtain ⟨⟨f1, f2⟩, f3, f4, f5⟩ := e7 k hk
      obtain ⟨y1, y2, y3⟩ := he k hk
      have hu := (hW.g.2.2.2 k (by omega)).1
      have hv := (hW.g.2.2.2 k (by omega)).2.1
      have hco := hW.co k (by omega)
      obtain ⟨u1, u2⟩ := hx _ hu
      obtain ⟨v1, v2⟩ := hx _ hv
      have s178 : V 178 [(0, xr (2, 0)), (1, xr q), (4, xr q4), (5, xr q12), (6, xi (xbi true)), (7, xi (k : Int)), (8, xr (er k))] [] (J, xst c2) kc nc := by
        refine rg_L_pricesSo_178 hX hV hL2 (mc := 60) (ms := 400) hkc hnc J hkq mq k4 m4 k12 m12 true _ k hk ⟨(fun z => by cases z), fun _ => ⟨⟨by omega, by omega⟩, fun _ => ih, fun hlt => ?_⟩⟩
        rw [tnN, y1, f3] at hlt
        rw [f1, f2, f5, tnN, tnN]
        refine ⟨⟨by omega, by omega⟩, fun _ => ih, fun hv0 => ⟨⟨by omega, by omega⟩, fun hu0 => ?_, fun hu0 => ?_⟩⟩
        · exact absurd hu0 (u1.mpr (y3 hlt (v1.mp hv0)).1)
        · obtain ⟨z1, z2⟩ := u2 (u1.mp hu0)
          obtain ⟨z3, z4⟩ := v2 (v1.mp hv0)
          have := (y3 hlt (v1.mp hv0)).2
          rw [z1, z3]
          exact ⟨⟨by omega, by omega⟩, ⟨by omega, by omega⟩, ⟨by omega, by omega⟩, fun z => by omega, fun _ => ih⟩
      refine rg_L_pricesSo_92 hX hV hL2 (mc := 60) (ms := 400) hkc hnc J hkq mq k4 m4 k12 m12 true _ ⟨⟨by omega, by omega⟩, hmi, fun z => by omega, fun _ => ⟨(fun z => by cases z), fun _ => ⟨⟨by omega, by omega⟩, e3, ⟨by omega, by omega⟩, fun _ => by rw [tnN]; exact s178, fun hlt => ?_⟩⟩⟩
      rw [tnN, y1, f4] at hlt
      rw [tnN, f1, f2, f5, tnN, tnN]
      refine ⟨⟨by omega, by omega⟩, fun _ => s178, fun hu0 => ⟨⟨by omega, by omega⟩, fun hv0 => ?_, fun hv0 => ?_⟩⟩
      · exact absurd hv0 (v1.mpr (y2 hlt (u1.mp hu0)).1)
      · obtain ⟨z1, z2⟩ := u2 (u1.mp hu0)
        obtain ⟨z3, z4⟩ := v2 (v1.mp hv0)
        have := (y2 hlt (u1.mp hu0)).2
        rw [z1, z3]
        exact ⟨⟨by omega, by omega⟩, ⟨by omega, by omega⟩, ⟨by omega, by omega⟩, fun z => by omega, fun _ => rg_L_pricesSo_176 hX hV hL2 (mc := 60) (ms := 400) hkc hnc J hkq mq k4 m4 k12 m12 _ k true hk s178⟩
    have main : ∀ k : Nat, k ≤ (T.G 0).n → ∀ J : xIn, keepV 0 I J → J q = I q → (k = 0 ∨ EXD T s t) → (∀ x, x < k → (J q12 x ≠ 0 ↔ (priceG (T.G 0) (T.lo 0) (T.hi 0) (T.co 0) s t x).2 = 0) ∧ ((priceG (T.G 0) (T.lo 0) (T.hi 0) (T.co 0) s t x).2 = 0 → J q4 x = (priceG (T.G 0) (T.lo 0) (T.hi 0) (T.co 0) s t x).1 ∧ -100000 ≤ J q4 x ∧ J q4 x ≤ 100000)) → V 19 [(0, xr (2, 0)), (1, xr q), (2, xi (s : Int)), (3, xi (t : Int)), (4, xr q4), (5, xr q12), (6, xi (k : Int))] [] (J, xst c2) (2 + 5 * k) (32 + 30 * k) := by
      refine up_to (m := (T.G 0).n) (W := fun k => ∀ J : xIn, keepV 0 I J → J q = I q → (k = 0 ∨ EXD T s t) → (∀ x, x < k → (J q12 x ≠ 0 ↔ (priceG (T.G 0) (T.lo 0) (T.hi 0) (T.co 0) s t x).2 = 0) ∧ ((priceG (T.G 0) (T.lo 0) (T.hi 0) (T.co 0) s t x).2 = 0 → J q4 x = (priceG (T.G 0) (T.lo 0) (T.hi 0) (T.co 0) s t x).1 ∧ -100000 ≤ J q4 x ∧ J q4 x ≤ 100000)) → V 19 [(0, xr (2, 0)), (1, xr q), (2, xi (s : Int)), (3, xi (t : Int)), (4, xr q4), (5, xr q12), (6, xi (k : Int))] [] (J, xst c2) (2 + 5 * k) (32 + 30 * k)) ?_ ?_
      · intro J hJ hJq hk0 hx
        have hs4 : J (2, 0) 4 = ((T.G 0).n : Int) := (hE2 J hJ).2.2.2.1
        have hex := hEr J hJ hJq (hk0.resolve_left (by omega)) hx
        have hex9 := hex
        obtain ⟨z, D, Z, y1, y2, -⟩ := hex
        obtain ⟨s1, s2⟩ := y1 s hs
        refine rg_L_pricesSo_19 hX hV hL2 (mc := 60) (ms := 400) (by omega) (by omega) J hkq mq k4 m4 k12 m12 _ _ _ ⟨⟨by omega, by omega⟩, fun _ => ⟨⟨by omega, by omega⟩, fun z0 => absurd (by rw [tnN] at z0; exact z0) (s1.mpr y2.1), fun _ => ⟨⟨by omega, by omega⟩, fun z0 => absurd ?_ z0, fun _ => edges _ _ J hJ hex9 (by omega) (by omega)⟩⟩, fun z => by omega⟩
        rw [tnN, (s2 y2.1).1]
        exact y2.2
      · intro k hk ih J hJ hJq hk0 hx
        have hs4 : J (2, 0) 4 = ((T.G 0).n : Int) := (hE2 J hJ).2.2.2.1
        rw [Int.natCast_add] at ih
        refine rg_L_pricesSo_19 hX hV hL2 (mc := 60) (ms := 400) (by omega) (by omega) J hkq mq k4 m4 k12 m12 _ _ _ ⟨⟨by omega, by omega⟩, fun z => by omega, fun _ => ⟨_, _, lw_price hX d (hWk J hJ) hs ht hst hn hk, ?_, ?_⟩⟩
        · rintro e J1 ⟨kc, rfl, hEX, h0⟩
          refine ⟨rfl, ⟨by omega, by omega⟩, fun J2 e2 => ih J2 ?_ ?_ (Or.inr hEX) ?_⟩
          · rw [e2]; exact (hJ.C kc).xu n12
          · rw [e2, xu_p q12q, kc.q gq, hJq]
          · intro x hx9
            rw [tnN] at e2
            by_cases hxk : x = k
            · rw [hxk, e2, xu_same]
              exact ⟨⟨fun z => absurd rfl z, fun z => absurd z h0⟩, fun z => absurd z h0⟩
            · rw [e2, xu_k hxk, xu_p q412, kc.q g12, kc.q g4]
              exact hx x (by omega)
        · rintro v J1 ⟨kc, hEX, hb, h0⟩
          refine ⟨⟨by omega, by omega⟩, ⟨by omega, by omega⟩, fun J2 e2 => ⟨⟨by omega, by omega⟩, fun J3 e3 => ih J3 ?_ ?_ (Or.inr hEX) ?_⟩⟩
          · rw [e3, e2]; exact ((hJ.C kc).xu n4).xu n12
          · rw [e3, xu_p q12q, e2, xu_p q4q, kc.q gq, hJq]
          · intro x hx9
            rw [tnN] at e2 e3
            by_cases hxk : x = k
            · rw [hxk, ← h0, e3, xu_same, xu_p q412, e2, xu_same]
              exact ⟨⟨fun _ => rfl, fun _ => by decide⟩, fun _ => ⟨rfl, hb.1, hb.2⟩⟩
            · rw [e3, xu_k hxk, xu_p q412, e2, xu_p q412.symm, xu_k hxk, kc.q g12, kc.q g4]
              exact hx x (by omega)
    refine main 0 (Nat.zero_le _) I5 kV5 row5 (Or.inl rfl) (fun x hx => by omega)
  · rintro o h9 ⟨J, a1, a2, rfl, rfl, hJ⟩
    have hL1 : LA (cAd c (pI (T.G 0).n b) a1) m (b + 1) := hLA.adI (by omega)
    refine ⟨_, (xLe_ad (I := I) hL1.1.1 hL1.frB (fun k => hI _ _)).tr (xLe_ad (I := I) hLA.1.1 hLA.frI (fun k => hI _ _)), fun r hr => ?_, _, rfl, Or.inl ⟨_, rfl, rfl, ?_⟩⟩
    · cases hr; rfl
    · exact ((hJ.rest (nwP_B hL1.1)).rest (nwP_I hLA.1))
theorem lw_rounds (hX : xBase X) (d : Nat) (h : WS I c T lk B P m A) (hs : s < (T.G 0).n) (ht : t < (T.G 0).n) (hst : s ≠ t) : xRet rI X m_X9_rounds (d + 8) [xr (0, 0), xi 0, xi (s : Int), xi (t : Int)] c I 3 18 (fun v J => keepC I J ∧ noL (T.G 0) (T.lo 0) = true ∧ v = ((MC (T.G 0) (T.hi 0) s t : Nat) : Int)) (fun e J => keepC I J ∧ e = xUOE) := by
  have h6 := h.n6
  have hA : roundsA T 0 s t = wE 0 (if noL (T.G 0) (T.lo 0) then 0 else 3) (((MC (T.G 0) (T.hi 0) s t : Nat) : Int), 0) := by
    unfold roundsA
    rw [wrongRT_0 (w0 h.N hs ht hst), tnN, tnN, Int.toNat_zero]
  refine xRet_w (cn_rounds hX d h.1 h.2.1 x0 (xn (by omega)) (xn (by omega))) (fun v J => ?_) (fun e J => ?_)
  · rintro ⟨k, hv⟩
    rw [hA] at hv
    by_cases z : noL (T.G 0) (T.lo 0) = true
    · rw [if_pos z, wE_0 rfl] at hv
      exact ⟨k, z, congrArg Prod.fst hv⟩
    · rw [if_neg z, wE_p (by decide)] at hv
      exact absurd (congrArg Prod.snd hv) (show (0 : Int) ≠ 3 by decide)
  · rintro ⟨k, hv⟩
    rw [hA] at hv
    by_cases z : noL (T.G 0) (T.lo 0) = true
    · rw [if_pos z, wE_0 rfl] at hv
      exact (exL0 hv).elim
    · rw [if_neg z, wE_p (by decide)] at hv
      exact ⟨k, exL_at (k := 2) hv rfl⟩
theorem lw_roundAmount (hX : xBase X) (d : Nat) (h : WS I c T lk B P m A) (hs : s < (T.G 0).n) (ht : t < (T.G 0).n) (hst : s ≠ t) (hz : noL (T.G 0) (T.lo 0) = true) {r : Nat} (hr : r < MC (T.G 0) (T.hi 0) s t) (hr9 : r ≤ 1000) : xRet rI X m_X9_roundAmount (d + 8) [xr (0, 0), xi 0, xi (s : Int), xi (t : Int), xi (r : Int)] c I 4 24 (fun v J => keepC I J ∧ v = aC (T.G 0) (T.hi 0) (FC (T.G 0) (T.hi 0) s t r) s t) xNo := by
  have h6 := h.n6
  have hA : roundAmountA T 0 s t r = (aC (T.G 0) (T.hi 0) (FC (T.G 0) (T.hi 0) s t r) s t, 0) := by
    unfold roundAmountA roundAmountG
    rw [wrongRT_0 (w0 h.N hs ht hst), tnN, tnN, tnN, Int.toNat_zero, if_pos hz, wE_0 rfl, if_pos ⟨by omega, by omega⟩]
  refine xRet_w (cn_roundAmount8 hX d h.1 h.2.1 x0 (xn (by omega)) (xn (by omega)) (xn (by omega))) (fun v J => ?_) (fun e J => ?_)
  · rintro ⟨k, hv⟩
    rw [hA] at hv
    exact ⟨k, congrArg Prod.fst hv⟩
  · rintro ⟨k, hv⟩
    rw [hA] at hv
    exact (exL0 hv).elim
theorem lc_roundsSo (hX : xBase X) (d : Nat) (hLA : LA c m b) (hW : WS I c T lk B P m A) (hs : s < (T.G 0).n) (ht : t < (T.G 0).n) (hst : s ≠ t) {a : Int} (ha : a = amt T s t) (hn : amt T s t ≠ NONE9) : xRet rB X m_L_roundsSo (d + 9) [xr (2, 0), xi (s : Int), xi (t : Int), xi a] c I 300 1700 (fun v J => v = true ∧ keepV 0 I J) xNo := by
  have h6 := hW.n6
  have h11 := hW.m11
  have hm9 := hW.m9
  have hb : ∀ e, e < (T.G 0).m → 0 ≤ T.hi 0 e ∧ T.hi 0 e ≤ 99 := fun e he => by have := hW.bd e he; omega
  refine xRet_of hX pl_L_roundsSo (LE1 rfl) fun V hV => rg_L_roundsSo_0 hX hV hLA (LE1 rfl) (LE1 rfl) I _ _ _ ⟨_, _, lw_rounds hX (d + 0) hW hs ht hst, ?_, ?_⟩
  · rintro e J ⟨k, rfl⟩
    exact ⟨rfl, rfl, k.V⟩
  rintro v J ⟨k, hz, rfl⟩
  have hfew := MC_few hW.g hs ht hst hb
  have hall := AC_all hW.g hs ht hst hb (noL_0 hz)
  rw [hm9] at hfew
  have hf66 : (T.G 0).n * m ≤ 6 * 11 := Nat.mul_le_mul h6.2 h11.2
  generalize hM : MC (T.G 0) (T.hi 0) s t = M at *
  have hAC : ∀ j, xin (AC (T.G 0) (T.hi 0) s t j) := fun j => by
    have z1 := AC_bd hW.g hs ht hst hb j
    have z2 := AC_nn (hi := T.hi 0) hW.g hs hst j
    exact ⟨by omega, by omega⟩
  have main : ∀ k : Nat, k ≤ M → ∀ J : xIn, keepV 0 I J → V 25 [(0, xr (2, 0)), (1, xi (s : Int)), (2, xi (t : Int)), (3, xi a), (4, xi (M : Int)), (5, xi (AC (T.G 0) (T.hi 0) s t k)), (6, xi (k : Int))] [] (J, xst c) (3 + 4 * k) (18 + 24 * k) := by
    refine up_to (m := M) (W := fun k => ∀ J : xIn, keepV 0 I J → V 25 [(0, xr (2, 0)), (1, xi (s : Int)), (2, xi (t : Int)), (3, xi a), (4, xi (M : Int)), (5, xi (AC (T.G 0) (T.hi 0) s t k)), (6, xi (k : Int))] [] (J, xst c) (3 + 4 * k) (18 + 24 * k)) ?_ ?_
    · intro J hJ
      obtain ⟨e1, e2, e3, e4, e5, e6, e7⟩ := (hW.k0 hJ).2.2.1
      have hpr : J (2, 0) 4 * J (2, 1) 2 = (((T.G 0).n * m : Nat) : Int) := by rw [e3, e4]; exact (Int.natCast_mul _ _).symm
      have am := hW.am hs ht hst hn
      refine rg_L_roundsSo_25 hX hV hLA (mc := 300) (ms := 1700) (by omega) (by omega) J _ _ _ _ _ _ ⟨⟨by omega, by omega⟩, ⟨by omega, by omega⟩, fun _ => ⟨hAC _, ⟨by omega, by omega⟩, fun z => absurd ?_ z, fun _ => ?_⟩, fun z => by omega⟩
      · rw [ha]; exact hall
      · rw [hpr]
        exact ⟨⟨by omega, by omega⟩, fun z => by omega, fun _ => ⟨rfl, hJ⟩⟩
    · intro k hk ih J hJ
      refine rg_L_roundsSo_25 hX hV hLA (mc := 300) (ms := 1700) (by omega) (by omega) J _ _ _ _ _ _ ⟨⟨by omega, by omega⟩, ⟨by omega, by omega⟩, fun z => by omega, fun _ => ⟨_, lw_roundAmount hX (d + 0) (hW.k0 hJ) hs ht hst hz (r := k) (by omega) (by omega), ?_⟩⟩
      rintro v J1 ⟨kc, rfl⟩
      have := ih J1 (hJ.C kc)
      rw [Int.natCast_add] at this
      exact this
  exact main 0 (Nat.zero_le _) J (keepV.id9.C k)
end SO
