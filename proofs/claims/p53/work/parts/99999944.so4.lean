/-! the law on demands -/
theorem WS.le {I : xIn} {c : xCx} {T : NT} {lk : Nat → Nat} {B : TB} {P : PJ} {m : Nat} {A A9 : Int} (h : WS I c T lk B P m A) (h1 : A ≤ A9) (h2 : A9 ≤ 1000000) : WS I c T lk B P m A9 := by
  obtain ⟨a1, a2, a3, a4, a5, a6, a7, a8, a9⟩ := h
  exact ⟨a1, a2, a3, a4, a5, a6, a7, by omega, h2⟩
theorem WS.c9 {I : xIn} {c c9 : xCx} {T : NT} {lk : Nat → Nat} {B : TB} {P : PJ} {m : Nat} {A : Int} (h : WS I c T lk B P m A) (hc : c9.1 = c.1) : WS I c9 T lk B P m A := by
  obtain ⟨a1, a2, a3⟩ := h
  refine ⟨a1, ?_, a3⟩
  unfold CI CG at a2 ⊢
  rw [hc]
  exact a2
theorem WW.c9 {I : xIn} {c c9 : xCx} {m : Nat} {A : Int} (h : WW I c m A) (hc : c9.1 = c.1) : WW I c9 m A := by
  obtain ⟨T, lk, B, P, h⟩ := h
  exact ⟨T, lk, B, P, h.c9 hc⟩
theorem WW.rest {I J : xIn} {c : xCx} {m : Nat} {A : Int} {q : xP} (h : WW J c m A) (hq : nwP q) : WW (fun p => if p = q then I q else J p) c m A := by
  obtain ⟨T, lk, B, P, h⟩ := h
  exact ⟨T, lk, B, P, h.k0 (keepV.id9.row hq fun p hp => if_neg hp)⟩
def suT (T : NT) (x : Nat) (v : Int) : NT := T.put 0 (T.G 0) (T.lo 0) (T.hi 0) (T.co 0) (upL (T.su 0) x v)
section SO
variable {X : xX} {c : xCx} {I : xIn} {T : NT} {lk : Nat → Nat} {B : TB} {P : PJ} {m b : Nat} {A : Int} {s t : Nat}
theorem lw_supply (hX : xBase X) (d : Nat) (h : WS I c T lk B P m A) {x : Nat} (hx : x < (T.G 0).n) {v : Int} (hv : -99 ≤ v ∧ v ≤ 99) : xRet rI X m_X9_supply (d + 8) [xr (0, 0), xi 0, xi (x : Int), xi v] c I 3 18 (fun w J => (∀ p : xP, p.1 < 3 → J p = I p) ∧ WS J c (suT T x v) lk B P m A ∧ w = T.su 0 x) xNo := by
  have h6 := h.n6
  have hw : wrong1C T 0 (x : Int) = 0 := by
    unfold wrong1C
    rw [Int.toNat_zero, if_pos (by rw [h.N]; decide), if_pos (w_in hx)]
  have hA : supplyA T 0 x v = ((T.su 0 x, 0), suT T x v) := by
    unfold supplyA
    rw [hw, if_neg (by decide), if_pos hv, tnN, Int.toNat_zero]
    rfl
  refine xRet_w (cn_supply hX d h.1 h.2.1 x0 (xn (by omega)) ⟨by omega, by omega⟩) (fun w J => ?_) (fun e J => ?_)
  · rintro ⟨k, hC, hw9⟩
    have hok := supplyA_ok h.1 0 x v
    rw [hA] at hC hw9 hok
    obtain ⟨a1, a2, a3, ⟨a4, a5⟩, ⟨a6, a7⟩, ⟨a8, a9⟩, a10⟩ := h
    have z0 : ∀ j, J (0, j) = I (0, j) := fun j => k _ (show (0 : Nat) < 3 by omega)
    have z2 : ∀ j, J (2, j) = I (2, j) := fun j => k _ (show (2 : Nat) < 3 by omega)
    refine ⟨k, ⟨hok, hC, ?_, ⟨a4, ?_⟩, ⟨a6, ?_⟩, ⟨a8, ?_⟩, ?_⟩, congrArg Prod.fst hw9⟩
    · have : EW J T m := by
        unfold EW
        rw [z2, z2]
        refine ⟨a3.1, a3.2.1, a3.2.2.1, a3.2.2.2.1, a3.2.2.2.2.1, a3.2.2.2.2.2.1, fun e he => ?_⟩
        rw [k (er e) (show (1 : Nat) < 3 by omega)]
        exact a3.2.2.2.2.2.2 e he
      exact this
    · unfold CL; rw [z0]; exact a5
    · unfold CTB; rw [z0, z0]; exact a7
    · unfold CPJ; rw [z0, z0, z0, z0]; exact a9
    · unfold AtB; rw [z2]; exact a10
  · rintro ⟨k, hv9, hw9⟩
    rw [hA] at hw9
    exact (exL0 hw9).elim
theorem w01 (h : T.N = 1) : wrong1 T 0 = 0 := by
  unfold wrong1
  rw [if_pos (by rw [h]; decide)]
theorem w01E (h : T.N = 1) {e : Nat} (he : e < (T.G 0).m) : wrong1E T 0 (e : Int) = 0 := by
  unfold wrong1E
  rw [Int.toNat_zero, if_pos (by rw [h]; decide), if_pos (w_in he)]
abbrev brkT (T : NT) : Int := brkF (T.G 0) (T.lo 0) (T.hi 0) (T.su 0)
theorem lw_holds (hX : xBase X) (d : Nat) (h : WS I c T lk B P m A) : xRet rB X m_X9_holds (d + 8) [xr (0, 0), xi 0] c I 1 6 (fun v J => keepC I J ∧ v = decide (brkT T = -1)) xNo := by
  have hA : holdsA T 0 = (decide (brkT T = -1), 0) := by
    unfold holdsA holdsG
    rw [wE_0 (w01 h.N), Int.toNat_zero]
  refine xRet_w (cn_holds hX d h.1 h.2.1 x0) (fun v J => ?_) (fun e J => ?_)
  · rintro ⟨k, hv⟩
    rw [hA] at hv
    exact ⟨k, congrArg Prod.fst hv⟩
  · rintro ⟨k, hv⟩
    rw [hA] at hv
    exact (exL0 hv).elim
theorem lw_breaks (hX : xBase X) (d : Nat) (h : WS I c T lk B P m A) (hb : brkT T ≠ -1) : xRet rI X m_X9_breaks (d + 8) [xr (0, 0), xi 0] c I 2 12 (fun v J => keepC I J ∧ v = brkT T) xNo := by
  have hA : breaksA T 0 = (brkT T, 0) := by
    unfold breaksA breaksG
    rw [wE_0 (w01 h.N), Int.toNat_zero, if_neg hb]
  refine xRet_w (cn_breaks hX d h.1 h.2.1 x0) (fun v J => ?_) (fun e J => ?_)
  · rintro ⟨k, hv⟩
    rw [hA] at hv
    exact ⟨k, congrArg Prod.fst hv⟩
  · rintro ⟨k, hv⟩
    rw [hA] at hv
    exact (exL0 hv).elim
abbrev mtsT (T : NT) : Nat → Int := (lxC (T.G 0) (T.lo 0) (T.hi 0) (T.su 0) (T.G 0).m).1
theorem lw_meets (hX : xBase X) (d : Nat) (h : WS I c T lk B P m A) (hb : brkT T = -1) {e : Nat} (he : e < m) : xRet rI X m_X9_meets (d + 8) [xr (0, 0), xi 0, xi (e : Int)] c I 3 18 (fun v J => keepC I J ∧ v = mtsT T e) xNo := by
  have h11 := h.m11
  have hA : meetsA T 0 e = (mtsT T e, 0) := by
    unfold meetsA meetsG
    rw [wE_0 (w01E h.N (by rw [h.m9]; exact he)), tnN, Int.toNat_zero, if_pos hb, ← lxC_row (k := (T.G 0).m) (by rw [h.m9]; exact he)]
  refine xRet_w (cn_meets hX d h.1 h.2.1 x0 (xn (by omega))) (fun v J => ?_) (fun e J => ?_)
  · rintro ⟨k, hv⟩
    rw [hA] at hv
    exact ⟨k, congrArg Prod.fst hv⟩
  · rintro ⟨k, hv⟩
    rw [hA] at hv
    exact (exL0 hv).elim
theorem WS.sb (h : WS I c T lk B P m A) : ∀ x, x < (T.G 0).n → -99 ≤ T.su 0 x ∧ T.su 0 x ≤ 99 := (h.1.2 0 (by have := h.N; omega)).2.2
theorem mts_row (h : WS I c T lk B P m A) (hb : brkT T = -1) : FS (T.G 0) (T.lo 0) (T.hi 0) (T.su 0) (mtsT T) := by
  obtain ⟨f, hf⟩ := gale h.g (fun e he => by have := h.bd e he; omega) h.sb hb
  obtain ⟨h1, g, hg1, hg2⟩ := lxC_ok h.g.in hf (Nat.le_refl (T.G 0).m)
  have e : ∀ e, e < (T.G 0).m → g e = mtsT T e := fun e he => by
    have := hg1 e he
    have := lxC_same (G := T.G 0) (lo := T.lo 0) (hi := T.hi 0) (b := T.su 0) he
    show g e = (lxC (T.G 0) (T.lo 0) (T.hi 0) (T.su 0) (T.G 0).m).1 e
    omega
  refine FS_cong e ⟨fun k hk => ?_, hg2⟩
  have := hg1 k hk
  have := h1 k hk
  omega
theorem brk_S (h : WS I c T lk B P m A) (hb : brkT T ≠ -1) : ∃ S : Nat, brkT T = (S : Int) ∧ S < 2 ^ (T.G 0).n ∧ brkP (T.G 0) (T.lo 0) (T.hi 0) (T.su 0) S = true := by
  rcases ff_cases (brkP (T.G 0) (T.lo 0) (T.hi 0) (T.su 0)) (2 ^ (T.G 0).n) with ⟨h1, -⟩ | ⟨S, h1, h2, h3, -⟩
  · exact absurd h1 hb
  · exact ⟨S, h2, h1, h3⟩
theorem lc_demandsSo (hX : xBase X) (d : Nat) (hLA : LA c m b) (hS : SC X c) (hW : WS I c T lk B P m A) (hA : A + 12 ≤ 1000000) : xRet rB X m_L_demandsSo (d + 9) [xr (2, 0)] c I 200 1000 (fun v J => v = true ∧ WW J c m (A + 12)) xNo := by
  have h6 := hW.n6
  have h11 := hW.m11
  have h20 : I (2, 0) 4 = ((T.G 0).n : Int) := hW.2.2.1.2.2.2.1
  generalize hn : (T.G 0).n = n at *
  have hW0 : ∃ T9, (T9.G 0).n = n ∧ WS I c T9 lk B P m A := ⟨T, hn, hW⟩
  clear hn hW
  refine xMet_in fun hI => ?_
  refine xMet_le (p1 := fun o h9 => o = .inl (some (xi (xbi true))) ∧ ∃ (J : xIn) (a1 a2 : Nat), WW J c m (A + 12) ∧ (h9 = (J, xst (cAd c (pI n b) a1)) ∨ h9 = (J, xst (cAd (cAd c (pI n b) a1) (pI m (b + 1)) a2)))) ?_ ?_
  · refine xMet_of hX pl_L_demandsSo.1 (fun w hw => (pl_L_demandsSo.2.2.1 w hw).1) (LE1 rfl) fun V hV => ?_
    have hn4 : ∀ {J : xIn} {T9 : NT} {c9 : xCx} {A9 : Int}, (T9.G 0).n = n → WS J c9 T9 lk B P m A9 → J (2, 0) 4 = (n : Int) := fun h1 h2 => by rw [h2.2.2.1.2.2.2.1, h1]
    -- what is left once the row of supplies is there
    have rest : ∀ (J : xIn) (kc nc : Nat), kc ≤ 30 → nc ≤ 240 → (∃ T9, (T9.G 0).n = n ∧ WS J c T9 lk B P m (A + 12)) → ∀ a1 : Nat, V 74 [(0, xr (2, 0)), (2, xr (pI n b)), (3, xi 0)] [] (zI J (pI n b), xst (cAd c (pI n b) a1)) kc nc := by
      rintro J0 kc nc hkc hnc ⟨T0, t1, t2⟩ a1
      have hL1 : LA (cAd c (pI n b) a1) m (b + 1) := hLA.adI (by omega)
      have nwq : nwP (pI n b) := nwP_I hLA.1
      have nwr : nwP (pI m (b + 1)) := nwP_I hL1.1
      have kdq : kd (pI n b) = (1, n) := kd_pI (by omega)
      have kdr9 : kd (pI m (b + 1)) = (1, m) := kd_pI (by omega)
      have gq : (pI n b).1 ≠ 0 := Nat.succ_ne_zero 0
      have gr : (pI m (b + 1)).1 ≠ 0 := Nat.succ_ne_zero 0
      have gq3 : (pI n b).1 < 3 := show (1 : Nat) < 3 by omega
      have hqr : pI n b ≠ pI m (b + 1) := fun z => by
        have z : n + 64 * b = m + 64 * (b + 1) := congrArg Prod.snd z
        omega
      have mq : pI n b ∈ lvL (cAd c (pI n b) a1).1 (cAd c (pI n b) a1).2.1 := cAd_self
      have st0 : WS (zI J0 (pI n b)) (cAd c (pI n b) a1) T0 lk B P m (A + 12) := (t2.k0 (keepV.id9.zI nwq)).c9 rfl
      have fin1 : ∀ (J : xIn) (T9 : NT), WS J (cAd c (pI n b) a1) T9 lk B P m (A + 12) → (.inl (some (xi (xbi true))) : xO) = .inl (some (xi (xbi true))) ∧ ∃ (J9 : xIn) (b1 b2 : Nat), WW J9 c m (A + 12) ∧ ((J, xst (cAd c (pI n b) a1)) = (J9, xst (cAd c (pI n b) b1)) ∨ (J, xst (cAd c (pI n b) a1)) = (J9, xst (cAd (cAd c (pI n b) b1) (pI m (b + 1)) b2))) := fun J T9 h => ⟨rfl, J, a1, 0, ⟨T9, lk, B, P, h.c9 rfl⟩, Or.inl rfl⟩
      have fin2 : ∀ (a2 : Nat) (J : xIn) (T9 : NT), WS J (cAd (cAd c (pI n b) a1) (pI m (b + 1)) a2) T9 lk B P m (A + 12) → (.inl (some (xi (xbi true))) : xO) = .inl (some (xi (xbi true))) ∧ ∃ (J9 : xIn) (b1 b2 : Nat), WW J9 c m (A + 12) ∧ ((J, xst (cAd (cAd c (pI n b) a1) (pI m (b + 1)) a2)) = (J9, xst (cAd c (pI n b) b1)) ∨ (J, xst (cAd (cAd c (pI n b) a1) (pI m (b + 1)) a2)) = (J9, xst (cAd (cAd c (pI n b) b1) (pI m (b + 1)) b2))) := fun a2 J T9 h => ⟨rfl, J, a1, a2, ⟨T9, lk, B, P, h.c9 rfl⟩, Or.inr rfl⟩
      have hc1 : (cAd c (pI n b) a1).1 = c.1 := rfl
      generalize hcc : cAd c (pI n b) a1 = c1 at *
      generalize pI n b = q at *
      -- the row that meets the demands
      have s236 : ∀ (a2 : Nat) (J : xIn) (T9 : NT) (kc nc : Nat), kc ≤ 80 → nc ≤ 500 → (T9.G 0).n = n → brkT T9 = -1 → WS J c1 T9 lk B P m (A + 12) → (∀ y, y < n → J q y = T9.su 0 y) → V 236 [(0, xr (2, 0)), (2, xr q), (3, xr (pI m (b + 1))), (4, xi (xbi true)), (5, xi 0)] [] (zI J (pI m (b + 1)), xst (cAd c1 (pI m (b + 1)) a2)) kc nc := by
        intro a2 J T9 kc nc hkc hnc hn9 hbr hWJ hsu
        have hL2 : LA (cAd c1 (pI m (b + 1)) a2) m (b + 1 + 1) := hL1.adI (by omega)
        have hWz : WS (zI J (pI m (b + 1))) (cAd c1 (pI m (b + 1)) a2) T9 lk B P m (A + 12) := (hWJ.k0 (keepV.id9.zI nwr)).c9 rfl
        have hsz : ∀ y, y < n → zI J (pI m (b + 1)) q y = T9.su 0 y := fun y hy => by rw [zI_n hqr]; exact hsu y hy
        have mq2 : q ∈ lvL (cAd c1 (pI m (b + 1)) a2).1 (cAd c1 (pI m (b + 1)) a2).2.1 := cAd_mem mq
        have mr2 : pI m (b + 1) ∈ lvL (cAd c1 (pI m (b + 1)) a2).1 (cAd c1 (pI m (b + 1)) a2).2.1 := cAd_self
        have fin := fin2 a2
        generalize cAd c1 (pI m (b + 1)) a2 = c2 at *
        generalize pI m (b + 1) = r at *
        have hFS := mts_row hWJ hbr
        have hm9 := hWJ.m9
        have last : ∀ (J : xIn) (kc nc : Nat), kc ≤ 150 → nc ≤ 800 → WS J c2 T9 lk B P m (A + 12) → (∀ y, y < n → J q y = T9.su 0 y) → (∀ e, e < m → J r e = mtsT T9 e) → V 320 [(0, xr (2, 0)), (2, xr q), (3, xr r), (4, xi (xbi true)), (5, xi 0)] [] (J, xst c2) kc nc := by
          intro J kc nc hkc hnc hWJ hsu hro
          have j4 := hn4 hn9 hWJ
          have hF9 : FS (T9.G 0) (T9.lo 0) (T9.hi 0) (T9.su 0) (J r) := FS_cong (fun e he => (hro e (by omega)).symm) hFS
          refine up_to0 (m := n) (W := fun k => V 320 [(0, xr (2, 0)), (2, xr q), (3, xr r), (4, xi (xbi true)), (5, xi (k : Int))] [] (J, xst c2) kc nc) ?_ ?_
          · exact rg_L_demandsSo_320 (mc := 200) (ms := 1000) hX hV hL2 (by omega) (by omega) J kdq mq2 kdr9 mr2 _ _ ⟨⟨by omega, by omega⟩, fun _ => fin J T9 hWJ, fun z => by omega⟩
          · intro k hk ih
            rw [Int.natCast_add] at ih
            refine rg_L_demandsSo_320 (mc := 200) (ms := 1000) hX hV hL2 (by omega) (by omega) J kdq mq2 kdr9 mr2 _ _ ⟨⟨by omega, by omega⟩, fun z => by omega, fun _ => ⟨(fun z => by cases z), fun _ => ⟨_, lc_leaving hX (d + 5) hL2 hWJ.2.2.1 kdr9 mr2 rfl (by omega), ?_⟩⟩⟩
            rintro _ _ ⟨rfl, rfl⟩
            have hx := hF9.2 k (by omega)
            have hb := hWJ.sb k (by omega)
            rw [hx]
            refine ⟨⟨by omega, by omega⟩, ⟨by omega, by omega⟩, fun z => absurd ?_ z, fun _ => ih⟩
            rw [tnN, hsu k hk]
        have main : ∀ k : Nat, k ≤ m → ∀ J : xIn, WS J c2 T9 lk B P m (A + 12) → (∀ y, y < n → J q y = T9.su 0 y) → (∀ e, e < k → J r e = mtsT T9 e) → V 236 [(0, xr (2, 0)), (2, xr q), (3, xr r), (4, xi (xbi true)), (5, xi (k : Int))] [] (J, xst c2) (kc + 3 * k) (nc + 18 * k) := by
          refine up_to (m := m) (W := fun k => ∀ J : xIn, WS J c2 T9 lk B P m (A + 12) → (∀ y, y < n → J q y = T9.su 0 y) → (∀ e, e < k → J r e = mtsT T9 e) → V 236 [(0, xr (2, 0)), (2, xr q), (3, xr r), (4, xi (xbi true)), (5, xi (k : Int))] [] (J, xst c2) (kc + 3 * k) (nc + 18 * k)) ?_ ?_
          · intro J hWJ hsu hro
            exact rg_L_demandsSo_236 (mc := 200) (ms := 1000) hX hV hL2 (by omega) (by omega) J kdq mq2 kdr9 mr2 _ _ ⟨⟨by omega, by omega⟩, ⟨by omega, by omega⟩, fun _ => last J _ _ (by omega) (by omega) hWJ hsu hro, fun z => by omega⟩
          · intro k hk ih J hWJ hsu hro
            refine rg_L_demandsSo_236 (mc := 200) (ms := 1000) hX hV hL2 (by omega) (by omega) J kdq mq2 kdr9 mr2 _ _ ⟨⟨by omega, by omega⟩, ⟨by omega, by omega⟩, fun z => by omega, fun _ => ⟨_, lw_meets hX (d + 0) hWJ hbr hk, ?_⟩⟩
            rintro _ J1 ⟨k1, rfl⟩
            have hf := hFS.1 k (by omega)
            have hbd := hWJ.bd k (by omega)
            have hv9 : 0 ≤ mtsT T9 k ∧ mtsT T9 k ≤ 99 := by omega
            refine ⟨⟨by omega, by omega⟩, x99 hv9, fun J2 e2 => ?_⟩
            have hV2 : keepV 0 J J2 := by rw [e2]; exact (keepV.id9.C k1).xu nwr
            have hW2 := hWJ.k0 hV2
            have ro2 : ∀ e, e < k + 1 → J2 r e = mtsT T9 e := by
              intro e he
              rw [tnN] at e2
              by_cases hek : e = k
              · rw [hek, e2, xu_same]
              · rw [e2, xu_k hek, k1.q gr]; exact hro e (by omega)
            have := ih J2 hW2 (fun y hy => by rw [e2, xu_p hqr, k1.q gq]; exact hsu y hy) ro2
            rw [Int.natCast_add] at this
            obtain ⟨-, -, e3, -, -, -, e7⟩ := hW2.2.2.1
            obtain ⟨-, f2, f3, -⟩ := e7 k hk
            refine ⟨(fun z => by cases z), fun _ => ⟨⟨by omega, by omega⟩, e3, fun z => ?_, fun _ => ⟨fun z => ?_, fun _ => this⟩⟩⟩
            · rw [tnN, ro2 k (by omega), f2] at z; omega
            · rw [tnN, ro2 k (by omega), f3] at z; omega
        exact main 0 (Nat.zero_le _) _ hWz hsz (fun e he => by omega)
      -- the set that breaks them
      have s140 : ∀ (J : xIn) (T9 : NT) (kc nc : Nat), kc ≤ 80 → nc ≤ 500 → (T9.G 0).n = n → brkT T9 ≠ -1 → WS J c1 T9 lk B P m (A + 12) → (∀ y, y < n → J q y = T9.su 0 y) → V 140 [(0, xr (2, 0)), (2, xr q), (3, xi (brkT T9)), (4, xi 0), (5, xi 0)] [] (J, xst c1) kc nc := by
        intro J T9 kc nc hkc hnc hn9 hbr hWJ hsu
        obtain ⟨S, s1, s2, s3⟩ := brk_S hWJ hbr
        rw [s1]
        have j4 := hn4 hn9 hWJ
        have hp := pow2_le8 hWJ.g.2.1
        refine up_to0 (m := n) (W := fun k => V 140 [(0, xr (2, 0)), (2, xr q), (3, xi (S : Int)), (4, xi (sumE k (fun x => if S.testBit x then T9.su 0 x else 0))), (5, xi (k : Int))] [] (J, xst c1) kc nc) ?_ ?_
        · have hbs := bS_if n (T9.su 0) S
          have hbd := bSp_bd (n := n) (S := S) (fun x hx => hWJ.sb x (by omega))
          refine rg_L_demandsSo_140 (mc := 200) (ms := 1000) hX hV hL1 (by omega) (by omega) J kdq mq _ _ _ ⟨⟨by omega, by omega⟩, fun _ => ⟨_, lc_out hX (d + 5) hL1 hWJ.2.2.1 hWJ.uv rfl (w := 3) (W := 3) rfl (by omega) (by decide), ?_⟩, fun z => by omega⟩
          rintro _ _ ⟨rfl, rfl⟩
          refine ⟨_, lc_into hX (d + 5) hL1 hWJ.2.2.1 hWJ.uv rfl (w := 2) (W := 2) rfl (by omega) (by decide), ?_⟩
          rintro _ _ ⟨rfl, rfl⟩
          obtain ⟨o1, o2, o3, o4⟩ := out_e hWJ S
          obtain ⟨i1, i2, i3, i4⟩ := sum_in hWJ S
          unfold brkP at s3
          rw [Bool.or_eq_true] at s3
          rw [hn9, hbs] at s3
          rw [o1, o4]
          refine ⟨⟨by omega, by omega⟩, ⟨by omega, by omega⟩, fun _ => fin1 _ T9 hWJ, fun hge => ⟨_, lc_out hX (d + 5) hL1 hWJ.2.2.1 hWJ.uv rfl (w := 2) (W := 2) rfl (by omega) (by decide), ?_⟩⟩
          rintro _ _ ⟨rfl, rfl⟩
          refine ⟨_, lc_into hX (d + 5) hL1 hWJ.2.2.1 hWJ.uv rfl (w := 3) (W := 3) rfl (by omega) (by decide), ?_⟩
          rintro _ _ ⟨rfl, rfl⟩
          rw [o2, o3]
          refine ⟨⟨by omega, by omega⟩, fun z => ?_, fun _ => fin1 _ T9 hWJ⟩
          rcases s3 with s3 | s3
          · have := of_decide_eq_true s3; omega
          · have := of_decide_eq_true s3; omega
        · intro k hk ih
          rw [Int.natCast_add] at ih
          refine rg_L_demandsSo_140 (mc := 200) (ms := 1000) hX hV hL1 (by omega) (by omega) J kdq mq _ _ _ ⟨⟨by omega, by omega⟩, fun z => by omega, fun _ => ⟨_, lc_has hX (d + 8) rfl rfl (by omega) (by omega), ?_⟩⟩
          rintro _ _ ⟨rfl, rfl⟩
          refine ⟨fun hb => ?_, fun hb => ⟨⟨by omega, by omega⟩, fun x30 h30 => ?_⟩⟩
          · rw [sumE, hb] at ih
            exact ih
          · rw [tnN, hsu k hk] at h30
            rw [sumE, hb] at ih
            rw [h30]
            exact ih
      have s74 : ∀ k : Nat, k ≤ n → ∀ J : xIn, (∃ T9, (T9.G 0).n = n ∧ WS J c1 T9 lk B P m (A + 12) ∧ ∀ y, y < k → J q y = T9.su 0 y) → V 74 [(0, xr (2, 0)), (2, xr q), (3, xi (k : Int))] [] (J, xst c1) (kc + 6 * k) (nc + 36 * k) := by
        refine up_to (m := n) (W := fun k => ∀ J : xIn, (∃ T9, (T9.G 0).n = n ∧ WS J c1 T9 lk B P m (A + 12) ∧ ∀ y, y < k → J q y = T9.su 0 y) → V 74 [(0, xr (2, 0)), (2, xr q), (3, xi (k : Int))] [] (J, xst c1) (kc + 6 * k) (nc + 36 * k)) ?_ ?_
        · rintro J ⟨T9, hn9, hWJ, hsu⟩
          have j4 := hn4 hn9 hWJ
          refine rg_L_demandsSo_74 (mc := 200) (ms := 1000) hX hV hL1 (by omega) (by omega) J kdq mq _ ⟨⟨by omega, by omega⟩, fun _ => ⟨_, lw_holds hX (d + 0) hWJ, ?_⟩, fun z => by omega⟩
          rintro _ J1 ⟨k1, rfl⟩
          have hW1 := hWJ.keepC k1
          have hsu1 : ∀ y, y < n → J1 q y = T9.su 0 y := fun y hy => by rw [k1.q gq]; exact hsu y hy
          refine ⟨fun hb => ?_, fun hb => ⟨_, lw_breaks hX (d + 0) hW1 (of_decide_eq_false hb), ?_⟩⟩
          · have h21 : J1 (2, 1) 2 = (m : Int) := hW1.2.2.1.2.2.1
            refine ⟨⟨by omega, by omega⟩, fun a2 I9 e9 => ?_⟩
            rw [h21, tnN] at e9 ⊢
            rw [e9]
            exact s236 a2 J1 T9 _ _ (by omega) (by omega) hn9 (of_decide_eq_true hb) hW1 hsu1
          · rintro _ J2 ⟨k2, rfl⟩
            exact s140 J2 T9 _ _ (by omega) (by omega) hn9 (of_decide_eq_false hb) (hW1.keepC k2) (fun y hy => by rw [k2.q gq]; exact hsu1 y hy)
        · rintro k hk ih J ⟨T9, hn9, hWJ, hsu⟩
          have j4 := hn4 hn9 hWJ
          refine rg_L_demandsSo_74 (mc := 200) (ms := 1000) hX hV hL1 (by omega) (by omega) J kdq mq _ ⟨⟨by omega, by omega⟩, fun z => by omega, fun _ => ⟨_, lw_supply hX (d + 0) hWJ (x := k) (by omega) (v := 0) (by omega), ?_⟩⟩
          rintro _ J1 ⟨k1, hW1, rfl⟩
          have hb := hWJ.sb k (by omega)
          refine ⟨⟨by omega, by omega⟩, ⟨by omega, by omega⟩, fun J2 e2 => ?_⟩
          rw [tnN] at e2 ⊢
          have hW2 : WS J2 c1 (suT T9 k 0) lk B P m (A + 12) := by rw [e2]; exact hW1.k0 (keepV.id9.xu nwq)
          have hv2 : J2 q k = T9.su 0 k := by rw [e2, xu_same]
          rw [hv2]
          refine ⟨_, lw_supply hX (d + 0) hW2 (x := k) (by show k < (T9.G 0).n; omega) (v := T9.su 0 k) (by omega), ?_⟩
          rintro _ J3 ⟨k3, hW3, -⟩
          have := ih J3 ⟨suT (suT T9 k 0) k (T9.su 0 k), hn9, hW3, fun y hy => ?_⟩
          · rw [Int.natCast_add] at this
            exact this
          have e9 : (suT (suT T9 k 0) k (T9.su 0 k)).su 0 y = T9.su 0 y := by
            show upL (upL (T9.su 0) k 0) k (T9.su 0 k) y = T9.su 0 y
            by_cases hy9 : y = k
            · rw [hy9, upL_s]
            · rw [upL_n hy9, upL_n hy9]
          rw [e9, k3 _ gq3]
          by_cases hy9 : y = k
          · rw [hy9, hv2]
          · rw [e2, xu_k hy9, k1 _ gq3]
            exact hsu y (by omega)
      exact s74 0 (Nat.zero_le _) _ ⟨T0, t1, st0, fun y hy => by omega⟩
    have main : ∀ k : Nat, k ≤ n → ∀ (J : xIn) (l1 : Int), -(3 * (k : Int)) ≤ l1 → l1 ≤ 3 * (k : Int) → (∃ T9, (T9.G 0).n = n ∧ WS J c T9 lk B P m (A + 2 * k)) → V 4 [(0, xr (2, 0)), (1, xi l1), (2, xi (k : Int))] [] (J, xst c) (4 * k) (34 * k) := by
      refine up_to (m := n) (W := fun k => ∀ (J : xIn) (l1 : Int), -(3 * (k : Int)) ≤ l1 → l1 ≤ 3 * (k : Int) → (∃ T9, (T9.G 0).n = n ∧ WS J c T9 lk B P m (A + 2 * k)) → V 4 [(0, xr (2, 0)), (1, xi l1), (2, xi (k : Int))] [] (J, xst c) (4 * k) (34 * k)) ?_ ?_
      · rintro J l1 b1 b2 ⟨T9, t1, t2⟩
        have j4 := hn4 t1 t2
        refine rg_L_demandsSo_4 (mc := 200) (ms := 1000) hX hV hLA (by omega) (by omega) J _ _ ⟨⟨by omega, by omega⟩, fun _ => ⟨⟨by omega, by omega⟩, fun a1 I3 e3 => ?_⟩, fun z => by omega⟩
        rw [j4, tnN] at e3 ⊢
        rw [e3]
        exact rest J _ _ (by omega) (by omega) ⟨T9, t1, t2.le (by omega) hA⟩ a1
      · rintro k hk ih J l1 b1 b2 ⟨T9, t1, t2⟩
        have j4 := hn4 t1 t2
        have s43 : ∀ (J : xIn) (s0 : Int) (kc nc : Nat), kc ≤ 4 * k + 1 → nc ≤ 34 * k + 16 → -15 ≤ s0 → s0 ≤ 15 → -(3 * ((k : Int) + 1)) ≤ l1 + s0 → l1 + s0 ≤ 3 * ((k : Int) + 1) → (∃ T9, (T9.G 0).n = n ∧ WS J c T9 lk B P m (A + 2 * (k + 1))) → kc = 4 * k + 1 → nc = 34 * k + 16 → V 43 [(0, xr (2, 0)), (1, xi l1), (2, xi (k : Int))] [xi s0] (J, xst c) kc nc := by
          rintro J s0 kc nc g1 g2 g3 g4 g5 g6 ⟨T8, u1, u2⟩ rfl rfl
          refine rg_L_demandsSo_43 (mc := 200) (ms := 1000) hX hV hLA (by omega) (by omega) J _ _ _ ⟨_, lw_supply hX (d + 0) u2 (x := k) (by rw [u1]; exact hk) (v := s0) (by omega), ?_⟩
          rintro w J2 ⟨-, hW2, -⟩
          have := ih J2 (l1 + s0) (by omega) (by omega) ⟨suT T8 k s0, u1, by rw [Int.natCast_add]; exact hW2⟩
          rw [Int.natCast_add] at this
          exact this
        have s35 : ∀ J : xIn, (∃ T9, (T9.G 0).n = n ∧ WS J c T9 lk B P m (A + 2 * k + 1)) → V 35 [(0, xr (2, 0)), (1, xi l1), (2, xi (k : Int))] [] (J, xst c) (4 * k + 1) (34 * k + 16) := by
          rintro J ⟨T8, u1, u2⟩
          refine rg_L_demandsSo_35 (mc := 200) (ms := 1000) hX hV hLA (by omega) (by omega) J _ _ ⟨_, lc_draw hX (d + 7) hLA.1 hS ⟨u2.2.2.2.2.2.2.1, by have := u2.2.2.2.2.2.2.2.1; omega⟩ ⟨by decide, by decide⟩, ?_⟩
          rintro v J2 ⟨hv, k2⟩
          exact s43 J2 (v - 3) _ _ (by omega) (by omega) (by omega) (by omega) (by omega) (by omega) ⟨T8, u1, (u2.keep k2.V (by omega)).le (by omega) (by omega)⟩ rfl rfl
        refine rg_L_demandsSo_4 (mc := 200) (ms := 1000) hX hV hLA (by omega) (by omega) J _ _ ⟨⟨by omega, by omega⟩, fun z => by omega, fun _ => ⟨⟨by omega, by omega⟩, fun _ => s35 J ⟨T9, t1, t2.le (by omega) (by omega)⟩, fun hk9 => ⟨_, lc_draw hX (d + 7) hLA.1 hS ⟨t2.2.2.2.2.2.2.1, by have := t2.2.2.2.2.2.2.2.1; omega⟩ ⟨by decide, by decide⟩, ?_⟩⟩⟩
        rintro v J2 ⟨hv, k2⟩
        have u2 := t2.keep k2.V (by omega)
        refine ⟨⟨by omega, by omega⟩, fun _ => s35 J2 ⟨T9, t1, u2⟩, fun _ => s43 J2 (-l1) _ _ (by omega) (by omega) (by omega) (by omega) (by omega) (by omega) ⟨T9, t1, u2.le (by omega) (by omega)⟩ rfl rfl⟩
    refine rg_L_demandsSo_0 (mc := 200) (ms := 1000) hX hV hLA (by omega) (by omega) I (main 0 (Nat.zero_le _) I 0 (by omega) (by omega) ?_)
    obtain ⟨T9, t1, t2⟩ := hW0
    exact ⟨T9, t1, t2.le (by omega) (by omega)⟩
  · rintro o h9 ⟨rfl, J, a1, a2, hJ, rfl | rfl⟩
    · refine ⟨_, xLe_ad (I := I) hLA.1.1 hLA.frI (fun k => hI _ _), fun r hr => ?_, _, rfl, Or.inl ⟨_, rfl, rfl, hJ.rest (nwP_I hLA.1)⟩⟩
      cases hr; rfl
    · have hL1 : LA (cAd c (pI n b) a1) m (b + 1) := hLA.adI (by omega)
      refine ⟨_, (xLe_ad (I := I) hL1.1.1 hL1.frI (fun k => hI _ _)).tr (xLe_ad (I := I) hLA.1.1 hLA.frI (fun k => hI _ _)), fun r hr => ?_, _, rfl, Or.inl ⟨_, rfl, rfl, (hJ.rest (nwP_I hL1.1)).rest (nwP_I hLA.1)⟩⟩
      cases hr; rfl
end SO
