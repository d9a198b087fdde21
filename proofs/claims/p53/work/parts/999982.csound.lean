/-! the class: the tree is sound, the row of pairs is, the table is -/
section SNT
variable {X : xX} {c : xCx} {I : xIn} {i n : Nat} {G : Gr} {f : Nat → Int}
theorem tr_grow3 (hX : xBase X) (d : Nat) (hT : TSum I n f) (hn2 : 2 ≤ n) (hn : n ≤ 8) (hf : ∀ S, 0 ≤ f S ∧ f S ≤ 3200) : xRet rU X m_X8_grow (d + 3) [xr (0, 16)] c I 0 0 (fun _ I9 => kp [(0, 18), (0, 19)] I I9 ∧ GROWN I9 n f) xNo := by
  refine xRet_of hX pl_X8_grow (LE1 rfl) fun V hV => rg_X8_grow_0 hV I ?_
  refine up_to0 (m := n) (W := fun k => ∀ J, kp [(0, 18), (0, 19)] I J → (∀ x, x < k → J (0, 18) x = 0) → V 2 [(0, xr (0, 16)), (1, xi (k : Int))] [] (J, xst c) 0 0) ?_ ?_ I kp.rfl (fun x hx => absurd hx (Nat.not_lt_zero x))
  · intro J kJ hJ
    have h16 : J (0, 16) 0 = (n : Int) := by rw [kJ _ (by decide)]; exact hT.1
    refine rg_X8_grow_2 hV J _ ⟨⟨by omega, by omega⟩, fun _ => ?_, fun h => by omega⟩
    have main : ∀ j, j ≤ n - 1 → (∀ K, kp [(0, 18), (0, 19)] I K → (∀ x, x < n → K (0, 18) x = (grP f n (n - 1 - j) x : Int)) → (∀ x, 1 ≤ x → x < n - j → K (0, 19) x = wgF f n x) → V 32 [(0, xr (0, 16)), (1, xi ((n - j : Nat) : Int))] [] (K, xst c) 0 0) := by
      intro j
      induction j with
      | zero =>
        intro _ K kK h1 h2
        have h16 : K (0, 16) 0 = (n : Int) := by rw [kK _ (by decide)]; exact hT.1
        exact rg_X8_grow_32 hV K _ ⟨⟨by omega, by omega⟩, fun _ => ⟨kK, h1, h2⟩, fun h => by omega⟩
      | succ j ih =>
        intro hj K kK h1 h2
        have ih := ih (by omega)
        have h16 : K (0, 16) 0 = (n : Int) := by rw [kK _ (by decide)]; exact hT.1
        obtain ⟨cc, hcc⟩ : ∃ cc, cc = n - (j + 1) := ⟨_, rfl⟩
        rw [← hcc] at h2 ⊢
        rw [show n - 1 - (j + 1) = cc - 1 by omega] at h1
        rw [show n - 1 - j = cc by omega, show n - j = cc + 1 by omega] at ih
        have hcn : cc < n := by omega
        have hc1 : 1 ≤ cc := by omega
        have hp := grP_lt f n (cc - 1) hc1
        have hlb := lbF_bd hf hcn (show cc ≠ grP f n (cc - 1) cc by omega)
        have hTK := hT.k9 kK (by decide) (by decide)
        refine rg_X8_grow_32 hV K _ ⟨⟨by omega, by omega⟩, fun h => by omega, fun _ => ⟨⟨by omega, by omega⟩, ?_⟩⟩
        rw [tnN, h1 cc hcn]
        rintro _ rfl
        refine ⟨_, tr_leastCut hX d hTK hn hf hcn (by omega) (by omega), ?_⟩
        rintro _ K ⟨rfl, rfl⟩
        refine ⟨⟨by omega, by omega⟩, ?_⟩
        rintro K2 e2
        have r19 : K2 (0, 19) cc = lbF f n cc (grP f n (cc - 1) cc) := by rw [e2, xu_same]
        have k2 : kp [(0, 19)] K K2 := by rw [e2]; exact kp.rfl.xu (by simp)
        rw [r19]
        refine ⟨_, tr_sideInAll hX d (hTK.k9 k2 (by decide) (by decide)) hn hf hcn (by omega) (by omega), ?_⟩
        rintro _ K2 ⟨rfl, rfl⟩
        have hw2 : ∀ x, 1 ≤ x → x < cc + 1 → K2 (0, 19) x = wgF f n x := fun x hx1 hx2 => by
          by_cases hxc : x = cc
          · rw [hxc, r19]; rfl
          · rw [e2, xuL, upL_n hxc]; exact h2 x hx1 (by omega)
        have h18 : ∀ x, x < n → K2 (0, 18) x = (grP f n (cc - 1) x : Int) := fun x hx => by rw [k2 _ (by decide)]; exact h1 x hx
        have kK2 : kp [(0, 18), (0, 19)] I K2 := kK.tr (k2.mo (by simp))
        have hgs : ∀ x, grP f n cc x = if cc < x ∧ grP f n (cc - 1) x = grP f n (cc - 1) cc ∧ (sdF f n cc (grP f n (cc - 1) cc)).testBit x = true then cc else grP f n (cc - 1) x := fun x => by
          have := grP_s f n (cc - 1) x
          rw [show cc - 1 + 1 = cc by omega] at this
          exact this
        have hsd : sdF f n cc (grP f n (cc - 1) cc) ≤ 255 := andF_le _ _
        clear e2 r19
        refine up_to (m := n) (W := fun k => cc < k → ∀ L, kp [(0, 18)] K2 L → (∀ x, x < n → L (0, 18) x = ((if x < k then grP f n cc x else grP f n (cc - 1) x : Nat) : Int)) → V 77 [(0, xr (0, 16)), (1, xi (cc : Int)), (2, xi (grP f n (cc - 1) cc : Int)), (3, xi ((sdF f n cc (grP f n (cc - 1) cc) : Nat) : Int)), (4, xi (k : Int))] [] (L, xst c) 0 0) ?_ ?_ (cc + 1) (by omega) (Nat.lt_succ_self _) K2 kp.rfl (fun x hx => ?_)
        · intro _ L kL hL
          have h16 : L (0, 16) 0 = (n : Int) := by rw [kL _ (by decide), kK2 _ (by decide)]; exact hT.1
          refine rg_X8_grow_77 hV L _ _ _ _ ⟨⟨by omega, by omega⟩, fun _ => ih L (kK2.tr (kL.mo (by simp))) (fun x hx => ?_) (fun x hx1 hx2 => ?_), fun h => by omega⟩
          · rw [hL x hx, if_pos hx]
          · rw [kL _ (by decide)]; exact hw2 x hx1 hx2
        · intro k hk ih2 hck L kL hL
          have ih2 := ih2 (by omega)
          have h16 : L (0, 16) 0 = (n : Int) := by rw [kL _ (by decide), kK2 _ (by decide)]; exact hT.1
          have lk := hL k hk
          rw [if_neg (Nat.lt_irrefl _)] at lk
          have lt1 := grP_lt f n (cc - 1) (show 1 ≤ k by omega)
          have hkk := hgs k
          have nxt : ∀ L9, kp [(0, 18)] K2 L9 → L9 (0, 18) = upL (L (0, 18)) k (grP f n cc k : Int) → V 77 [(0, xr (0, 16)), (1, xi (cc : Int)), (2, xi (grP f n (cc - 1) cc : Int)), (3, xi ((sdF f n cc (grP f n (cc - 1) cc) : Nat) : Int)), (4, xi ((k : Int) + 1))] [] (L9, xst c) 0 0 := fun L9 kL9 e9 => by
            refine ih2 L9 kL9 fun x hx => ?_
            rw [e9]
            by_cases hxk : x = k
            · rw [hxk, upL_s, if_pos (Nat.lt_succ_self _)]
            · rw [upL_n hxk, hL x hx]
              by_cases h9 : x < k
              · rw [if_pos h9, if_pos (by omega)]
              · rw [if_neg h9, if_neg (by omega)]
          have same : grP f n cc k = grP f n (cc - 1) k → V 77 [(0, xr (0, 16)), (1, xi (cc : Int)), (2, xi (grP f n (cc - 1) cc : Int)), (3, xi ((sdF f n cc (grP f n (cc - 1) cc) : Nat) : Int)), (4, xi ((k : Int) + 1))] [] (L, xst c) 0 0 := fun h => nxt L kL (by rw [h, ← lk, upL_id])
          refine rg_X8_grow_77 hV L _ _ _ _ ⟨⟨by omega, by omega⟩, fun h => by omega, fun _ => ⟨⟨by omega, by omega⟩, ⟨by omega, by omega⟩, ?_⟩⟩
          rw [tnN, lk]
          refine ⟨fun h => same (by rw [hkk, if_neg (by omega)]), fun h => ⟨_, cn_hasBit hX (d + 2) (by omega) (by omega), ?_⟩⟩
          rintro _ L ⟨rfl, rfl⟩
          refine ⟨fun z => same (by rw [hkk, if_neg (by rw [z]; intro q; cases q.2.2)]), fun z => ⟨⟨by omega, by omega⟩, ?_⟩⟩
          rintro L2 e2
          refine nxt L2 (by rw [e2]; exact kL.xu (by simp)) ?_
          rw [e2, xuL, hkk, if_pos ⟨by omega, by omega, z⟩]
        · rw [h18 x hx]
          by_cases hxc : x < cc + 1
          · rw [if_pos hxc, hgs x, if_neg (by omega)]
          · rw [if_neg hxc]
    have := main (n - 1) (Nat.le_refl _) J kJ (fun x hx => by rw [Nat.sub_self, hJ x hx]; rfl) (fun x h1 h2 => by omega)
    rw [show n - (n - 1) = 1 by omega] at this
    exact this
  · intro k hk ih J kJ hJ
    have h16 : J (0, 16) 0 = (n : Int) := by rw [kJ _ (by decide)]; exact hT.1
    refine rg_X8_grow_2 hV J _ ⟨⟨by omega, by omega⟩, fun h => by omega, fun _ => ⟨⟨by omega, by omega⟩, ?_⟩⟩
    rw [tnN]
    rintro J2 e2 J3 e3
    refine ih J3 (by rw [e3, e2]; exact (kJ.xu (by simp)).xu (by simp)) fun x hx => ?_
    rw [e3, xu_p (by decide), e2, xuL]
    by_cases hxk : x = k
    · rw [hxk, upL_s]
    · rw [upL_n hxk]; exact hJ x (by omega)
theorem tr_leastOnWay (hX : xBase X) (d : Nat) (h : SMD f n) (hn : n ≤ 8) (hg : GROWN I n f) {a b : Nat} (ha : a < n) (hb : b < n) (hab : a ≠ b) : xRet rI X m_X8_leastOnWay d [xr (0, 16), xi (a : Int), xi (b : Int)] c I 0 0 (pv (lbF f n a b) I) xNo := by
  obtain ⟨g1, g2⟩ := hg
  have hbd := fun (a b : Nat) (ha : a < n) (hab : a ≠ b) => lbF_bd (n := n) (fun S => h.1 S) ha hab
  refine xRet_of hX pl_X8_leastOnWay (LE1 rfl) fun V hV => rg_X8_leastOnWay_0 hV I _ _ ?_
  have loop : ∀ fuel (x y : Nat) (l : Int) (q : Nat), x + y ≤ fuel → x < n → y < n → x + y + q ≤ 15 → -10000 ≤ l ∧ l ≤ 1000000000 → (if x = y then l else min l (lbF f n x y)) = lbF f n a b → V 12 [(0, xr (0, 16)), (3, xi l), (4, xi (x : Int)), (5, xi (y : Int)), (6, xi (q : Int))] [] (I, xst c) 0 0 := by
    intro fuel
    induction fuel with
    | zero =>
      intro x y l q hf hx hy hq hl hv
      rw [if_pos (by omega)] at hv
      exact rg_X8_leastOnWay_12 hV I _ _ _ _ ⟨⟨by omega, by omega⟩, fun h => by omega, fun _ => ⟨⟨by omega, by omega⟩, ⟨by omega, by omega⟩, fun _ => pvI hv, fun h => by omega⟩⟩
    | succ fuel ih =>
      intro x y l q hf hx hy hq hl hv
      by_cases hxy : x = y
      · rw [if_pos hxy] at hv
        exact rg_X8_leastOnWay_12 hV I _ _ _ _ ⟨⟨by omega, by omega⟩, fun h => by omega, fun _ => ⟨⟨by omega, by omega⟩, ⟨by omega, by omega⟩, fun _ => pvI hv, fun h => by omega⟩⟩
      rw [if_neg hxy] at hv
      -- from the upper one, up
      have up : ∀ u w : Nat, u < n → w < u → (∀ z : Int, z = min l (wgF f n u) → -10000 ≤ z → z ≤ 1000000000 → (if parF f n u = w then z else min z (lbF f n (parF f n u) w)) = lbF f n a b → V 64 [(0, xr (0, 16)), (4, xi (x : Int)), (5, xi (y : Int)), (6, xi (q : Int)), (7, xi (u : Int))] [xi z] (I, xst c) 0 0) → min l (lbF f n u w) = lbF f n a b → V 40 [(0, xr (0, 16)), (3, xi l), (4, xi (x : Int)), (5, xi (y : Int)), (6, xi (q : Int))] [xi (u : Int)] (I, xst c) 0 0 := by
        intro u w hu hw hgo hv9
        obtain ⟨p1, p2, p3⟩ := way_up h hn hu hw
        have hwg : wgF f n u = lbF f n u (grP f n (u - 1) u) := rfl
        have hw9 := hbd u (grP f n (u - 1) u) hu (by have := grP_lt f n (u - 1) (x := u) (by omega); omega)
        rw [← hwg] at hw9
        have hlast : (if parF f n u = w then min l (wgF f n u) else min (min l (wgF f n u)) (lbF f n (parF f n u) w)) = lbF f n a b := by
          by_cases hc : parF f n u = w
          · rw [if_pos hc, ← p2 hc]; exact hv9
          · rw [if_neg hc]
            have := p3 hc
            omega
        have hgu := g2 u (by omega) hu
        refine rg_X8_leastOnWay_40 hV I _ _ _ _ _ ⟨⟨by omega, by omega⟩, ⟨by omega, by omega⟩, fun h9 => hgo _ ?_ (by omega) (by omega) ?_, fun h9 => ?_⟩
        · rw [tnN, hgu] at h9; omega
        · rw [tnN, hgu] at h9
          rw [show l = min l (wgF f n u) by omega]
          exact hlast
        · rw [tnN, hgu] at h9 ⊢
          refine hgo _ (by omega) (by omega) (by omega) ?_
          rw [show wgF f n u = min l (wgF f n u) by omega]
          exact hlast
      have hpar := fun u (hu : u < n) => g1 u hu
      refine rg_X8_leastOnWay_12 hV I _ _ _ _ ⟨⟨by omega, by omega⟩, fun h => by omega, fun _ => ⟨⟨by omega, by omega⟩, ⟨by omega, by omega⟩, fun h => by omega, fun _ => ⟨fun h9 => ?_, fun h9 => ?_⟩⟩⟩
      · have hlt : x < y := by omega
        rw [lam_sym h hx hy hxy] at hv
        obtain ⟨p1, -, -⟩ := way_up h hn hy hlt
        refine up y x hy hlt (fun z hz z1 z2 hz9 => ?_) hv
        refine rg_X8_leastOnWay_64 hV I _ _ _ _ _ ⟨⟨by omega, by omega⟩, ⟨by omega, by omega⟩, fun _ => rg_X8_leastOnWay_84 hV I _ _ _ _ _ ⟨⟨by omega, by omega⟩, ⟨by omega, by omega⟩, fun h => absurd rfl h, fun _ => ⟨⟨by omega, by omega⟩, ?_⟩⟩, fun h => by omega⟩
        rintro _ rfl
        rw [tnN, hpar y hy]
        refine ih x (parF f n y) z (q + 1) (by omega) hx (by omega) (by omega) ⟨by omega, by omega⟩ ?_
        rw [← hz9]
        by_cases hc : parF f n y = x
        · rw [if_pos hc, if_pos hc.symm]
        · rw [if_neg hc, if_neg (Ne.symm hc), lam_sym h hx (by omega) (Ne.symm hc)]
      · have hlt : y < x := by omega
        obtain ⟨p1, -, -⟩ := way_up h hn hx hlt
        refine up x y hx hlt (fun z hz z1 z2 hz9 => ?_) hv
        refine rg_X8_leastOnWay_64 hV I _ _ _ _ _ ⟨⟨by omega, by omega⟩, ⟨by omega, by omega⟩, fun h => absurd rfl h, fun _ => ⟨⟨by omega, by omega⟩, ?_⟩⟩
        rw [tnN, hpar x hx]
        refine rg_X8_leastOnWay_84 hV I _ _ _ _ _ ⟨⟨by omega, by omega⟩, ⟨by omega, by omega⟩, fun _ => ?_, fun h => by omega⟩
        exact ih (parF f n x) y z (q + 1) (by omega) (by omega) hy (by omega) ⟨by omega, by omega⟩ hz9
  have hlab := hbd a b ha hab
  exact loop (a + b) a b 1000000000 0 (by omega) ha hb (by omega) (by omega) (by rw [if_neg hab]; omega)
end SNT
section SNU
variable {X : xX} {c : xCx} {I : xIn} {i : Nat} {G : Gr}
theorem cn_isTreeSound (hX : xBase X) (d : Nat) (hC : CG I c i G) (hN : NB I i G.m) : xRet rB X m_X9_isTreeSound (d + 4) [xr (0, 0), xr (i + 3, 0)] c I 0 0 (fun v I9 => v = true ∧ kp [(0, 15), (0, 16), (0, 17), (0, 18), (0, 19)] I I9) xNo := by
  obtain ⟨c1, c2, c3, hG, c5⟩ := id hC
  have hn8 := hG.2.1
  have hs := bth_smd hG (hi := I (i + 3, 4)) (fun e he => by have := hN e he; omega)
  refine xRet_of hX pl_X9_isTreeSound (LE1 rfl) fun V hV => rg_X9_isTreeSound_0 hV I i c1 ⟨_, tr_measure hX (d + 1) hC hN, ?_⟩
  rintro _ J ⟨k1, -, hT⟩
  refine ⟨_, tr_grow3 hX d hT hG.1 hn8 (fun S => hs.1 S), ?_⟩
  rintro _ K ⟨k2, hg⟩
  have kk : kp [(0, 15), (0, 16), (0, 17), (0, 18), (0, 19)] I K := (k1.mo (by simp)).tr (k2.mo (by simp))
  have hTK := hT.k9 k2 (by decide) (by decide)
  have k0 : K (i + 3, 0) 0 = (G.n : Int) := by rw [kk (i + 3, 0) (by simp)]; exact c2
  refine up_to0 (m := G.n) (W := fun a => V 21 [(0, xr (0, 0)), (1, xr (i + 3, 0)), (2, xi (a : Int))] [] (K, xst c) 0 0) ?_ ?_
  · refine rg_X9_isTreeSound_21 hV K i c1 _ ?_
    rw [k0]
    exact ⟨⟨by omega, by omega⟩, fun _ => ⟨rfl, kk⟩, fun h => by omega⟩
  · intro a ha ih
    refine rg_X9_isTreeSound_21 hV K i c1 _ ?_
    rw [k0]
    refine ⟨⟨by omega, by omega⟩, fun h => by omega, fun _ => ?_⟩
    have inner : ∀ fuel b, G.n ≤ b + fuel → a < b → b ≤ G.n → V 33 [(0, xr (0, 0)), (1, xr (i + 3, 0)), (2, xi (a : Int)), (3, xi (b : Int))] [] (K, xst c) 0 0 := by
      intro fuel
      induction fuel with
      | zero =>
        intro b h1 h2 h3
        refine rg_X9_isTreeSound_33 hV K i c1 _ _ ?_
        rw [k0]
        exact ⟨⟨by omega, by omega⟩, fun _ => ih, fun h => by omega⟩
      | succ fuel ih2 =>
        intro b h1 h2 h3
        refine rg_X9_isTreeSound_33 hV K i c1 _ _ ?_
        rw [k0]
        refine ⟨⟨by omega, by omega⟩, fun _ => ih, fun h => ⟨_, tr_leastOnWay hX (d + 3) hs hn8 hg ha (by omega) (by omega), ?_⟩⟩
        rintro _ K ⟨rfl, rfl⟩
        refine ⟨_, tr_leastCut hX (d + 1) hTK hn8 (fun S => hs.1 S) ha (by omega) (by omega), ?_⟩
        rintro _ K ⟨rfl, rfl⟩
        have hb9 := lbF_bd (n := G.n) (fun S => hs.1 S) ha (show a ≠ b by omega)
        exact ⟨⟨by omega, by omega⟩, ⟨by omega, by omega⟩, fun _ => ih2 (b + 1) (by omega) (by omega) (by omega), fun h => absurd rfl h⟩
    exact inner G.n (a + 1) (by omega) (by omega) (by omega)
end SNU
section SNV
variable {X : xX} {c : xCx} {I : xIn} {B : TB} {lk : Nat → Nat}
theorem tb_isNear (hX : xBase X) (d : Nat) {s e : Int} (h : nearv s e) (he : 0 ≤ e ∧ e ≤ 100000) : xRet rB X m_X7_isNear d [xi s, xi e] c I 0 0 (pv true I) xNo := by
  unfold nearv at h
  refine xRet_of hX pl_X7_isNear (LE1 rfl) fun V hV => rg_X7_isNear_0 hV I _ _ ⟨⟨by omega, by omega⟩, ⟨by omega, by omega⟩, ⟨by omega, by omega⟩, fun _ => pvI rfl, fun h2 => ⟨⟨by omega, by omega⟩, ⟨by omega, by omega⟩, fun h3 => by omega, fun _ => pvI rfl⟩⟩
theorem tb_sumOfTenths (hX : xBase X) (d : Nat) (h1 : I (0, 27) 1 = (B.k : Int)) (hk : B.k ≤ 4) (hB : ∀ p, p < 16 → I (0, 28) p = B.te p) {a n b m : Nat} (ha : a + n ≤ 4) (hb : b + m ≤ B.k) : xRet rI X m_X7_sumOfTenths (d + 1) [xr (0, 27), xi (a : Int), xi ((a + n : Nat) : Int), xi (b : Int), xi ((b + m : Nat) : Int)] c I 0 0 (pv (sumE n (fun x => sumE m (fun y => B.te ((a + x) * B.k + (b + y))))) I) xNo := by
  refine xRet_of hX pl_X7_sumOfTenths (LE1 rfl) fun V hV => rg_X7_sumOfTenths_0 hV I _ _ _ _ ?_
  refine up_to0 (m := n) (W := fun x => V 6 [(0, xr (0, 27)), (2, xi ((a + n : Nat) : Int)), (3, xi (b : Int)), (4, xi ((b + m : Nat) : Int)), (5, xi (sumE x (fun x => sumE m (fun y => B.te ((a + x) * B.k + (b + y)))))), (6, xi ((a + x : Nat) : Int))] [] (I, xst c) 0 0) ?_ ?_
  · exact rg_X7_sumOfTenths_6 hV I _ _ _ _ _ ⟨⟨by omega, by omega⟩, ⟨by omega, by omega⟩, fun _ => pvI rfl, fun h => by omega⟩
  · intro x hx ih
    refine rg_X7_sumOfTenths_6 hV I _ _ _ _ _ ⟨⟨by omega, by omega⟩, ⟨by omega, by omega⟩, fun h => by omega, fun _ => ?_⟩
    have w : (fun y => V 15 [(0, xr (0, 27)), (2, xi ((a + n : Nat) : Int)), (3, xi (b : Int)), (4, xi ((b + m : Nat) : Int)), (5, xi (sumE x (fun x => sumE m (fun y => B.te ((a + x) * B.k + (b + y)))) + sumE y (fun y => B.te ((a + x) * B.k + (b + y))))), (6, xi ((a + x : Nat) : Int)), (7, xi ((b + y : Nat) : Int))] [] (I, xst c) 0 0) 0 := by
      refine up_to0 (m := m) (W := fun y => V 15 [(0, xr (0, 27)), (2, xi ((a + n : Nat) : Int)), (3, xi (b : Int)), (4, xi ((b + m : Nat) : Int)), (5, xi (sumE x (fun x => sumE m (fun y => B.te ((a + x) * B.k + (b + y)))) + sumE y (fun y => B.te ((a + x) * B.k + (b + y))))), (6, xi ((a + x : Nat) : Int)), (7, xi ((b + y : Nat) : Int))] [] (I, xst c) 0 0) ?_ ?_
      · refine rg_X7_sumOfTenths_15 hV I _ _ _ _ _ _ ⟨⟨by omega, by omega⟩, ⟨by omega, by omega⟩, fun _ => ?_, fun h => by omega⟩
        rw [show ((a + x : Nat) : Int) + 1 = ((a + (x + 1) : Nat) : Int) by omega]
        exact ih
      · intro y hy ih2
        have hcell : (a + x) * B.k + (b + y) < 4 * B.k := cell_lt (by omega) (by omega)
        refine rg_X7_sumOfTenths_15 hV I _ _ _ _ _ _ ⟨⟨by omega, by omega⟩, ⟨by omega, by omega⟩, fun h => by omega, fun _ => ⟨_, tb_place hX d h1, ?_⟩⟩
        rintro _ J ⟨rfl, rfl⟩
        refine ⟨⟨by omega, by omega⟩, ?_⟩
        rintro _ rfl
        rw [tnN, hB _ (by omega), show ((b + y : Nat) : Int) + 1 = ((b + (y + 1) : Nat) : Int) by omega]
        have e : sumE (y + 1) (fun y => B.te ((a + x) * B.k + (b + y))) = sumE y (fun y => B.te ((a + x) * B.k + (b + y))) + B.te ((a + x) * B.k + (b + y)) := rfl
        rw [e, ← Int.add_assoc] at ih2
        exact ih2
    have e : sumE 0 (fun y => B.te ((a + x) * B.k + (b + y))) = 0 := rfl
    have w9 := w
    dsimp only at w9
    rw [e, Int.add_zero] at w9
    exact w9
theorem tb_isRounded (hX : xBase X) (d : Nat) (hB : TBok B) (hC : CTB I B) (hw : ∀ p, p < B.r * B.k → I (0, 29) p = rndT B.r B.k B.te p) : xRet rB X m_X7_isRounded (d + 2) [xr (0, 27)] c I 0 0 (fun v I9 => v = true ∧ kpT I I9) xNo := by
  obtain ⟨c0, c1, c2⟩ := id hC
  obtain ⟨⟨hr1, hr⟩, ⟨hk1, hk⟩, ht⟩ := id hB
  have hrk := rk16 hr hk
  have hte : ∀ p, p < B.r * B.k → 0 ≤ B.te p ∧ B.te p ≤ 999 := fun p hp => ht p (by omega)
  have hg : GoodT B.r B.k B.te (I (0, 29)) := good_cong (fun p hp => (hw p hp).symm) (rnd_good hte hr hk)
  obtain ⟨z1, z2, z3, z4⟩ := hg
  have hwb : ∀ p, p < B.r * B.k → -2000 ≤ I (0, 29) p ∧ I (0, 29) p ≤ 2000 := fun p hp => by
    have := z1 p hp
    have := hte p hp
    unfold nearv at *
    omega
  have hnn := fil_nn hte hr hk
  have hrow : ∀ x, x < B.r → 0 ≤ rsT B.k B.te x ∧ rsT B.k B.te x ≤ 100000 := fun x hx => by
    have := hnn (B.r * B.k + x) (show _ < B.r * B.k + B.r + B.k + 1 by omega)
    rw [fil_2 B.te hx] at this
    omega
  have hcol : ∀ y, y < B.k → 0 ≤ csT B.r B.k B.te y ∧ csT B.r B.k B.te y ≤ 100000 := fun y hy => by
    have := hnn (B.r * B.k + B.r + y) (show _ < B.r * B.k + B.r + B.k + 1 by omega)
    rw [fil_3 B.te hy] at this
    omega
  have hall : 0 ≤ sumE (B.r * B.k) B.te ∧ sumE (B.r * B.k) B.te ≤ 100000 := by
    have := hnn (B.r * B.k + B.r + B.k) (show _ < B.r * B.k + B.r + B.k + 1 by omega)
    rw [fil_4] at this
    omega
  refine xRet_of hX pl_X7_isRounded (LE1 rfl) fun V hV => rg_X7_isRounded_0 hV I ?_
  -- behind the cells
  have sums : ∃ (P2 : Unit → xIn → Prop), xRet rU X m_X7_addUp (d + 1) [xr (0, 27), xr (0, 29)] c I 0 0 P2 xNo ∧ (∀ (_ : Unit) (I3 : xIn), P2 () I3 → V 65 [(0, xr (0, 27)), (1, xi (I3 (0, 27) 6)), (2, xi 0)] [] (I3, xst c) 0 0) := by
    refine ⟨_, tb_addUp hX d hr hk1 hk c0 c1 (q := (0, 29)) rfl (lvm0 c.1 (by decide)) (by decide) hwb, ?_⟩
    rintro _ J ⟨kJ, j27, j6, j30, j31⟩
    have kT : kpT I J := ⟨kJ.mo (by simp), j27⟩
    have q0 : J (0, 27) 0 = (B.r : Int) := by rw [j27 0 (by decide)]; exact c0
    have q1 : J (0, 27) 1 = (B.k : Int) := by rw [j27 1 (by decide)]; exact c1
    have q28 : ∀ p, p < 16 → J (0, 28) p = B.te p := fun p hp => by rw [kJ _ (by simp)]; exact c2 p hp
    -- columns
    have cols : V 108 [(0, xr (0, 27)), (1, xi (J (0, 27) 6)), (2, xi 0)] [] (J, xst c) 0 0 := by
      refine up_to0 (m := B.k) (W := fun y => V 108 [(0, xr (0, 27)), (1, xi (J (0, 27) 6)), (2, xi (y : Int))] [] (J, xst c) 0 0) ?_ ?_
      · refine rg_X7_isRounded_108 hV J _ _ ?_
        rw [q0, q1]
        refine ⟨⟨by omega, by omega⟩, fun _ => ?_, fun h => by omega⟩
        have hst := tb_sumOfTenths (c := c) hX d q1 hk q28 (a := 0) (n := B.r) (b := 0) (m := B.k) (by omega) (by omega)
        rw [Nat.zero_add, Nat.zero_add] at hst
        refine ⟨_, hst, ?_⟩
        rintro _ J ⟨rfl, rfl⟩
        have e1 : sumE B.r (fun x => sumE B.k (fun y => B.te ((0 + x) * B.k + (0 + y)))) = sumE (B.r * B.k) B.te := by
          rw [sumE_grid]
          refine sumE_cong fun x _ => sumE_cong fun y _ => ?_
          rw [Nat.zero_add, Nat.zero_add]
        rw [e1, j6]
        refine ⟨_, tb_isNear hX (d + 1) z4 hall, ?_⟩
        rintro _ J ⟨rfl, rfl⟩
        exact ⟨rfl, kT⟩
      · intro y hy ih
        refine rg_X7_isRounded_108 hV J _ _ ?_
        rw [q0, q1]
        refine ⟨⟨by omega, by omega⟩, fun h => by omega, fun _ => ⟨⟨by omega, by omega⟩, ?_⟩⟩
        have hst := tb_sumOfTenths (c := c) hX d q1 hk q28 (a := 0) (n := B.r) (b := y) (m := 1) (by omega) (by omega)
        rw [Nat.zero_add] at hst
        refine ⟨_, hst, ?_⟩
        rintro _ J ⟨rfl, rfl⟩
        have e1 : sumE B.r (fun x => sumE 1 (fun y9 => B.te ((0 + x) * B.k + (y + y9)))) = csT B.r B.k B.te y := by
          refine sumE_cong fun x _ => ?_
          show 0 + B.te ((0 + x) * B.k + (y + 0)) = B.te (x * B.k + y)
          rw [Nat.zero_add, Nat.add_zero, Int.zero_add]
        rw [e1, tnN, j31 y hy]
        refine ⟨_, tb_isNear hX (d + 1) (z3 y hy) (hcol y hy), ?_⟩
        rintro _ J ⟨rfl, rfl⟩
        exact ⟨fun _ => ih, fun h => Bool.noConfusion h⟩
    refine up_to0 (m := B.r) (W := fun x => V 65 [(0, xr (0, 27)), (1, xi (J (0, 27) 6)), (2, xi (x : Int))] [] (J, xst c) 0 0) ?_ ?_
    · refine rg_X7_isRounded_65 hV J _ _ ?_
      rw [q0]
      exact ⟨⟨by omega, by omega⟩, fun _ => cols, fun h => by omega⟩
    · intro x hx ih
      refine rg_X7_isRounded_65 hV J _ _ ?_
      rw [q0, q1]
      refine ⟨⟨by omega, by omega⟩, fun h => by omega, fun _ => ⟨⟨by omega, by omega⟩, ?_⟩⟩
      have hst := tb_sumOfTenths (c := c) hX d q1 hk q28 (a := x) (n := 1) (b := 0) (m := B.k) (by omega) (by omega)
      rw [Nat.zero_add] at hst
      refine ⟨_, hst, ?_⟩
      rintro _ J ⟨rfl, rfl⟩
      have e1 : sumE 1 (fun x9 => sumE B.k (fun y => B.te ((x + x9) * B.k + (0 + y)))) = rsT B.k B.te x := by
        show 0 + sumE B.k (fun y => B.te ((x + 0) * B.k + (0 + y))) = _
        rw [Int.zero_add]
        refine sumE_cong fun y _ => ?_
        rw [Nat.zero_add, Nat.add_zero]
      rw [e1, tnN, j30 x hx]
      refine ⟨_, tb_isNear hX (d + 1) (z2 x hx) (hrow x hx), ?_⟩
      rintro _ J ⟨rfl, rfl⟩
      exact ⟨fun _ => ih, fun h => Bool.noConfusion h⟩
  refine up_to0 (m := B.r * B.k) (W := fun p => V 2 [(0, xr (0, 27)), (1, xi (p : Int))] [] (I, xst c) 0 0) ?_ ?_
  · refine rg_X7_isRounded_2 hV I _ ?_
    rw [c0, c1, ← Int.natCast_mul]
    exact ⟨⟨by omega, by omega⟩, ⟨by omega, by omega⟩, fun _ => sums, fun h => by omega⟩
  · intro p hp ih
    refine rg_X7_isRounded_2 hV I _ ?_
    rw [c0, c1, ← Int.natCast_mul]
    refine ⟨⟨by omega, by omega⟩, ⟨by omega, by omega⟩, fun h => by omega, fun _ => ⟨fun h => by omega, fun _ => ⟨⟨by omega, by omega⟩, ?_⟩⟩⟩
    rw [tnN, c2 p (by omega)]
    refine ⟨_, tb_isNear hX (d + 1) (z1 p hp) (by have := hte p hp; omega), ?_⟩
    rintro _ J ⟨rfl, rfl⟩
    exact ⟨fun _ => ih, fun h => Bool.noConfusion h⟩
theorem pa_isCovered (hX : xBase X) (d : Nat) (hk : LKok lk) (hC : CL I lk) (hT : TG I lk) (hR : ROW I lk) : xRet rB X m_X4_isCovered (d + 2) [xr (0, 20)] c I 0 0 (pv true I) xNo := by
  obtain ⟨v1, v2, v3⟩ := coverS_spec hk
  have hR256 := tog_lt hk (nd 255 (coverS lk))
  refine xRet_of hX pl_X4_isCovered (LE1 rfl) fun V hV => rg_X4_isCovered_0 hV I ⟨_, pa_leftOfCover hX d hk hT, ?_⟩
  rintro _ J ⟨rfl, rfl⟩
  refine ⟨_, pa_likedByOthers hX (d + 1) hT v1, ?_⟩
  rintro _ J ⟨rfl, rfl⟩
  refine up_to0 (m := 8) (W := fun k => V 21 [(0, xr (0, 20)), (1, xi (coverS lk : Int)), (2, xi ((tog lk (nd 255 (coverS lk)) : Nat) : Int)), (3, xi (((pSt lk k).1 : Nat) : Int)), (4, xi (manyN lk k)), (5, xi (k : Int))] [] (J, xst c) 0 0) ?_ ?_
  · have hm := many_all hk
    have hp := prs_bd lk 255 255
    have hcv : coverG lk (coverS lk) = (pc8 (coverS lk) : Int) + (pc8 (tog lk (nd 255 (coverS lk))) : Int) := rfl
    have q1 := bitsN_le (coverS lk) 8
    have q2 := bitsN_le (tog lk (nd 255 (coverS lk))) 8
    unfold pc8 at hcv
    refine rg_X4_isCovered_21 hV J _ _ _ _ _ ⟨⟨by omega, by omega⟩, fun _ => ⟨_, jd_bitCount hX (d + 1) rfl v1, ?_⟩, fun h => by omega⟩
    rintro _ J ⟨rfl, rfl⟩
    refine ⟨_, jd_bitCount hX (d + 1) rfl hR256, ?_⟩
    rintro _ J ⟨rfl, rfl⟩
    unfold pc8
    rw [hm]
    exact ⟨⟨by omega, by omega⟩, ⟨by omega, by omega⟩, fun h => by omega, fun _ => pvI rfl⟩
  · intro k hk8 ih
    have hb := pSt_bd lk k
    have hrl := rowF_le lk k
    have hlk := hk k hk8
    have hmany : -8 ≤ manyN lk k ∧ manyN lk k ≤ 8 := by
      have h1 : ∀ j, 0 ≤ manyN lk j ∧ manyN lk j ≤ j := fun j => by
        induction j with
        | zero => exact ⟨Int.le_refl _, Int.le_refl _⟩
        | succ j ih => rw [manyN]; split <;> omega
      have := h1 k; omega
    have row : V 53 [(0, xr (0, 20)), (1, xi (coverS lk : Int)), (2, xi ((tog lk (nd 255 (coverS lk)) : Nat) : Int)), (3, xi (((pSt lk k).1 : Nat) : Int)), (4, xi (manyN lk k)), (5, xi (k : Int))] [] (J, xst c) 0 0 := by
      refine rg_X4_isCovered_53 hV J _ _ _ _ _ ?_
      rw [tnN, hR k hk8, hC k hk8]
      refine ⟨⟨by omega, by omega⟩, fun h => ?_, fun h => ?_⟩
      · rw [manyN, pSt_s, if_neg (by omega), if_neg (by omega), Int.add_zero] at ih
        exact ih
      · rw [v_and_nat (by omega)]
        refine ⟨_, cn_hasBit hX (d + 1) (Nat.le_trans Nat.and_le_right (by omega)) (by omega), ?_⟩
        rintro _ J ⟨rfl, rfl⟩
        have hfree := row_free (lk := lk) (k := k) (by omega)
        rw [hfree]
        refine ⟨fun _ => ?_, fun h => Bool.noConfusion h⟩
        rintro _ rfl
        rw [hR k hk8, show v_ishl 1 ((rowF lk k : Nat) : Int) = ((2 ^ rowF lk k : Nat) : Int) from v_pow (by omega), v_andnot (by omega)]
        rw [manyN, pSt_s, if_pos (by omega), if_pos (by omega)] at ih
        exact ih
    refine rg_X4_isCovered_21 hV J _ _ _ _ _ ⟨⟨by omega, by omega⟩, fun h => by omega, fun _ => ⟨_, cn_hasBit hX (d + 1) (by omega) (by omega), ?_⟩⟩
    rintro _ J ⟨rfl, rfl⟩
    refine ⟨fun _ => row, fun h => ⟨⟨by omega, by omega⟩, ?_⟩⟩
    rw [tnN, hC k hk8, v_andnot (by omega)]
    have hz : nd (lk k) (tog lk (nd 255 (coverS lk))) = 0 := by
      rw [nd_sub]
      intro i hi9
      refine tog_bit hk8 ?_ hi9
      rw [nd_bit, h]
      have : (255 : Nat).testBit k = true := by
        have := hiM_bit ⟨0, by omega⟩ ⟨k, hk8⟩
        dsimp only at this
        rw [show hiM 0 = 255 from by decide] at this
        rw [this]
        exact decide_eq_true (Nat.zero_le k)
      rw [this]; rfl
    rw [hz]
    exact ⟨fun _ => row, fun h => absurd rfl h⟩
end SNV
