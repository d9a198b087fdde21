/-! the law's sums over cuts, flows and what fills a cut -/
theorem er_ne (k j : Nat) : er k ≠ (2, j) := fun z => by have := congrArg Prod.fst z; cases this
section LC
variable {X : xX} {c : xCx} {I : xIn} {m b : Nat} {T : NT}

theorem lc_out (hX : xBase X) (d : Nat) (hLA : LA c m b) (hE : EW I T m) (hb9 : ∀ k, k < m → (T.G 0).u k < 32 ∧ (T.G 0).v k < 32) {a w : Int} {S W : Nat} (ha : a = S) (hw : w = W) (hS : S ≤ 255) (hW : W < 5) : xRet rI X m_L_out (d + 3) [xr (2, 0), xi a, xi w] c I 1 4 (pv (sOut (T.G 0) (fun k => I (er k) W) S) I) xNo := by
  subst ha hw
  obtain ⟨e1, e2, e3, e4, e5, e6, e7⟩ := hE
  refine xMet_in fun hI => ?_
  refine xMet_le (p1 := fun o h9 => ∃ (J : xIn) (ad : Nat), h9 = (J, xst (cIt c ad)) ∧ o = .inl (some (xi (sOut (T.G 0) (fun k => I (er k) W) S))) ∧ ∀ p : xP, p ≠ (2, 2) → J p = I p) ?_ ?_
  · refine xMet_of hX pl_L_out.1 (fun w hw => (pl_L_out.2.2.1 w hw).1) (LE1 rfl) fun V hV => rg_L_out_0 hX hV hLA (LE1 rfl) (LE1 rfl) I _ _ (fun ad I2 h2 => ?_)
    have hLI := hLA.it (a := ad)
    have key : ∀ k : Nat, k ≤ m → ∀ J : xIn, (∀ p : xP, p ≠ (2, 2) → J p = I p) → J (2, 2) 0 = (k : Int) → J (2, 2) 2 = I (2, 1) 0 → V 11 [(0, xr (2, 0)), (1, xi (S : Int)), (2, xi (W : Int)), (3, xi (sumE k (fun e => if lvs (T.G 0) S e then I (er e) W else 0))), (4, xr (2, 2))] [] (J, xst (cIt c ad)) 1 4 := by
      refine up_to (m := m) (W := fun k => ∀ J : xIn, (∀ p : xP, p ≠ (2, 2) → J p = I p) → J (2, 2) 0 = (k : Int) → J (2, 2) 2 = I (2, 1) 0 → V 11 [(0, xr (2, 0)), (1, xi (S : Int)), (2, xi (W : Int)), (3, xi (sumE k (fun e => if lvs (T.G 0) S e then I (er e) W else 0))), (4, xr (2, 2))] [] (J, xst (cIt c ad)) 1 4) ?_ ?_
      · intro J h1 h2 h3
        have hj : J (2, 1) 2 = (m : Int) := by rw [h1 _ (by decide)]; exact e3
        refine rg_L_out_11 hX hV hLI (LE1 rfl) (LE1 rfl) J _ _ _ ⟨fun _ => ⟨J, ad, rfl, ?_, h1⟩, fun h => absurd (of_decide_eq_true h) (fun z => z (by rw [h2, hj]))⟩
        unfold sOut
        rw [e2]
      · intro k hk ih J h1 h2 h3
        have hj : J (2, 1) 2 = (m : Int) := by rw [h1 _ (by decide)]; exact e3
        obtain ⟨⟨f1, f2⟩, -⟩ := e7 k hk
        refine rg_L_out_11 hX hV hLI (LE1 rfl) (LE1 rfl) J _ _ _ ⟨fun h => absurd h (by rw [decide_eq_true (by rw [h2, hj]; omega)]; decide), fun _ => ⟨hj, by rw [h3, h1 _ (by decide)], ⟨by omega, by omega⟩, fun I2 g2 => ?_⟩⟩
        have w1 : ∀ p : xP, p ≠ (2, 2) → I2 p = I p := fun p hp => by rw [g2, xu_p hp, xu_p hp]; exact h1 p hp
        have w2 : I2 (2, 2) 0 = ((k + 1 : Nat) : Int) := by rw [g2, xu_k (by decide), xu_same, h2]; omega
        have w3 : I2 (2, 2) 2 = I (2, 1) 0 := by rw [g2, xu_k (by decide), xu_k (by decide), h3]
        have hN : Int.toNat (J (2, 2) 0) = k := by rw [h2, tnN]
        rw [hN]
        have i2 : ∀ j, I2 (er k) j = I (er k) j := fun j => by rw [w1 _ (er_ne _ _)]
        have hu : (T.G 0).u k < 32 ∧ (T.G 0).v k < 32 := hb9 k hk
        have fin : ∀ x : Int, x = sumE (k + 1) (fun e => if lvs (T.G 0) S e then I (er e) W else 0) → V 11 [(0, xr (2, 0)), (1, xi (S : Int)), (2, xi (W : Int)), (3, xi x), (4, xr (2, 2))] [] (I2, xst (cIt c ad)) 1 4 := fun x hx => by rw [hx]; exact ih I2 w1 w2 w3
        refine ⟨_, lc_has hX (d + 2) rfl (by rw [i2, f1]) (by omega) hu.1, ?_⟩
        rintro _ _ ⟨rfl, rfl⟩
        refine ⟨fun hb => fin _ ?_, fun hb => ⟨_, lc_has hX (d + 2) rfl (by rw [i2, f2]) (by omega) hu.2, ?_⟩⟩
        · have : lvs (T.G 0) S k = false := by unfold lvs; rw [hb]; simp
          rw [sumE, this]; simp
        · rintro _ _ ⟨rfl, rfl⟩
          refine ⟨fun hb2 => fin _ ?_, fun hb2 => ⟨⟨by omega, by omega⟩, fun x16 h16 => fin _ ?_⟩⟩
          · have : lvs (T.G 0) S k = false := by unfold lvs; rw [hb, hb2]; simp
            rw [sumE, this]; simp
          · have : lvs (T.G 0) S k = true := by unfold lvs; rw [hb, hb2]; simp
            rw [sumE, this, h16, i2, tnN]; simp
    refine key 0 (Nat.zero_le _) I2 (fun p hp => by rw [h2]; exact if_neg hp) ?_ ?_
    · rw [h2]; rfl
    · rw [h2]; rfl
  · rintro o h9 ⟨J, ad, rfl, rfl, hJ⟩
    refine ⟨_, xLe_it (I := I) hLA.1.1 hLA.frT (fun k => hI _ _), fun r hr => ?_, I, ?_, Or.inl ⟨_, rfl, rfl, rfl⟩⟩
    · cases hr; rfl
    · have : (fun p => if p = (2, 2) then I (2, 2) else J p) = I := by
        funext p
        by_cases hp : p = (2, 2)
        · rw [if_pos hp, hp]
        · rw [if_neg hp, hJ p hp]
      rw [this]

theorem lc_into (hX : xBase X) (d : Nat) (hLA : LA c m b) (hE : EW I T m) (hb9 : ∀ k, k < m → (T.G 0).u k < 32 ∧ (T.G 0).v k < 32) {a w : Int} {S W : Nat} (ha : a = S) (hw : w = W) (hS : S ≤ 255) (hW : W < 5) : xRet rI X m_L_into (d + 3) [xr (2, 0), xi a, xi w] c I 1 4 (pv (sIn (T.G 0) (fun k => I (er k) W) S) I) xNo := by
  subst ha hw
  obtain ⟨e1, e2, e3, e4, e5, e6, e7⟩ := hE
  refine xMet_in fun hI => ?_
  refine xMet_le (p1 := fun o h9 => ∃ (J : xIn) (ad : Nat), h9 = (J, xst (cIt c ad)) ∧ o = .inl (some (xi (sIn (T.G 0) (fun k => I (er k) W) S))) ∧ ∀ p : xP, p ≠ (2, 2) → J p = I p) ?_ ?_
  · refine xMet_of hX pl_L_into.1 (fun w hw => (pl_L_into.2.2.1 w hw).1) (LE1 rfl) fun V hV => rg_L_into_0 hX hV hLA (LE1 rfl) (LE1 rfl) I _ _ (fun ad I2 h2 => ?_)
    have hLI := hLA.it (a := ad)
    have key : ∀ k : Nat, k ≤ m → ∀ J : xIn, (∀ p : xP, p ≠ (2, 2) → J p = I p) → J (2, 2) 0 = (k : Int) → J (2, 2) 2 = I (2, 1) 0 → V 11 [(0, xr (2, 0)), (1, xi (S : Int)), (2, xi (W : Int)), (3, xi (sumE k (fun e => if ens (T.G 0) S e then I (er e) W else 0))), (4, xr (2, 2))] [] (J, xst (cIt c ad)) 1 4 := by
      refine up_to (m := m) (W := fun k => ∀ J : xIn, (∀ p : xP, p ≠ (2, 2) → J p = I p) → J (2, 2) 0 = (k : Int) → J (2, 2) 2 = I (2, 1) 0 → V 11 [(0, xr (2, 0)), (1, xi (S : Int)), (2, xi (W : Int)), (3, xi (sumE k (fun e => if ens (T.G 0) S e then I (er e) W else 0))), (4, xr (2, 2))] [] (J, xst (cIt c ad)) 1 4) ?_ ?_
      · intro J h1 h2 h3
        have hj : J (2, 1) 2 = (m : Int) := by rw [h1 _ (by decide)]; exact e3
        refine rg_L_into_11 hX hV hLI (LE1 rfl) (LE1 rfl) J _ _ _ ⟨fun _ => ⟨J, ad, rfl, ?_, h1⟩, fun h => absurd (of_decide_eq_true h) (fun z => z (by rw [h2, hj]))⟩
        unfold sIn
        rw [e2]
      · intro k hk ih J h1 h2 h3
        have hj : J (2, 1) 2 = (m : Int) := by rw [h1 _ (by decide)]; exact e3
        obtain ⟨⟨f1, f2⟩, -⟩ := e7 k hk
        refine rg_L_into_11 hX hV hLI (LE1 rfl) (LE1 rfl) J _ _ _ ⟨fun h => absurd h (by rw [decide_eq_true (by rw [h2, hj]; omega)]; decide), fun _ => ⟨hj, by rw [h3, h1 _ (by decide)], ⟨by omega, by omega⟩, fun I2 g2 => ?_⟩⟩
        have w1 : ∀ p : xP, p ≠ (2, 2) → I2 p = I p := fun p hp => by rw [g2, xu_p hp, xu_p hp]; exact h1 p hp
        have w2 : I2 (2, 2) 0 = ((k + 1 : Nat) : Int) := by rw [g2, xu_k (by decide), xu_same, h2]; omega
        have w3 : I2 (2, 2) 2 = I (2, 1) 0 := by rw [g2, xu_k (by decide), xu_k (by decide), h3]
        have hN : Int.toNat (J (2, 2) 0) = k := by rw [h2, tnN]
        rw [hN]
        have i2 : ∀ j, I2 (er k) j = I (er k) j := fun j => by rw [w1 _ (er_ne _ _)]
        have hu : (T.G 0).u k < 32 ∧ (T.G 0).v k < 32 := hb9 k hk
        have fin : ∀ x : Int, x = sumE (k + 1) (fun e => if ens (T.G 0) S e then I (er e) W else 0) → V 11 [(0, xr (2, 0)), (1, xi (S : Int)), (2, xi (W : Int)), (3, xi x), (4, xr (2, 2))] [] (I2, xst (cIt c ad)) 1 4 := fun x hx => by rw [hx]; exact ih I2 w1 w2 w3
        refine ⟨_, lc_has hX (d + 2) rfl (by rw [i2, f1]) (by omega) hu.1, ?_⟩
        rintro _ _ ⟨rfl, rfl⟩
        refine ⟨fun hb => fin _ ?_, fun hb => ⟨_, lc_has hX (d + 2) rfl (by rw [i2, f2]) (by omega) hu.2, ?_⟩⟩
        · have : ens (T.G 0) S k = false := by unfold ens; rw [hb]; simp
          rw [sumE, this]; simp
        · rintro _ _ ⟨rfl, rfl⟩
          refine ⟨fun hb2 => fin _ ?_, fun hb2 => ⟨⟨by omega, by omega⟩, fun x16 h16 => fin _ ?_⟩⟩
          · have : ens (T.G 0) S k = false := by unfold ens; rw [hb, hb2]; simp
            rw [sumE, this]; simp
          · have : ens (T.G 0) S k = true := by unfold ens; rw [hb, hb2]; simp
            rw [sumE, this, h16, i2, tnN]; simp
    refine key 0 (Nat.zero_le _) I2 (fun p hp => by rw [h2]; exact if_neg hp) ?_ ?_
    · rw [h2]; rfl
    · rw [h2]; rfl
  · rintro o h9 ⟨J, ad, rfl, rfl, hJ⟩
    refine ⟨_, xLe_it (I := I) hLA.1.1 hLA.frT (fun k => hI _ _), fun r hr => ?_, I, ?_, Or.inl ⟨_, rfl, rfl, rfl⟩⟩
    · cases hr; rfl
    · have : (fun p => if p = (2, 2) then I (2, 2) else J p) = I := by
        funext p
        by_cases hp : p = (2, 2)
        · rw [if_pos hp, hp]
        · rw [if_neg hp, hJ p hp]
      rw [this]

theorem lc_isFlow (hX : xBase X) (d : Nat) (hLA : LA c m b) (hE : EW I T m) {q : xP} (hkd : kd q = (1, m)) (hq : q ∈ lvL c.1 c.2.1) {a1 a2 a : Int} {s t : Nat} (h1 : a1 = s) (h2 : a2 = t) (hs : s < (T.G 0).n) (ht : t < (T.G 0).n) (hst : s ≠ t) (ha : -10000 ≤ a ∧ a ≤ 10000) (hF : FS (T.G 0) (T.lo 0) (T.hi 0) (isB s t a) (I q)) : xRet rB X m_L_isFlow (d + 4) [xr (2, 0), xr q, xi a1, xi a2, xi a] c I 0 0 (pv true I) xNo := by
  subst h1 h2
  have hE0 := hE
  obtain ⟨e1, e2, e3, e4, e5, e6, e7⟩ := hE
  have hmi : xin (m : Int) := ⟨by omega, by omega⟩
  refine xRet_of hX pl_L_isFlow (LE1 rfl) fun V hV => rg_L_isFlow_0 hX hV hLA (LE1 rfl) (LE1 rfl) I hkd hq _ _ _ ?_
  have last : ∀ k : Nat, k ≤ m → V 74 [(0, xr (2, 0)), (1, xr q), (5, xi (xbi true)), (6, xi (k : Int))] [] (I, xst c) 0 0 := by
    refine up_to (m := m) (W := fun k => V 74 [(0, xr (2, 0)), (1, xr q), (5, xi (xbi true)), (6, xi (k : Int))] [] (I, xst c) 0 0) ?_ ?_
    · exact rg_L_isFlow_74 hX hV hLA (LE1 rfl) (LE1 rfl) I hkd hq _ _ ⟨hmi, hmi, fun _ => ⟨rfl, rfl⟩, fun z => by omega⟩
    · intro k hk ih
      obtain ⟨-, f1, f2, -⟩ := e7 k hk
      have hf := hF.1 k (by rw [e2]; exact hk)
      rw [Int.natCast_add] at ih
      exact rg_L_isFlow_74 hX hV hLA (LE1 rfl) (LE1 rfl) I hkd hq _ _ ⟨⟨by omega, by omega⟩, hmi, fun z => by omega, fun _ => ⟨(fun z => by cases z), fun _ => ⟨⟨by omega, by omega⟩, ⟨by omega, by omega⟩, e3, fun z => by rw [tnN, f1] at z; omega, fun _ => ⟨fun z => by rw [tnN, f2] at z; omega, fun _ => ih⟩⟩⟩⟩
  refine up_to0 (m := (T.G 0).n) (W := fun k => V 6 [(0, xr (2, 0)), (1, xr q), (2, xi (s : Int)), (3, xi (t : Int)), (4, xi a), (5, xi (xbi true)), (6, xi (k : Int))] [] (I, xst c) 0 0) ?_ ?_
  · exact rg_L_isFlow_6 hX hV hLA (LE1 rfl) (LE1 rfl) I hkd hq _ _ _ _ _ ⟨⟨by omega, by omega⟩, fun _ => last 0 (Nat.zero_le _), fun z => by rw [e4] at z; omega⟩
  · intro k hk ih
    rw [Int.natCast_add] at ih
    have hout := hF.2 k hk
    have s39 : ∀ s0 : Int, s0 = isB s t a k → V 39 [(0, xr (2, 0)), (1, xr q), (2, xi (s : Int)), (3, xi (t : Int)), (4, xi a), (5, xi (xbi true)), (6, xi (k : Int))] [xi s0] (I, xst c) 0 0 := by
      intro s0 h0
      have hb : -10000 ≤ s0 ∧ s0 ≤ 10000 := by
        rw [h0]; unfold isB; split
        · exact ha
        · split <;> omega
      refine rg_L_isFlow_39 hX hV hLA (LE1 rfl) (LE1 rfl) I hkd hq _ _ _ _ _ _ ⟨(fun z => by cases z), fun _ => ⟨_, lc_leaving hX d hLA hE0 hkd hq rfl (by omega), ?_⟩⟩
      rintro v I3 ⟨rfl, rfl⟩
      rw [hout, ← h0]
      exact ⟨⟨by omega, by omega⟩, ⟨by omega, by omega⟩, fun z => absurd rfl z, fun _ => ih⟩
    refine rg_L_isFlow_6 hX hV hLA (LE1 rfl) (LE1 rfl) I hkd hq _ _ _ _ _ ⟨⟨by omega, by omega⟩, fun z => by rw [e4] at z; omega, fun _ => ⟨⟨by omega, by omega⟩, fun h1 => ⟨⟨by omega, by omega⟩, fun h2 => s39 _ ?_, fun h2 => s39 _ ?_⟩, fun h1 => s39 _ ?_⟩⟩
    · unfold isB
      rw [if_neg (fun z => h1 (by rw [z])), if_neg (fun z => h2 (by rw [z]))]
    · unfold isB
      rw [if_neg (fun z => h1 (by rw [z])), if_pos (by omega)]
    · unfold isB
      rw [if_pos (by omega)]
theorem lc_isFilled (hX : xBase X) (d : Nat) (hLA : LA c m b) (hE : EW I T m) (hb9 : ∀ k, k < m → (T.G 0).u k < 32 ∧ (T.G 0).v k < 32) {q : xP} (hkd : kd q = (1, m)) (hq : q ∈ lvL c.1 c.2.1) {a : Int} {S : Nat} (ha : a = S) (hS : S ≤ 255) (hF : ∀ k, k < m → (lvs (T.G 0) S k = true → I q k = T.hi 0 k) ∧ (ens (T.G 0) S k = true → I q k = T.lo 0 k)) : xRet rB X m_L_isFilled (d + 3) [xr (2, 0), xr q, xi a] c I 0 0 (pv true I) xNo := by
  subst ha
  obtain ⟨e1, e2, e3, e4, e5, e6, e7⟩ := hE
  have hmi : xin (m : Int) := ⟨by omega, by omega⟩
  refine xRet_of hX pl_L_isFilled (LE1 rfl) fun V hV => rg_L_isFilled_0 hX hV hLA (LE1 rfl) (LE1 rfl) I hkd hq _ ?_
  refine up_to0 (m := m) (W := fun k => V 5 [(0, xr (2, 0)), (1, xr q), (2, xi (S : Int)), (3, xi (xbi true)), (4, xi (k : Int))] [] (I, xst c) 0 0) ?_ ?_
  · exact rg_L_isFilled_5 hX hV hLA (LE1 rfl) (LE1 rfl) I hkd hq _ _ _ ⟨hmi, hmi, fun _ => ⟨rfl, rfl⟩, fun z => by omega⟩
  · intro k hk ih
    rw [Int.natCast_add] at ih
    obtain ⟨⟨f1, f2⟩, f3, f4, -⟩ := e7 k hk
    obtain ⟨g1, g2⟩ := hF k hk
    have hu := hb9 k hk
    have s65 : V 65 [(0, xr (2, 0)), (1, xr q), (2, xi (S : Int)), (4, xi (k : Int)), (5, xr (er k))] [] (I, xst c) 0 0 := by
      refine rg_L_isFilled_65 hX hV hLA (LE1 rfl) (LE1 rfl) I hkd hq _ _ _ hk ⟨_, lc_has hX (d + 2) rfl f1 (by omega) hu.1, ?_⟩
      rintro _ _ ⟨rfl, rfl⟩
      refine ⟨fun _ => ih, fun hb => ⟨_, lc_has hX (d + 2) rfl f2 (by omega) hu.2, ?_⟩⟩
      rintro _ _ ⟨rfl, rfl⟩
      refine ⟨fun _ => ih, fun hb2 => ⟨⟨by omega, by omega⟩, fun z => absurd ?_ z, fun _ => ih⟩⟩
      rw [tnN, f3]
      exact g2 (by unfold ens; rw [hb, hb2]; rfl)
    refine rg_L_isFilled_5 hX hV hLA (LE1 rfl) (LE1 rfl) I hkd hq _ _ _ ⟨⟨by omega, by omega⟩, hmi, fun z => by omega, fun _ => ⟨⟨by omega, by omega⟩, e3, (fun z => by cases z), fun _ => ?_⟩⟩
    rw [tnN]
    refine ⟨_, lc_has hX (d + 2) rfl f1 (by omega) hu.1, ?_⟩
    rintro _ _ ⟨rfl, rfl⟩
    refine ⟨fun _ => s65, fun hb => ⟨_, lc_has hX (d + 2) rfl f2 (by omega) hu.2, ?_⟩⟩
    rintro _ _ ⟨rfl, rfl⟩
    refine ⟨fun _ => s65, fun hb2 => ⟨⟨by omega, by omega⟩, fun z => absurd ?_ z, fun _ => s65⟩⟩
    rw [f4]
    exact g1 (by unfold lvs; rw [hb, hb2]; rfl)
end LC
