/-! the law's small methods -/
theorem xMet_in {X : xX} {y : xM} {d : Nat} {av : List xV} {h : xS} {mc ms : Nat} {post : xO → xS → Prop} (k : (∀ (q : xP) (j : Nat), xin (h.I q j)) → xMet X y d av h mc ms post) : xMet X y d av h mc ms post := by
  intro p e ha hc hk s m args below hf happ hP hR
  exact k hP.2.2.2.2 p e ha hc hk s m args below hf happ hP hR
theorem v_and_pos (a : Int) : 0 ≤ v_iand a 2147483647 ∧ v_iand a 2147483647 ≤ 2147483647 := by
  have h2 := (xin_ti (Int32.ofInt a &&& Int32.ofInt 2147483647)).2
  refine ⟨?_, h2⟩
  show 0 ≤ ((Int32.ofInt a &&& Int32.ofInt 2147483647).toBitVec).toInt
  rw [Int32.toBitVec_and]
  apply BitVec.toInt_nonneg_of_msb_false
  rw [BitVec.msb_and]
  have : (Int32.ofInt 2147483647).toBitVec.msb = false := by decide
  rw [this, Bool.and_false]
/-- the law holds the edges of the net 0 of T -/
def EW (I : xIn) (T : NT) (m : Nat) : Prop := T.N = 1 ∧ (T.G 0).m = m ∧ I (2, 1) 2 = (m : Int) ∧ I (2, 0) 4 = ((T.G 0).n : Int) ∧ (2 ≤ (T.G 0).n ∧ (T.G 0).n ≤ 6) ∧ (1 ≤ m ∧ m ≤ 11) ∧ ∀ k, k < m → (I (er k) 0 = ((T.G 0).u k : Int) ∧ I (er k) 1 = ((T.G 0).v k : Int)) ∧ I (er k) 2 = T.lo 0 k ∧ I (er k) 3 = T.hi 0 k ∧ I (er k) 4 = T.co 0 k
/-- what a draw changes -/
def kdr (I J : xIn) : Prop := (∀ p : xP, p ≠ (2, 0) → J p = I p) ∧ (∀ j, j ≠ 1 → j ≠ 2 → J (2, 0) j = I (2, 0) j) ∧ J (2, 0) 1 = I (2, 0) 1 + 1
def AtB (I : xIn) (B : Int) : Prop := 0 ≤ I (2, 0) 1 ∧ I (2, 0) 1 ≤ B ∧ B ≤ 1000000
/-- the script is where it was -/
def SC (X : xX) (c : xCx) : Prop := ∃ (bs Ls : Nat) (xs : Nat → Int32), LSc X bs Ls xs ∧ c.2.2.2 (2, 9) = bs
section LC
variable {X : xX} {c : xCx} {I : xIn} {m b : Nat} {T : NT}
theorem lc_has (hX : xBase X) (d : Nat) {a k : Int} {S x : Nat} (ha : a = S) (hk : k = x) (hS : S ≤ 2147483647) (hx : x < 32) : xRet rB X m_L_has d [xr (2, 0), xi a, xi k] c I 0 0 (pv (S.testBit x) I) xNo := by
  subst ha hk
  refine xRet_of hX pl_L_has (LE1 rfl) fun V hV => rg_L_has_0 hX hV (LE1 rfl) (LE1 rfl) I _ _ ?_
  rw [v_bit hS hx]
  cases h : S.testBit x <;> simp [xbi, pv]
theorem lc_isNear (hX : xBase X) (d : Nat) {a e : Int} (ha : -100000 ≤ a ∧ a ≤ 100000) (he : -100000 ≤ e ∧ e ≤ 100000) (h : e - 10 < 10 * a ∧ 10 * a < e + 10) : xRet rB X m_L_isNear d [xi a, xi e] c I 0 0 (pv true I) xNo := by
  refine xRet_of hX pl_L_isNear (LE1 rfl) fun V hV => rg_L_isNear_0 hX hV (LE1 rfl) (LE1 rfl) I _ _ ⟨⟨by omega, by omega⟩, ⟨by omega, by omega⟩, fun z => by omega, fun _ => ⟨⟨by omega, by omega⟩, fun z => by omega, fun _ => ⟨rfl, rfl⟩⟩⟩
theorem lc_mixed (hX : xBase X) (d : Nat) {a e : Int} : xRet rI X m_L_mixed d [xi a, xi e] c I 0 0 (fun _ I9 => I9 = I) xNo :=
  xRet_of hX pl_L_mixed (LE1 rfl) fun V hV => rg_L_mixed_0 hX hV (LE1 rfl) (LE1 rfl) I _ _ (fun _ _ _ _ => rfl)
theorem lc_cell (hX : xBase X) (d : Nat) (hS : SC X c) {a : Int} (ha : 0 ≤ a ∧ a ≤ 2000000) : xRet rI X m_L_cell d [xr (2, 9), xi a] c I 0 0 (fun _ I9 => I9 = I) xNo := by
  obtain ⟨bs, Ls, xs, hs, hA⟩ := hS
  exact xRet_of hX pl_L_cell (LE1 rfl) fun V hV => rg_L_cell_0 hX hV hs hA (LE1 rfl) (LE1 rfl) I _ ⟨⟨by omega, by omega⟩, fun _ => rfl, fun h => ⟨⟨ha.1, h⟩, rfl⟩⟩
theorem lc_stirred (hX : xBase X) (d : Nat) (hS : SC X c) : xRet rI X m_L_stirred d [xr (2, 9)] c I 0 0 (fun _ I9 => I9 = I) xNo := by
  obtain ⟨bs, Ls, xs, hs, hA⟩ := hS
  have hL := sx_in hs
  have h9 := hL.2
  refine xRet_of hX pl_L_stirred (LE1 rfl) fun V hV => rg_L_stirred_0 hX hV hs hA (LE1 rfl) (LE1 rfl) I (fun x1 _ => ?_)
  refine up_to0 (m := Ls) (W := fun k => ∀ x : Int, V 14 [(1, xi x), (2, xr (2, 9)), (3, xi (Ls : Int)), (4, xi (k : Int))] [] (I, xst c) 0 0) ?_ ?_ x1
  · intro x
    exact rg_L_stirred_14 hX hV hs hA (LE1 rfl) (LE1 rfl) I _ _ _ ⟨hL, hL, fun _ x2 _ => ⟨fun _ => rfl, fun _ => rfl⟩, fun z => by omega⟩
  · intro k hk ih x
    refine rg_L_stirred_14 hX hV hs hA (LE1 rfl) (LE1 rfl) I _ _ _ ⟨⟨by omega, by omega⟩, hL, fun z => by omega, fun _ => ⟨⟨by omega, by omega⟩, fun x5 _ x7 _ => ?_⟩⟩
    have e := ih x7
    rw [Int.natCast_add] at e
    exact e
theorem lc_draw (hX : xBase X) (d : Nat) (hLA : LD c b) (hS : SC X c) (hA : 0 ≤ I (2, 0) 1 ∧ I (2, 0) 1 ≤ 1000000) {many : Int} (hm : 0 < many ∧ many ≤ 2147483647) : xRet rI X m_L_draw (d + 1) [xr (2, 0), xi many] c I 0 0 (fun v I9 => (0 ≤ v ∧ v < many) ∧ kdr I I9) xNo := by
  have fin : ∀ {V : xT} (hV : xEnd X m_L_draw (d + 1) 0 0 (xPost rI c (fun v I9 => (0 ≤ v ∧ v < many) ∧ kdr I I9) xNo) V) (s0 : Int), V 22 [(0, xr (2, 0)), (1, xi many)] [xi s0, xr (2, 0)] (I, xst c) 0 0 := by
    intro V hV s0
    refine rg_L_draw_22 hX hV hLA (LE1 rfl) (LE1 rfl) I _ _ (fun I1 e1 I3 e3 => ?_)
    have h1 : I1 (2, 0) 1 = I (2, 0) 1 := by rw [e1, xu_k (by decide)]
    have hw : (Int32.ofInt (I1 (2, 0) 1 + 1)).toInt = I (2, 0) 1 + 1 := by rw [h1]; exact xo_ti ⟨by omega, by omega⟩
    rw [hw] at e3
    have hk3 : kdr I I3 := by
      refine ⟨fun p hp => by rw [e3, xu_p hp, e1, xu_p hp], fun j j1 j2 => by rw [e3, xu_k j1, e1, xu_k j2], by rw [e3, xu_same]⟩
    have rem : ∀ v : Int, 0 ≤ v_iand v 2147483647 % many ∧ v_iand v 2147483647 % many < many := fun v => ⟨Int.emod_nonneg _ (by omega), Int.emod_lt_of_pos _ hm.1⟩
    refine ⟨fun _ => ⟨_, lc_mixed hX (d + 0), ?_⟩, fun _ => ⟨_, lc_cell hX (d + 0) hS (by rw [hk3.2.2]; omega), ?_⟩⟩
    · rintro v I7 rfl
      exact ⟨v_and_pos v, hm, rem v, hk3⟩
    · rintro v I7 rfl
      refine ⟨_, lc_cell hX (d + 0) hS (by rw [hk3.2.2]; omega), ?_⟩
      rintro v9 I8 rfl x21 _
      exact ⟨v_and_pos _, hm, rem _, hk3⟩
  refine xRet_of hX pl_L_draw (LE1 rfl) fun V hV => rg_L_draw_0 hX hV hLA (LE1 rfl) (LE1 rfl) I _ ⟨fun _ => fin hV _, fun _ => ⟨_, lc_stirred hX (d + 0) hS, ?_⟩⟩
  rintro v I3 rfl
  exact fin hV _
theorem lc_leaving (hX : xBase X) (d : Nat) (hLA : LA c m b) (hE : EW I T m) {q : xP} (hkd : kd q = (1, m)) (hq : q ∈ lvL c.1 c.2.1) {a : Int} {x : Nat} (ha : a = x) (hx : x ≤ 100) : xRet rI X m_L_leaving (d + 3) [xr (2, 0), xr q, xi a] c I 0 0 (pv (nout (T.G 0) (I q) x) I) xNo := by
  subst ha
  obtain ⟨e1, e2, e3, e4, e5, e6, e7⟩ := hE
  have hxi : xin (x : Int) := ⟨by omega, by omega⟩
  have hmi : xin (m : Int) := ⟨by omega, by omega⟩
  refine xRet_of hX pl_L_leaving (LE1 rfl) fun V hV => rg_L_leaving_0 hX hV hLA (LE1 rfl) (LE1 rfl) I hkd hq _ ?_
  refine up_to0 (m := m) (W := fun k => V 5 [(0, xr (2, 0)), (1, xr q), (2, xi (x : Int)), (3, xi (sumE k (fun e => (if (T.G 0).u e = x then I q e else 0) - (if (T.G 0).v e = x then I q e else 0)))), (4, xi (k : Int))] [] (I, xst c) 0 0) ?_ ?_
  · refine rg_L_leaving_5 hX hV hLA (LE1 rfl) (LE1 rfl) I hkd hq _ _ _ ⟨hmi, hmi, fun _ => ⟨?_, rfl⟩, fun z => by omega⟩
    unfold nout
    rw [e2]
  · intro k hk ih
    have hki : xin (k : Int) := ⟨by omega, by omega⟩
    obtain ⟨⟨f1, f2⟩, -⟩ := e7 k hk
    have s39 : ∀ s0 : Int, s0 = (if (T.G 0).u k = x then I q k else 0) → V 39 [(0, xr (2, 0)), (1, xr q), (2, xi (x : Int)), (4, xi (k : Int))] [xi s0, xi (sumE k (fun e => (if (T.G 0).u e = x then I q e else 0) - (if (T.G 0).v e = x then I q e else 0)))] (I, xst c) 0 0 := by
      intro s0 hs0
      refine rg_L_leaving_39 hX hV hLA (LE1 rfl) (LE1 rfl) I hkd hq _ _ _ _ ⟨⟨by omega, by omega⟩, e3, hxi, fun hne x2 h2 => ?_, fun heq => ⟨⟨by omega, by omega⟩, fun x4 h4 => ?_⟩⟩
      · rw [tnN, f2] at hne
        have hv : (T.G 0).v k ≠ x := fun z => hne (by rw [z])
        have e9 : x2 = sumE (k + 1) (fun e => (if (T.G 0).u e = x then I q e else 0) - (if (T.G 0).v e = x then I q e else 0)) := by
          rw [sumE, if_neg hv, h2, hs0]; omega
        rw [e9]
        have ih := ih
        rw [Int.natCast_add] at ih
        exact ih
      · rw [tnN, f2] at heq
        have hv : (T.G 0).v k = x := by omega
        rw [tnN] at h4
        have e9 : x4 = sumE (k + 1) (fun e => (if (T.G 0).u e = x then I q e else 0) - (if (T.G 0).v e = x then I q e else 0)) := by
          rw [sumE, if_pos hv, h4, hs0]; omega
        rw [e9]
        have ih := ih
        rw [Int.natCast_add] at ih
        exact ih
    refine rg_L_leaving_5 hX hV hLA (LE1 rfl) (LE1 rfl) I hkd hq _ _ _ ⟨hki, hmi, fun z => by omega, fun _ => ⟨⟨by omega, by omega⟩, e3, hxi, fun hne => ?_, fun heq => ⟨⟨by omega, by omega⟩, ?_⟩⟩⟩
    · rw [tnN, f1] at hne
      exact s39 _ (by rw [if_neg (fun z => hne (by rw [z]))])
    · rw [tnN, f1] at heq
      exact s39 _ (by rw [if_pos (by omega), tnN])
end LC
