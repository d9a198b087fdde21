/-! graphs: n corners, m edges, from, to -/
abbrev Gr : Type := Nat × Nat × (Nat → Nat) × (Nat → Nat)
abbrev Gr.n (G : Gr) : Nat := G.1
abbrev Gr.m (G : Gr) : Nat := G.2.1
abbrev Gr.u (G : Gr) : Nat → Nat := G.2.2.1
abbrev Gr.v (G : Gr) : Nat → Nat := G.2.2.2
def GrOK (G : Gr) : Prop := 2 ≤ G.n ∧ G.n ≤ 8 ∧ G.m ≤ 16 ∧ ∀ e, e < G.m → G.u e < G.n ∧ G.v e < G.n ∧ G.u e ≠ G.v e
/-- the edge e leads from a set, into a set -/
def lvs (G : Gr) (S e : Nat) : Bool := S.testBit (G.u e) && !S.testBit (G.v e)
def ens (G : Gr) (S e : Nat) : Bool := !S.testBit (G.u e) && S.testBit (G.v e)
def sOut (G : Gr) (b : Nat → Int) (S : Nat) : Int := sumE G.m (fun e => if lvs G S e then b e else 0)
def sIn (G : Gr) (b : Nat → Int) (S : Nat) : Int := sumE G.m (fun e => if ens G S e then b e else 0)
theorem sOut_bd {G : Gr} (hG : G.m ≤ 16) {b : Nat → Int} {S : Nat} {z : Int} (hz : 0 ≤ z) (hb : ∀ e, e < G.m → -z ≤ b e ∧ b e ≤ z) : -(16 * z) ≤ sOut G b S ∧ sOut G b S ≤ 16 * z := by
  have h := sumE_bd (n := G.m) (f := fun e => if lvs G S e then b e else 0) (a := -z) (b := z) (fun e he => by have := hb e he; split <;> omega)
  have h1 : (G.m : Int) * z ≤ 16 * z := Int.mul_le_mul_of_nonneg_right (by omega) hz
  have h2 : (G.m : Int) * -z = -((G.m : Int) * z) := Int.mul_neg _ _
  unfold sOut
  omega
theorem sIn_bd {G : Gr} (hG : G.m ≤ 16) {b : Nat → Int} {S : Nat} {z : Int} (hz : 0 ≤ z) (hb : ∀ e, e < G.m → -z ≤ b e ∧ b e ≤ z) : -(16 * z) ≤ sIn G b S ∧ sIn G b S ≤ 16 * z := by
  have h := sumE_bd (n := G.m) (f := fun e => if ens G S e then b e else 0) (a := -z) (b := z) (fun e he => by have := hb e he; split <;> omega)
  have h1 : (G.m : Int) * z ≤ 16 * z := Int.mul_le_mul_of_nonneg_right (by omega) hz
  have h2 : (G.m : Int) * -z = -((G.m : Int) * z) := Int.mul_neg _ _
  unfold sIn
  omega
/-- the reference holds the graph of the net i; bounds in its rows low and high -/
def MG (I : xIn) (i : Nat) (G : Gr) : Prop := i < 4 ∧ I (1, 1) i = (G.n : Int) ∧ I (1, 2) i = (G.m : Int) ∧ ∀ e, e < G.m → I (1, 3) (16 * i + e) = (G.u e : Int) ∧ I (1, 4) (16 * i + e) = (G.v e : Int)
def MB (I : xIn) (m : Nat) (lo hi : Nat → Int) : Prop := ∀ e, e < m → I (1, 17) e = lo e ∧ I (1, 18) e = hi e
theorem tn16 (i e : Nat) : Int.toNat (16 * (i : Int) + (e : Int)) = 16 * i + e := by omega
theorem MG.eq {I I9 : xIn} {i : Nat} {G : Gr} (h : MG I i G) (h1 : I9 (1, 1) = I (1, 1)) (h2 : I9 (1, 2) = I (1, 2)) (h3 : I9 (1, 3) = I (1, 3)) (h4 : I9 (1, 4) = I (1, 4)) : MG I9 i G := by
  unfold MG
  rw [h1, h2, h3, h4]
  exact h
section MB
variable {X : xX} {c : xCx} {I : xIn} {i : Nat} {G : Gr} {lo hi : Nat → Int}
theorem ok_leaves (hX : xBase X) (d : Nat) (hG : GrOK G) (hM : MG I i G) {e S : Nat} (he : e < G.m) (hS : S ≤ 2147483647) : xRet rB X m_X10_leaves (d + 1) [xr (1, 0), xi (i : Int), xi (e : Int), xi (S : Int)] c I 0 0 (pv (lvs G S e) I) xNo := by
  obtain ⟨g1, g2, g3, g4⟩ := hG
  obtain ⟨h0, h1, h2, h3⟩ := hM
  have g5 := g4 e he
  refine xRet_of hX pl_X10_leaves (LE1 rfl) fun V hV => rg_X10_leaves_0 hV I _ _ _ ⟨⟨by omega, by omega⟩, _, ok_has hX d rfl (by rw [tn16]; exact (h3 e he).1) hS (by omega : G.u e < 32), ?_⟩
  rintro _ _ ⟨rfl, rfl⟩
  refine ⟨fun z => ?_, fun z => ?_⟩
  · exact pvI (by unfold lvs; rw [z]; rfl)
  · exact ⟨_, ok_has hX d rfl (by rw [tn16]; exact (h3 e he).2) hS (by omega : G.v e < 32), by rintro _ _ ⟨rfl, rfl⟩; exact ⟨fun w => pvI (by unfold lvs; rw [z, w]; rfl), fun w => pvI (by unfold lvs; rw [z, w]; rfl)⟩⟩
theorem ok_enters (hX : xBase X) (d : Nat) (hG : GrOK G) (hM : MG I i G) {e S : Nat} (he : e < G.m) (hS : S ≤ 2147483647) : xRet rB X m_X10_enters (d + 1) [xr (1, 0), xi (i : Int), xi (e : Int), xi (S : Int)] c I 0 0 (pv (ens G S e) I) xNo := by
  obtain ⟨g1, g2, g3, g4⟩ := hG
  obtain ⟨h0, h1, h2, h3⟩ := hM
  have g5 := g4 e he
  refine xRet_of hX pl_X10_enters (LE1 rfl) fun V hV => rg_X10_enters_0 hV I _ _ _ ⟨⟨by omega, by omega⟩, _, ok_has hX d rfl (by rw [tn16]; exact (h3 e he).1) hS (by omega : G.u e < 32), ?_⟩
  rintro _ _ ⟨rfl, rfl⟩
  refine ⟨fun z => ?_, fun z => ?_⟩
  · exact pvI (by unfold ens; rw [z]; rfl)
  · exact ⟨_, ok_has hX d rfl (by rw [tn16]; exact (h3 e he).2) hS (by omega : G.v e < 32), by rintro _ _ ⟨rfl, rfl⟩; exact ⟨fun w => pvI (by unfold ens; rw [z, w]; rfl), fun w => pvI (by unfold ens; rw [z, w]; rfl)⟩⟩
theorem ok_leastOut (hX : xBase X) (d : Nat) (hG : GrOK G) (hM : MG I i G) (hB : MB I G.m lo hi) {S : Nat} (hS : S ≤ 2147483647) : xRet rI X m_X10_leastOut (d + 2) [xr (1, 0), xi (i : Int), xi (S : Int)] c I 0 0 (pv (sOut G lo S) I) xNo := by
  have g3 := hG.2.2.1
  obtain ⟨h0, h1, h2, h3⟩ := id hM
  refine xRet_of hX pl_X10_leastOut (LE1 rfl) fun V hV => rg_X10_leastOut_0 hV I _ _ ?_
  refine up_to0 (m := G.m) (W := fun k => V 5 [(0, xr (1, 0)), (1, xi (i : Int)), (2, xi (S : Int)), (3, xi (sumE k (fun e => if lvs G S e then lo e else 0))), (4, xi (k : Int))] [] (I, xst c) 0 0) ?_ ?_
  · exact rg_X10_leastOut_5 hV I _ _ _ _ ⟨⟨by omega, by omega⟩, ⟨by omega, by omega⟩, fun _ => pvI rfl, fun h => by rw [tnN, h2] at h; omega⟩
  · intro k hk ih
    rw [sumE] at ih
    refine rg_X10_leastOut_5 hV I _ _ _ _ ⟨⟨by omega, by omega⟩, ⟨by omega, by omega⟩, fun h => by rw [tnN, h2] at h; omega, fun _ => ⟨_, ok_leaves hX (d) hG hM hk hS, ?_⟩⟩
    rintro _ _ ⟨rfl, rfl⟩
    refine ⟨fun z => by rw [z] at ih; exact ih, fun z => ⟨⟨by omega, by omega⟩, fun x hx => ?_⟩⟩
    rw [z] at ih
    rw [tnN, (hB k hk).1] at hx
    rw [hx]
    exact ih
theorem ok_mostOut (hX : xBase X) (d : Nat) (hG : GrOK G) (hM : MG I i G) (hB : MB I G.m lo hi) {S : Nat} (hS : S ≤ 2147483647) : xRet rI X m_X10_mostOut (d + 2) [xr (1, 0), xi (i : Int), xi (S : Int)] c I 0 0 (pv (sOut G hi S) I) xNo := by
  have g3 := hG.2.2.1
  obtain ⟨h0, h1, h2, h3⟩ := id hM
  refine xRet_of hX pl_X10_mostOut (LE1 rfl) fun V hV => rg_X10_mostOut_0 hV I _ _ ?_
  refine up_to0 (m := G.m) (W := fun k => V 5 [(0, xr (1, 0)), (1, xi (i : Int)), (2, xi (S : Int)), (3, xi (sumE k (fun e => if lvs G S e then hi e else 0))), (4, xi (k : Int))] [] (I, xst c) 0 0) ?_ ?_
  · exact rg_X10_mostOut_5 hV I _ _ _ _ ⟨⟨by omega, by omega⟩, ⟨by omega, by omega⟩, fun _ => pvI rfl, fun h => by rw [tnN, h2] at h; omega⟩
  · intro k hk ih
    rw [sumE] at ih
    refine rg_X10_mostOut_5 hV I _ _ _ _ ⟨⟨by omega, by omega⟩, ⟨by omega, by omega⟩, fun h => by rw [tnN, h2] at h; omega, fun _ => ⟨_, ok_leaves hX (d) hG hM hk hS, ?_⟩⟩
    rintro _ _ ⟨rfl, rfl⟩
    refine ⟨fun z => by rw [z] at ih; exact ih, fun z => ⟨⟨by omega, by omega⟩, fun x hx => ?_⟩⟩
    rw [z] at ih
    rw [tnN, (hB k hk).2] at hx
    rw [hx]
    exact ih
theorem ok_leastIn (hX : xBase X) (d : Nat) (hG : GrOK G) (hM : MG I i G) (hB : MB I G.m lo hi) {S : Nat} (hS : S ≤ 2147483647) : xRet rI X m_X10_leastIn (d + 2) [xr (1, 0), xi (i : Int), xi (S : Int)] c I 0 0 (pv (sIn G lo S) I) xNo := by
  have g3 := hG.2.2.1
  obtain ⟨h0, h1, h2, h3⟩ := id hM
  refine xRet_of hX pl_X10_leastIn (LE1 rfl) fun V hV => rg_X10_leastIn_0 hV I _ _ ?_
  refine up_to0 (m := G.m) (W := fun k => V 5 [(0, xr (1, 0)), (1, xi (i : Int)), (2, xi (S : Int)), (3, xi (sumE k (fun e => if ens G S e then lo e else 0))), (4, xi (k : Int))] [] (I, xst c) 0 0) ?_ ?_
  · exact rg_X10_leastIn_5 hV I _ _ _ _ ⟨⟨by omega, by omega⟩, ⟨by omega, by omega⟩, fun _ => pvI rfl, fun h => by rw [tnN, h2] at h; omega⟩
  · intro k hk ih
    rw [sumE] at ih
    refine rg_X10_leastIn_5 hV I _ _ _ _ ⟨⟨by omega, by omega⟩, ⟨by omega, by omega⟩, fun h => by rw [tnN, h2] at h; omega, fun _ => ⟨_, ok_enters hX (d) hG hM hk hS, ?_⟩⟩
    rintro _ _ ⟨rfl, rfl⟩
    refine ⟨fun z => by rw [z] at ih; exact ih, fun z => ⟨⟨by omega, by omega⟩, fun x hx => ?_⟩⟩
    rw [z] at ih
    rw [tnN, (hB k hk).1] at hx
    rw [hx]
    exact ih
theorem ok_mostIn (hX : xBase X) (d : Nat) (hG : GrOK G) (hM : MG I i G) (hB : MB I G.m lo hi) {S : Nat} (hS : S ≤ 2147483647) : xRet rI X m_X10_mostIn (d + 2) [xr (1, 0), xi (i : Int), xi (S : Int)] c I 0 0 (pv (sIn G hi S) I) xNo := by
  have g3 := hG.2.2.1
  obtain ⟨h0, h1, h2, h3⟩ := id hM
  refine xRet_of hX pl_X10_mostIn (LE1 rfl) fun V hV => rg_X10_mostIn_0 hV I _ _ ?_
  refine up_to0 (m := G.m) (W := fun k => V 5 [(0, xr (1, 0)), (1, xi (i : Int)), (2, xi (S : Int)), (3, xi (sumE k (fun e => if ens G S e then hi e else 0))), (4, xi (k : Int))] [] (I, xst c) 0 0) ?_ ?_
  · exact rg_X10_mostIn_5 hV I _ _ _ _ ⟨⟨by omega, by omega⟩, ⟨by omega, by omega⟩, fun _ => pvI rfl, fun h => by rw [tnN, h2] at h; omega⟩
  · intro k hk ih
    rw [sumE] at ih
    refine rg_X10_mostIn_5 hV I _ _ _ _ ⟨⟨by omega, by omega⟩, ⟨by omega, by omega⟩, fun h => by rw [tnN, h2] at h; omega, fun _ => ⟨_, ok_enters hX (d) hG hM hk hS, ?_⟩⟩
    rintro _ _ ⟨rfl, rfl⟩
    refine ⟨fun z => by rw [z] at ih; exact ih, fun z => ⟨⟨by omega, by omega⟩, fun x hx => ?_⟩⟩
    rw [z] at ih
    rw [tnN, (hB k hk).2] at hx
    rw [hx]
    exact ih
theorem ok_isBetween (hX : xBase X) (d : Nat) {S a b : Nat} (hS : S ≤ 2147483647) (ha : a < 32) (hb : b < 32) : xRet rB X m_X10_isBetween (d + 1) [xi (S : Int), xi (a : Int), xi (b : Int)] c I 0 0 (pv (S.testBit a && !S.testBit b) I) xNo := by
  refine xRet_of hX pl_X10_isBetween (LE1 rfl) fun V hV => rg_X10_isBetween_0 hV I _ _ _ ⟨_, ok_has hX d rfl rfl hS ha, ?_⟩
  rintro _ _ ⟨rfl, rfl⟩
  refine ⟨fun z => pvI (by rw [z]; rfl), fun z => ⟨_, ok_has hX d rfl rfl hS hb, ?_⟩⟩
  rintro _ _ ⟨rfl, rfl⟩
  exact ⟨fun w => pvI (by rw [z, w]; rfl), fun w => pvI (by rw [z, w]; rfl)⟩
theorem ok_sets (hX : xBase X) (d : Nat) (hG : GrOK G) (hM : MG I i G) : xRet rI X m_X10_sets d [xr (1, 0), xi (i : Int)] c I 0 0 (pv ((2 ^ G.n : Nat) : Int) I) xNo := by
  obtain ⟨h0, h1, h2, h3⟩ := id hM
  have := pow2_le8 hG.2.1
  have g2 := hG.2.1
  refine xRet_of hX pl_X10_sets (LE1 rfl) fun V hV => rg_X10_sets_0 hV I _ ⟨⟨by omega, by omega⟩, pvI ?_⟩
  rw [tnN, h1, show (1 : Int) = ((1 : Nat) : Int) from rfl, v_shl_nat (by omega) (by omega)]
  simp
theorem ok_sumOf (hX : xBase X) (d : Nat) (hG : GrOK G) (hM : MG I i G) (hB : MB I G.m lo hi) {S : Nat} (hS : S ≤ 2147483647) : xRet rI X m_X10_sumOf (d + 3) [xr (1, 0), xi (i : Int), xi (S : Int)] c I 0 0 (pv (sOut G hi S - sIn G lo S) I) xNo := by
  refine xRet_of hX pl_X10_sumOf (LE1 rfl) fun V hV => rg_X10_sumOf_0 hV I _ _ ⟨_, ok_mostOut hX d hG hM hB hS, ?_⟩
  rintro _ _ ⟨rfl, rfl⟩
  refine ⟨_, ok_leastIn hX d hG hM hB hS, ?_⟩
  rintro _ _ ⟨rfl, rfl⟩
  exact pvI rfl
end MB
