/-! rounds once more, with fewer frames -/
section CRE8
variable {X : xX} {c : xCx} {I : xIn} {T : NT} {a s t r x : Int}
theorem cn_needRound7 (hX : xBase X) (d : Nat) {i s t : Nat} {G : Gr} (hC : CG I c i G) (hN : NB I i G.m) (hlo : ∀ e, e < G.m → I (i + 3, 3) e = 0) (hs : s < G.n) (ht : t < G.n) (hst : s ≠ t) (hr : xin r) : xRet rU X m_X9_needRound (d + 7) [xr (0, 0), xr (i + 3, 0), xi (s : Int), xi (t : Int), xi r] c I 1 6 (fun _ I9 => kp ((0, 2) :: flP) I I9 ∧ (0 ≤ r ∧ r < (MC G (I (i + 3, 4)) s t : Int)) ∧ I9 (0, 2) 4 = aC G (I (i + 3, 4)) (FC G (I (i + 3, 4)) s t (Int.toNat r)) s t ∧ I9 (0, 3) 13 = (kC G (I (i + 3, 4)) (FC G (I (i + 3, 4)) s t (Int.toNat r)) s t : Int) ∧ ∀ x, x < kC G (I (i + 3, 4)) (FC G (I (i + 3, 4)) s t (Int.toNat r)) s t → I9 (0, 14) x = (wC G (I (i + 3, 4)) (FC G (I (i + 3, 4)) s t (Int.toNat r)) s t x : Int)) (fun e I9 => e = xNSE ∧ kp ((0, 2) :: flP) I I9 ∧ ¬ (0 ≤ r ∧ r < (MC G (I (i + 3, 4)) s t : Int))) := by
  have M1 := (MC_ok hC.2.2.2.1 hs ht hst (hi := I (i + 3, 4)) (fun e he => by have := hN e he; omega)).1
  refine xRet_of hX pl_X9_needRound (LE1 rfl) fun V hV => rg_X9_needRound_0 hV I i hC.1 _ _ _ ⟨hr, fun h => ⟨rfl, kp.rfl, by omega⟩, fun h => ⟨_, st_goRounds hX (d + 2) hC hN hlo hs ht hst hr, ?_⟩⟩
  rintro v J ⟨k1, rfl, -, k3⟩
  unfold goneTo
  by_cases hc : 0 ≤ r ∧ r < (MC G (I (i + 3, 4)) s t : Int)
  · rw [if_pos hc]
    have k4 := k3 hc.1 hc.2
    exact ⟨⟨by omega, by omega⟩, fun _ => ⟨k1, hc, k4⟩, fun h9 => by omega⟩
  · rw [if_neg hc]
    exact ⟨⟨by omega, by omega⟩, fun h9 => by omega, fun h9 => ⟨rfl, k1, hc⟩⟩
theorem cn_roundAmount8 (hX : xBase X) (d : Nat) (hT : NTok T) (hI : CI I c T) (ha : xin a) (hs : xin s) (ht : xin t) (hr : xin r) : xRet rI X m_X9_roundAmount (d + 8) [xr (0, 0), xi a, xi s, xi t, xi r] c I 4 24 (fun v I9 => keepC I I9 ∧ (v, 0) = roundAmountA T a s t r) (fun x I9 => keepC I I9 ∧ exL [xIOB, xIAE, xUOE, xNSE] x (roundAmountA T a s t r).2) := by
  have hwc := wrong_c T a s t
  refine xRet_of hX pl_X9_roundAmount (LE1 rfl) fun V hV => rg_X9_roundAmount_0 hV I _ _ _ _ (go_ends hX d hT hI ha hs ht (fun x hx hw => ⟨keepC.id9, by unfold roundAmountA wrongRT; rw [if_pos hw, wE_p hw]; exact hx.l (by omega)⟩) ?_)
  rintro i s t rfl rfl rfl hi hC hs9 ht9 hst hw
  have hnl := noL_cong (hI.lo hi)
  have hw2 := wrongRT_0 hw
  rw [tnN] at hw2
  refine ⟨_, _, cn_needNoLeasts hX d hC, ?_, ?_⟩
  · rintro x J ⟨rfl, rfl, hf⟩
    refine ⟨keepC.id9, ?_⟩
    rw [← hnl, hf, if_neg (by decide)] at hw2
    unfold roundAmountA
    rw [hw2, wE_p (by decide)]
    exact ⟨2, rfl, rfl⟩
  rintro _ J ⟨rfl, hf⟩
  rw [← hnl, hf, if_pos rfl] at hw2
  have hA : roundAmountA T (i : Int) (s : Int) (t : Int) r = roundAmountG (T.G i) (T.hi i) s t r := by unfold roundAmountA; rw [hw2, wE_0 rfl, tnN, tnN, tnN]
  obtain ⟨c1, c2⟩ := RC_cong hC.2.2.2.1 hs9 ht9 hst (hI.hb hT hi) (hI.hi hi)
  refine ⟨_, _, cn_needRound7 hX d hC (hI.nb hT hi) (noL_0 hf) hs9 ht9 hst hr, ?_, ?_⟩
  · rintro x K ⟨rfl, k1, k2⟩
    refine ⟨kp.C k1 (by decide), ?_⟩
    rw [c1] at k2
    rw [hA]
    unfold roundAmountG
    rw [if_neg k2]
    exact ⟨3, rfl, rfl⟩
  rintro _ K ⟨k1, k2, k3, -, -⟩
  refine ⟨kp.C k1 (by decide), ?_⟩
  rw [hA, k3, (c2 (Int.toNat r) (by omega)).2.1]
  rw [c1] at k2
  unfold roundAmountG
  rw [if_pos k2]
end CRE8
