/-! flow in steps, by the class and by the reference -/
def inStepsA (T : NT) (a s t k : Int) : Int × Int := wE 0 (wrongT T a s t) (if 0 ≤ k ∧ k ≤ 8 then (inStepsG (T.G (Int.toNat a)) (T.hi (Int.toNat a)) (Int.toNat s) (Int.toNat t) (Int.toNat k), 0) else (0, 2))
section ISC
variable {X : xX} {c : xCx} {I : xIn} {i : Nat} {G : Gr} {s t : Nat}
theorem lostF_cong {hi hi9 : Nat → Int} (h : ∀ e, e < G.m → hi e = hi9 e) : lostF G hi = lostF G hi9 := funext fun B => funext fun S => sumE_cong fun e he => by rw [h e he]
theorem nowF_cong {hi hi9 : Nat → Int} (h : ∀ e, e < G.m → hi e = hi9 e) (k : Nat) : nowF G hi s t k = nowF G hi9 s t k := by
  induction k with
  | zero => rfl
  | succ k ih =>
    funext S
    show (if btw s t S then mnb 1000000 _ (fun B => nowF G hi s t k B + lostF G hi B S) (S + 1) else (1000000 : Int)) = (if btw s t S then mnb 1000000 _ (fun B => nowF G hi9 s t k B + lostF G hi9 B S) (S + 1) else (1000000 : Int))
    rw [ih, lostF_cong h]
theorem inStepsG_cong {hi hi9 : Nat → Int} (h : ∀ e, e < G.m → hi e = hi9 e) (k : Nat) : inStepsG G hi s t k = inStepsG G hi9 s t k := by
  unfold inStepsG
  rw [nowF_cong h]
theorem st_arriveBy (hX : xBase X) (d : Nat) (hC : CG I c i G) (hN : NB I i G.m) (hs : s < G.n) (ht : t < G.n) (hst : s ≠ t) {T : Nat} (hT : T ≤ 8) : xRet rI X m_X6_arriveBy (d + 3) [xr (0, 2), xr (i + 3, 0), xi (s : Int), xi (t : Int), xi (T : Int)] c I 0 0 (fun v I9 => kp flP I I9 ∧ v = inStepsG G (I (i + 3, 4)) s t T) xNo := by
  obtain ⟨c1, c2, c3, c4, c5⟩ := id hC
  have hn := c4.2.1
  have hn2 := c4.1
  have hm := c4.2.2.1
  have hGi := c4.in
  refine xRet_of hX pl_X6_arriveBy (LE1 rfl) fun V hV => rg_X6_arriveBy_0 hV I _ c1 _ _ _ ?_
  rw [c2]
  refine ⟨_, fl_startK hX (d + 2) (show G.n ≤ 16 by omega) G.u G.v (fun _ => 0) (I (i + 3, 4)) (fun _ => 1), ?_⟩
  rintro _ J0 ⟨k0, f0, h0⟩
  refine up_to0 (m := G.m) (W := fun k => ∀ J, kp flP I J → FR J (G.n, k, G.u, G.v) → Has J k (fun _ => 0) (I (i + 3, 4)) (fun _ => 1) → V 14 [(0, xr (0, 2)), (1, xr (i + 3, 0)), (2, xi (s : Int)), (3, xi (t : Int)), (4, xi (T : Int)), (5, xi (k : Int))] [] (J, xst c) 0 0) ?_ ?_ J0 (k0.mo (by simp [flP])) f0 h0
  · rintro J k1 f1 h1
    refine rg_X6_arriveBy_14 hV J _ c1 _ _ _ _ ⟨⟨by omega, by omega⟩, fun _ => ⟨_, fl_add hX d (G := G) f1 ht hs (by omega) (lo := 0) (hi := 1000000) (co := -((T : Int) + 1)) ⟨by decide, by decide⟩ ⟨by decide, by decide⟩ ⟨by omega, by omega⟩, ?_⟩, fun h => ?_⟩
    rotate_left
    · rw [kpq.net k1, c3] at h; omega
    rintro _ K ⟨fK, aK⟩
    have hH := aK.has h1
    have kK : kp flP I K := k1.tr (aK.1.mo (by simp [flP]))
    have hlo : ∀ e, e < G.m + 1 → K (0, 9) e = 0 ∧ K (0, 11) e = 0 := fun e he => by
      have := hH e he
      refine ⟨?_, this.2.2.2.2.2⟩
      rw [this.2.2.2.1]
      rcases upL_c (fun _ => (0 : Int)) G.m 0 e with ⟨w1, w2⟩ | ⟨w1, w2⟩ <;> rw [w2] <;> rfl
    have hhi : ∀ e, e < G.m → K (0, 10) e = I (i + 3, 4) e ∧ K (0, 8) e = 1 := fun e he => by
      have := hH e (by omega)
      rw [this.2.2.2.2.1, this.2.2.1, upL_n (by omega), upL_n (by omega)]
      exact ⟨rfl, rfl⟩
    have hmm := hH G.m (by omega)
    have hm10 : K (0, 10) G.m = 1000000 := by rw [hmm.2.2.2.2.1, upL_s]
    have hm8 : K (0, 8) G.m = -((T : Int) + 1) := by rw [hmm.2.2.1, upL_s]
    have hbd9 : Bd9 K (bk G s t).m := fun e he => by
      rw [(hlo e he).1]
      by_cases hem : e = G.m
      · rw [hem, hm10]; omega
      · have he9 : e < G.m := by have : e < G.m + 1 := he; omega
        rw [(hhi e he9).1]
        have := hN e he9
        omega
    have hco : ∀ e, e < (bk G s t).m → K (0, 8) e = coS G.m T e := fun e he => by
      unfold coS
      by_cases hem : e = G.m
      · rw [hem, hm8, if_pos rfl]
      · have he9 : e < G.m := by have : e < G.m + 1 := he; omega
        rw [(hhi e he9).2, if_neg hem]
    have hcob : ∀ e, e < (bk G s t).m → -20 ≤ K (0, 8) e ∧ K (0, 8) e ≤ 20 := fun e he => by
      rw [hco e he]
      unfold coS
      split <;> omega
    have hf0 : FS (bk G s t) (K (0, 9)) (K (0, 10)) (fun _ => 0) (K (0, 11)) := by
      refine ⟨fun e he => ?_, fun x hx => sumE_0 fun e he => ?_⟩
      · rw [(hlo e he).1, (hlo e he).2]
        by_cases hem : e = G.m
        · rw [hem, hm10]; omega
        · have he9 : e < G.m := by have : e < G.m + 1 := he; omega
          rw [(hhi e he9).1]
          have := hN e he9
          omega
      · rw [(hlo e he).2, ite_self, ite_self]; rfl
    have hback : ∀ g, FS (bk G s t) (K (0, 9)) (K (0, 10)) (fun _ => 0) g → (∀ e, e < G.m → 0 ≤ g e ∧ g e ≤ 99) ∧ 0 ≤ g G.m ∧ g G.m ≤ 1600 := by
      intro g hg
      have hge : ∀ e, e < G.m → 0 ≤ g e ∧ g e ≤ 99 := fun e he => by
        have a := hg.1 e (Nat.lt_succ_of_lt he)
        rw [(hlo e (by omega)).1, (hhi e he).1] at a
        have := hN e he
        omega
      have h1 : nout (bk G s t) g s = 0 := hg.2 s hs
      rw [bk_nout, if_neg (Ne.symm hst), if_pos rfl] at h1
      have h2 := sumE_bd (n := G.m) (f := fun e => (if G.u e = s then g e else 0) - (if G.v e = s then g e else 0)) (a := -99) (b := 99) fun e he => by
        have := hge e he
        show -99 ≤ (if G.u e = s then g e else 0) - (if G.v e = s then g e else 0) ∧ (if G.u e = s then g e else 0) - (if G.v e = s then g e else 0) ≤ 99
        split <;> split <;> omega
      have h3 : nout G g s = sumE G.m (fun e => (if G.u e = s then g e else 0) - (if G.v e = s then g e else 0)) := rfl
      have h4 := (hg.1 G.m (Nat.lt_succ_self _)).1
      rw [(hlo G.m (by omega)).1] at h4
      exact ⟨hge, h4, by omega⟩
    have hsplit : ∀ g, costF (bk G s t) (K (0, 8)) g = sumE G.m g - ((T : Int) + 1) * g G.m := fun g => by
      have h1 : costF (bk G s t) (K (0, 8)) g = sumE G.m (fun e => g e * K (0, 8) e) + g G.m * K (0, 8) G.m := rfl
      have h2 : sumE G.m (fun e => g e * K (0, 8) e) = sumE G.m g := sumE_cong fun e he => by rw [(hhi e he).2, Int.mul_one]
      rw [h1, h2, hm8, Int.mul_neg, Int.mul_comm]
      omega
    have hcost : ∀ g, FS (bk G s t) (K (0, 9)) (K (0, 10)) (fun _ => 0) g → -400000 ≤ costF (bk G s t) (K (0, 8)) g ∧ costF (bk G s t) (K (0, 8)) g ≤ 400000 := fun g hg => by
      obtain ⟨a1, a2, a3⟩ := hback g hg
      have h2 := sumE_bd (n := G.m) (f := g) (a := 0) (b := 99) a1
      have h3 := mul_bd (A := 9) (B := 1600) (by omega) (show -9 ≤ (T : Int) + 1 ∧ (T : Int) + 1 ≤ 9 by omega) (show -1600 ≤ g G.m ∧ g G.m ≤ 1600 by omega)
      rw [hsplit]
      omega
    refine ⟨_, fl_cheapen hX d fK (show 1 ≤ G.n by omega) (bk_ne c4 hst) hcob hbd9 hf0 hcost, ?_⟩
    rintro _ N ⟨kN, n1, n2, -⟩
    have kIN : kp flP I N := kK.tr (kN.1.mo (by simp [flP]))
    have n8 : N (0, 8) = K (0, 8) := kN.1 _ (by simp)
    rw [show N (i + 3, 0) = I (i + 3, 0) from kIN _ (by simp [flP]), c3]
    refine ⟨_, fl_sumOfCosts hX (d + 2) (kN.fr fK) (k := G.m + 1) (Nat.le_refl _), ?_⟩
    rintro _ N ⟨rfl, rfl⟩
    refine ⟨kIN, ?_⟩
    have e1 : sumE (G.m + 1) (fun e => N (0, 11) e * N (0, 8) e) = costF (bk G s t) (K (0, 8)) (N (0, 11)) := by rw [n8]; rfl
    rw [e1, hsplit]
    have hPT : PT (bk G s t) (K (0, 9)) (K (0, 10)) (coS G.m T) (N (0, 11)) (N (0, 12)) := PT_cong (fun _ _ => rfl) (fun _ _ => rfl) hco (fun _ _ => rfl) n2
    have hfin := steps_eq c4 (hi := I (i + 3, 4)) (fun e he => by have := hN e he; omega) hT hs ht hst (fun e he => (hlo e he).1) (fun e he => (hhi e he).1) n1 (by rw [hm10]; have := hback _ n1; omega) hPT
    rw [← hfin]
    omega
  · intro k hk ih J k1 f1 h1
    have hl := c4.2.2.2 k hk
    have hb := hN k hk
    refine rg_X6_arriveBy_14 hV J _ c1 _ _ _ _ ⟨⟨by omega, by omega⟩, fun h => ?_, fun _ => ⟨⟨by omega, by omega⟩, ?_⟩⟩
    · rw [kpq.net k1, c3] at h; omega
    rw [tnN, kpq.net k1, kpq.net k1, kpq.net k1, (c5 k hk).1, (c5 k hk).2]
    refine ⟨_, fl_addK hX d f1 h1 (show G.u k < G.n by omega) (show G.v k < G.n by omega) (by omega) ⟨by decide, by decide⟩ ⟨by omega, by omega⟩ ⟨by decide, by decide⟩, ?_⟩
    rintro _ K ⟨k2, f2, h2⟩
    exact ih K (k1.tr k2.q) f2 h2
end ISC
section ISD
variable {X : xX} {c : xCx} {I : xIn} {T : NT} {a s t k : Int}
theorem cn_inSteps (hX : xBase X) (d : Nat) (hT : NTok T) (hI : CI I c T) (ha : xin a) (hs : xin s) (ht : xin t) (hk : xin k) : xRet rI X m_X9_inSteps (d + 8) [xr (0, 0), xi a, xi s, xi t, xi k] c I 3 18 (fun v I9 => keepC I I9 ∧ (v, 0) = inStepsA T a s t k) (fun y I9 => keepC I I9 ∧ exL [xIOB, xIAE] y (inStepsA T a s t k).2) := by
  have hwc := wrong_c T a s t
  refine xRet_of hX pl_X9_inSteps (LE1 rfl) fun V hV => rg_X9_inSteps_0 hV I _ _ _ _ (go_ends hX d hT hI ha hs ht (fun x hx hw => ⟨keepC.id9, by unfold inStepsA; rw [wE_p hw]; exact hx.l (by omega)⟩) ?_)
  rintro i s t rfl rfl rfl hi hC hs9 ht9 hst hw
  have hA : inStepsA T (i : Int) (s : Int) (t : Int) k = if 0 ≤ k ∧ k ≤ 8 then (inStepsG (T.G i) (T.hi i) s t (Int.toNat k), 0) else (0, 2) := by unfold inStepsA; rw [hw, wE_0 rfl, tnN, tnN, tnN]
  refine ⟨hk, fun h => ⟨keepC.id9, ?_⟩, fun h0 => ⟨fun h8 => ?_, fun h => ⟨keepC.id9, ?_⟩⟩⟩
  · rw [hA, if_neg (fun q => by omega)]; exact ⟨1, rfl, rfl⟩
  · obtain ⟨k, rfl⟩ := Int.eq_ofNat_of_zero_le h0
    refine ⟨_, st_arriveBy hX (d + 4) hC (hI.nb hT hi) hs9 ht9 hst (T := k) (by omega), ?_⟩
    rintro v K ⟨k1, rfl⟩
    refine ⟨kp.C k1 (by decide), ?_⟩
    rw [hA, if_pos ⟨h0, h8⟩, tnN, inStepsG_cong (hI.hi hi)]
  · rw [hA, if_neg (fun q => by omega)]; exact ⟨1, rfl, rfl⟩
end ISD
section ISM
variable {X : xX} {c : xCx} {I : xIn} {i : Nat} {G : Gr} {lo hi : Nat → Int} {s t : Nat}
theorem nd_0 (b a : Nat) : nd b a = 0 ↔ b &&& a = b := by
  constructor
  · intro h
    refine Nat.eq_of_testBit_eq fun i => ?_
    have := nd_bit b a i
    rw [h, Nat.zero_testBit] at this
    rw [Nat.testBit_and]
    revert this
    cases b.testBit i <;> cases a.testBit i <;> simp
  · intro h
    unfold nd
    rw [h, Nat.xor_self]
end ISM
section ISN
variable {X : xX} {c : xCx} {I : xIn} {T : NT} {a s t k : Int}
end ISN
