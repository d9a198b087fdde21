/-! flow in steps, by the class and by the reference -/
def inStepsA (T : NT) (a s t k : Int) : Int × Int := wE 0 (wrongT T a s t) (if 0 ≤ k ∧ k ≤ 8 then (inStepsG (T.G (Int.toNat a)) (T.hi (Int.toNat a)) (Int.toNat s) (Int.toNat t) (Int.toNat k), 0) else (0, 2))
section ISC
variable {X : xX} {c : xCx} {I : xIn} {i : Nat} {G : Gr} {s t : Nat}
theorem lostF_cong {hi hi9 : Nat → Int} (h : ∀ e, e < G.m → hi e = hi9 e) : lostF G hi = lostF G hi9 := funext fun B => funext fun S => sumE_cong fun e he => by rw [h e he]
theorem nowF_cong {hi hi9 : Nat → Int} (h : ∀ e, e < G.m → hi e = hi9 e) (k : Nat) : nowF G hi s t k = nowF G hi9 s t k := by
  induction k with
  | zero => rfl
  | succ k ih =>
    funext S
    show (if btw s t S then mnb 1000000 _ (fun B => nowF G hi s t k B + lostF G hi B S) (S + 1) else (1000000 : Int)) = (if btw s t S then mnb 1000000 _ (fun B => nowF G hi9 s t k B + lostF G hi9 B S) (S + 1) else (1000000 : Int))
    rw [ih, lostF_cong h]
theorem inStepsG_cong {hi hi9 : Nat → Int} (h : ∀ e, e < G.m → hi e = hi9 e) (k : Nat) : inStepsG G hi s t k = inStepsG G hi9 s t k := by
  unfold inStepsG
  rw [nowF_cong h]
theorem st_arriveBy (hX : xBase X) (d : Nat) (hC : CG I c i G) (hN : NB I i G.m) (hs : s < G.n) (ht : t < G.n) (hst : s ≠ t) {T : Nat} (hT : T ≤ 8) : xRet rI X m_X6_arriveBy (d + 3) [xr (0, 2), xr (i + 3, 0), xi (s : Int), xi (t : Int), xi (T : Int)] c I 0 0 (fun v I9 => kp flP I I9 ∧ v = inStepsG G (I (i + 3, 4)) s t T) xNo := by
  obtain ⟨c1, c2, c3, c4, c5⟩ := id hC
  have hn := c4.2.1
  have hn2 := c4.1
  have hm := c4.2.2.1
  have hGi := c4.in
  refine xRet_of hX pl_X6_arriveBy (LE1 rfl) fun V hV => rg_X6_arriveBy_0 hV I _ c1 _ _ _ ?_
  rw [c2]
  refine ⟨_, fl_startK hX (d + 2) (show G.n ≤ 16 by omega) G.u G.v (fun _ => 0) (I (i + 3, 4)) (fun _ => 1), ?_⟩
  rintro _ J0 ⟨k0, f0, h0⟩
  refine up_to0 (m := G.m) (W := fun k => ∀ J, kp flP I J → FR J (G.n, k, G.u, G.v) → Has J k (fun _ => 0) (I (i + 3, 4)) (fun _ => 1) → V 14 [(0, xr (0, 2)), (1, xr (i + 3, 0)), (2, xi (s : Int)), (3, xi (t : Int)), (4, xi (T : Int)), (5, xi (k : Int))] [] (J, xst c) 0 0) ?_ ?_ J0 (k0.mo (by simp [flP])) f0 h0
  · rintro J k1 f1 h1
    refine rg_X6_arriveBy_14 hV J _ c1 _ _ _ _ ⟨⟨by omega, by omega⟩, fun _ => ⟨_, fl_add hX d (G := G) f1 ht hs (by omega) (lo := 0) (hi := 1000000) (co := -((T : Int) + 1)) ⟨by decide, by decide⟩ ⟨by decide, by decide⟩ ⟨by omega, by omega⟩, ?_⟩, fun h => ?_⟩
    rotate_left
    · rw [kpq.net k1, c3] at h; omega
    rintro _ K ⟨fK, aK⟩
    have hH := aK.has h1
    have kK : kp flP I K := k1.tr (aK.1.mo (by simp [flP]))
    have hlo : ∀ e, e < G.m + 1 → K (0, 9) e = 0 ∧ K (0, 11) e = 0 := fun e he => by
      have := hH e he
      refine ⟨?_, this.2.2.2.2.2⟩
      rw [this.2.2.2.1]
      rcases upL_c (fun _ => (0 : Int)) G.m 0 e with ⟨w1, w2⟩ | ⟨w1, w2⟩ <;> rw [w2] <;> rfl
    have hhi : ∀ e, e < G.m → K (0, 10) e = I (i + 3, 4) e ∧ K (0, 8) e = 1 := fun e he => by
      have := hH e (by omega)
      rw [this.2.2.2.2.1, this.2.2.1, upL_n (by omega), upL_n (by omega)]
      exact ⟨rfl, rfl⟩
    have hmm := hH G.m (by omega)
    have hm10 : K (0, 10) G.m = 1000000 := by rw [hmm.2.2.2.2.1, upL_s]
    have hm8 : K (0, 8) G.m = -((T : Int) + 1) := by rw [hmm.2.2.1, upL_s]
    have hbd9 : Bd9 K (bk G s t).m := fun e he => by
      rw [(hlo e he).1]
      by_cases hem : e = G.m
      · rw [hem, hm10]; omega
      · have he9 : e < G.m := by have : e < G.m + 1 := he; omega
        rw [(hhi e he9).1]
        have := hN e he9
        omega
    have hco : ∀ e, e < (bk G s t).m → K (0, 8) e = coS G.m T e := fun e he => by
      unfold coS
      by_cases hem : e = G.m
      · rw [hem, hm8, if_pos rfl]
      · have he9 : e < G.m := by have : e < G.m + 1 := he; omega
        rw [(hhi e he9).2, if_neg hem]
    have hcob : ∀ e, e < (bk G s t).m → -20 ≤ K (0, 8) e ∧ K (0, 8) e ≤ 20 := fun e he => by
      rw [hco e he]
      unfold coS
      split <;> omega
    have hf0 : FS (bk G s t) (K (0, 9)) (K (0, 10)) (fun _ => 0) (K (0, 11)) := by
      refine ⟨fun e he => ?_, fun x hx => sumE_0 fun e he => ?_⟩
      · rw [(hlo e he).1, (hlo e he).2]
        by_cases hem : e = G.m
        · rw [hem, hm10]; omega
        · have he9 : e < G.m := by have : e < G.m + 1 := he; omega
          rw [(hhi e he9).1]
          have := hN e he9
          omega
      · rw [(hlo e he).2, ite_self, ite_self]; rfl
    have hback : ∀ g, FS (bk G s t) (K (0, 9)) (K (0, 10)) (fun _ => 0) g → (∀ e, e < G.m → 0 ≤ g e ∧ g e ≤ 99) ∧ 0 ≤ g G.m ∧ g G.m ≤ 1600 := by
      intro g hg
      have hge : ∀ e, e < G.m → 0 ≤ g e ∧ g e ≤ 99 := fun e he => by
        have a := hg.1 e (Nat.lt_succ_of_lt he)
        rw [(hlo e (by omega)).1, (hhi e he).1] at a
        have := hN e he
        omega
      have h1 : nout (bk G s t) g s = 0 := hg.2 s hs
      rw [bk_nout, if_neg (Ne.symm hst), if_pos rfl] at h1
      have h2 := sumE_bd (n := G.m) (f := fun e => (if G.u e = s then g e else 0) - (if G.v e = s then g e else 0)) (a := -99) (b := 99) fun e he => by
        have := hge e he
        show -99 ≤ (if G.u e = s then g e else 0) - (if G.v e = s then g e else 0) ∧ (if G.u e = s then g e else 0) - (if G.v e = s then g e else 0) ≤ 99
        split <;> split <;> omega
      have h3 : nout G g s = sumE G.m (fun e => (if G.u e = s then g e else 0) - (if G.v e = s then g e else 0)) := rfl
      have h4 := (hg.1 G.m (Nat.lt_succ_self _)).1
      rw [(hlo G.m (by omega)).1] at h4
      exact ⟨hge, h4, by omega⟩
    have hsplit : ∀ g, costF (bk G s t) (K (0, 8)) g = sumE G.m g - ((T : Int) + 1) * g G.m := fun g => by
      have h1 : costF (bk G s t) (K (0, 8)) g = sumE G.m (fun e => g e * K (0, 8) e) + g G.m * K (0, 8) G.m := rfl
      have h2 : sumE G.m (fun e => g e * K (0, 8) e) = sumE G.m g := sumE_cong fun e he => by rw [(hhi e he).2, Int.mul_one]
      rw [h1, h2, hm8, Int.mul_neg, Int.mul_comm]
      omega
    have hcost : ∀ g, FS (bk G s t) (K (0, 9)) (K (0, 10)) (fun _ => 0) g → -400000 ≤ costF (bk G s t) (K (0, 8)) g ∧ costF (bk G s t) (K (0, 8)) g ≤ 400000 := fun g hg => by
      obtain ⟨a1, a2, a3⟩ := hback g hg
      have h2 := sumE_bd (n := G.m) (f := g) (a := 0) (b := 99) a1
      have h3 := mul_bd (A := 9) (B := 1600) (by omega) (show -9 ≤ (T : Int) + 1 ∧ (T : Int) + 1 ≤ 9 by omega) (show -1600 ≤ g G.m ∧ g G.m ≤ 1600 by omega)
      rw [hsplit]
      omega
    refine ⟨_, fl_cheapen hX d fK (show 1 ≤ G.n by omega) (bk_ne c4 hst) hcob hbd9 hf0 hcost, ?_⟩
    rintro _ N ⟨kN, n1, n2, -⟩
    have kIN : kp flP I N := kK.tr (kN.1.mo (by simp [flP]))
    have n8 : N (0, 8) = K (0, 8) := kN.1 _ (by simp)
    rw [show N (i + 3, 0) = I (i + 3, 0) from kIN _ (by simp [flP]), c3]
    refine ⟨_, fl_sumOfCosts hX (d + 2) (kN.fr fK) (k := G.m + 1) (Nat.le_refl _), ?_⟩
    rintro _ N ⟨rfl, rfl⟩
    refine ⟨kIN, ?_⟩
    have e1 : sumE (G.m + 1) (fun e => N (0, 11) e * N (0, 8) e) = costF (bk G s t) (K (0, 8)) (N (0, 11)) := by rw [n8]; rfl
    rw [e1, hsplit]
    have hPT : PT (bk G s t) (K (0, 9)) (K (0, 10)) (coS G.m T) (N (0, 11)) (N (0, 12)) := PT_cong (fun _ _ => rfl) (fun _ _ => rfl) hco (fun _ _ => rfl) n2
    have hfin := steps_eq c4 (hi := I (i + 3, 4)) (fun e he => by have := hN e he; omega) hT hs ht hst (fun e he => (hlo e he).1) (fun e he => (hhi e he).1) n1 (by rw [hm10]; have := hback _ n1; omega) hPT
    rw [← hfin]
    omega
  · intro k hk ih J k1 f1 h1
    have hl := c4.2.2.2 k hk
    have hb := hN k hk
    refine rg_X6_arriveBy_14 hV J _ c1 _ _ _ _ ⟨⟨by omega, by omega⟩, fun h => ?_, fun _ => ⟨⟨by omega, by omega⟩, ?_⟩⟩
    · rw [kpq.net k1, c3] at h; omega
    rw [tnN, kpq.net k1, kpq.net k1, kpq.net k1, (c5 k hk).1, (c5 k hk).2]
    refine ⟨_, fl_addK hX d f1 h1 (show G.u k < G.n by omega) (show G.v k < G.n by omega) (by omega) ⟨by decide, by decide⟩ ⟨by omega, by omega⟩ ⟨by decide, by decide⟩, ?_⟩
    rintro _ K ⟨k2, f2, h2⟩
    exact ih K (k1.tr k2.q) f2 h2
end ISC
section ISD
variable {X : xX} {c : xCx} {I : xIn} {T : NT} {a s t k : Int}
theorem cn_inSteps (hX : xBase X) (d : Nat) (hT : NTok T) (hI : CI I c T) (ha : xin a) (hs : xin s) (ht : xin t) (hk : xin k) : xRet rI X m_X9_inSteps (d + 8) [xr (0, 0), xi a, xi s, xi t, xi k] c I 3 18 (fun v I9 => keepC I I9 ∧ (v, 0) = inStepsA T a s t k) (fun y I9 => keepC I I9 ∧ exL [xIOB, xIAE] y (inStepsA T a s t k).2) := by
  have hwc := wrong_c T a s t
  refine xRet_of hX pl_X9_inSteps (LE1 rfl) fun V hV => rg_X9_inSteps_0 hV I _ _ _ _ (go_ends hX d hT hI ha hs ht (fun x hx hw => ⟨keepC.id9, by unfold inStepsA; rw [wE_p hw]; exact hx.l (by omega)⟩) ?_)
  rintro i s t rfl rfl rfl hi hC hs9 ht9 hst hw
  have hA : inStepsA T (i : Int) (s : Int) (t : Int) k = if 0 ≤ k ∧ k ≤ 8 then (inStepsG (T.G i) (T.hi i) s t (Int.toNat k), 0) else (0, 2) := by unfold inStepsA; rw [hw, wE_0 rfl, tnN, tnN, tnN]
  refine ⟨hk, fun h => ⟨keepC.id9, ?_⟩, fun h0 => ⟨fun h8 => ?_, fun h => ⟨keepC.id9, ?_⟩⟩⟩
  · rw [hA, if_neg (fun q => by omega)]; exact ⟨1, rfl, rfl⟩
  · obtain ⟨k, rfl⟩ := Int.eq_ofNat_of_zero_le h0
    refine ⟨_, st_arriveBy hX (d + 4) hC (hI.nb hT hi) hs9 ht9 hst (T := k) (by omega), ?_⟩
    rintro v K ⟨k1, rfl⟩
    refine ⟨kp.C k1 (by decide), ?_⟩
    rw [hA, if_pos ⟨h0, h8⟩, tnN, inStepsG_cong (hI.hi hi)]
  · rw [hA, if_neg (fun q => by omega)]; exact ⟨1, rfl, rfl⟩
end ISD
section ISM
variable {X : xX} {c : xCx} {I : xIn} {i : Nat} {G : Gr} {lo hi : Nat → Int} {s t : Nat}
theorem nd_0 (b a : Nat) : nd b a = 0 ↔ b &&& a = b := by
  constructor
  · intro h
    refine Nat.eq_of_testBit_eq fun i => ?_
    have := nd_bit b a i
    rw [h, Nat.zero_testBit] at this
    rw [Nat.testBit_and]
    revert this
    cases b.testBit i <;> cases a.testBit i <;> simp
  · intro h
    unfold nd
    rw [h, Nat.xor_self]
theorem ok_lost (hX : xBase X) (d : Nat) (hG : GrOK G) (hM : MG I i G) (hN : MN I i G.m lo hi) {B S : Nat} (hB : B ≤ 2147483647) (hS : S ≤ 2147483647) : xRet rI X m_X10_lost (d + 1) [xr (1, 0), xi (i : Int), xi (B : Int), xi (S : Int)] c I 0 0 (pv (lostF G hi B S) I) xNo := by
  obtain ⟨h4, hn9, hm9, hE⟩ := id hM
  have hm := hG.2.2.1
  have hn := hG.2.1
  refine xRet_of hX pl_X10_lost (LE1 rfl) fun V hV => rg_X10_lost_0 hV I _ _ _ ?_
  refine up_to0 (m := G.m) (W := fun k => V 6 [(0, xr (1, 0)), (1, xi (i : Int)), (2, xi (B : Int)), (3, xi (S : Int)), (4, xi (sumE k (fun e => if B.testBit (G.u e) && !S.testBit (G.v e) then hi e else 0))), (5, xi (k : Int))] [] (I, xst c) 0 0) ?_ ?_
  · exact rg_X10_lost_6 hV I _ _ _ _ _ ⟨⟨by omega, by omega⟩, ⟨by omega, by omega⟩, fun _ => pvI rfl, fun h => by rw [tnN, hm9] at h; omega⟩
  · intro k hk ih
    have hGk := hG.2.2.2 k hk
    have ih9 : V 6 [(0, xr (1, 0)), (1, xi (i : Int)), (2, xi (B : Int)), (3, xi (S : Int)), (4, xi (sumE k (fun e => if B.testBit (G.u e) && !S.testBit (G.v e) then hi e else 0) + (if B.testBit (G.u k) && !S.testBit (G.v k) then hi k else 0))), (5, xi ((k : Int) + 1))] [] (I, xst c) 0 0 := ih
    refine rg_X10_lost_6 hV I _ _ _ _ _ ⟨⟨by omega, by omega⟩, ⟨by omega, by omega⟩, fun h => by rw [tnN, hm9] at h; omega, fun _ => ⟨⟨by omega, by omega⟩, ?_⟩⟩
    rw [tn16, (hE k hk).1]
    refine ⟨_, ok_has hX d rfl rfl hB (by omega), ?_⟩
    rintro _ J ⟨rfl, rfl⟩
    refine ⟨fun z => ?_, fun z => ?_⟩
    · rw [z] at ih9; exact ih9
    rw [(hE k hk).2]
    refine ⟨_, ok_has hX d rfl rfl hS (by omega), ?_⟩
    rintro _ J ⟨rfl, rfl⟩
    refine ⟨fun y => ?_, fun y => ?_⟩
    · rw [z, y] at ih9; exact ih9
    · rintro _ rfl
      rw [(hN k hk).2]
      rw [z, y] at ih9; exact ih9
theorem ok_parted (hX : xBase X) (d : Nat) (hG : GrOK G) (hM : MG I i G) (hN : MN I i G.m lo hi) (hb : ∀ e, e < G.m → 0 ≤ hi e ∧ hi e ≤ 99) (hs : s < 32) (ht : t < 32) {k S : Nat} (hS : S < 256) (hnow : ∀ B, B ≤ S → I (1, 23) B = nowF G hi s t k B) : xRet rI X m_X10_parted (d + 2) [xr (1, 0), xi (i : Int), xi (s : Int), xi (t : Int), xi (S : Int)] c I 0 0 (pv (mnb 1000000 (fun B => decide (B &&& S = B) && btw s t B) (fun B => nowF G hi s t k B + lostF G hi B S) (S + 1)) I) xNo := by
  have hm := hG.2.2.1
  refine xRet_of hX pl_X10_parted (LE1 rfl) fun V hV => rg_X10_parted_0 hV I _ _ _ _ ?_
  have hnb := fun B => nowF_bd (s := s) (t := t) hm hb k B
  have hlb := fun B => lost_bd (G := G) hm hb B S
  refine up_to0 (m := S + 1) (W := fun B => V 8 [(0, xr (1, 0)), (1, xi (i : Int)), (2, xi (s : Int)), (3, xi (t : Int)), (4, xi (S : Int)), (5, xi (mnb 1000000 (fun B => decide (B &&& S = B) && btw s t B) (fun B => nowF G hi s t k B + lostF G hi B S) B)), (6, xi (B : Int))] [] (I, xst c) 0 0) ?_ ?_
  · exact rg_X10_parted_8 hV I _ _ _ _ _ _ ⟨⟨by omega, by omega⟩, ⟨by omega, by omega⟩, fun _ => pvI rfl, fun h => by omega⟩
  · intro B hB ih
    have hmb := mnb_bd (p := fun B => decide (B &&& S = B) && btw s t B) (b := 1000000) (f := fun B => nowF G hi s t k B + lostF G hi B S) (z := 2000000) ⟨by decide, by decide⟩ (fun B => by have := hnb B; have := hlb B; show -2000000 ≤ nowF G hi s t k B + lostF G hi B S ∧ nowF G hi s t k B + lostF G hi B S ≤ 2000000; omega) B
    have hnB := hnb B
    have hlB := hlb B
    rw [mnb] at ih
    refine rg_X10_parted_8 hV I _ _ _ _ _ _ ⟨⟨by omega, by omega⟩, ⟨by omega, by omega⟩, fun h => by omega, fun _ => ?_⟩
    rw [v_andnot (by omega)]
    refine ⟨fun z => ?_, fun z => ?_⟩
    · have : ¬ B &&& S = B := fun q => z (by rw [(nd_0 B S).2 q]; rfl)
      rw [decide_eq_false this] at ih
      exact ih
    · have h0 : B &&& S = B := (nd_0 B S).1 (by omega)
      rw [decide_eq_true h0, Bool.true_and] at ih
      refine ⟨_, ok_isBetween hX d (S := B) (by omega) hs ht, ?_⟩
      rintro _ J ⟨rfl, rfl⟩
      have hbt : (B.testBit s && !B.testBit t) = btw s t B := rfl
      rw [hbt]
      refine ⟨fun y => ?_, fun y => ⟨⟨by omega, by omega⟩, _, ok_lost hX d hG hM hN (by omega) (by omega), ?_⟩⟩
      · rw [y] at ih; exact ih
      rintro _ J ⟨rfl, rfl⟩
      rw [tnN, hnow B (by omega)]
      refine ⟨_, ok_min hX (d + 1) ⟨by omega, by omega⟩ ⟨by omega, by omega⟩, ?_⟩
      rintro _ J ⟨rfl, rfl⟩
      rw [y] at ih; exact ih
end ISM
section ISN
variable {X : xX} {c : xCx} {I : xIn} {T : NT} {a s t k : Int}
theorem ok_inSteps (hX : xBase X) (d : Nat) (hT : NTok T) (hI : MI I T) (ha : xin a) (hs : xin s) (ht : xin t) (hk : xin k) : xRet rI X m_X10_inSteps (d + 4) [xr (1, 0), xi a, xi s, xi t, xi k] c I 0 0 (fun v I9 => keepM I I9 ∧ (v, I9 (1, 0) 32) = inStepsA T a s t k) xNo := by
  have hwc := wrong_c T a s t
  refine xRet_of hX pl_X10_inSteps (LE1 rfl) fun V hV => rg_X10_inSteps_0 hV I _ _ _ _ (mo_wrong hX d hT hI ha hs ht fun J k1 e32 => ?_)
  have bad : ∀ K, keepM I K → ∀ w : Int, 0 < w → w ≤ 3 → inStepsA T a s t k = (0, w) → V 42 [(0, xr (1, 0)), (1, xi a), (2, xi s), (3, xi t), (4, xi k)] [xi w, xr (1, 0)] (K, xst c) 0 0 := fun K hK w w0 w3 hA => rg_X10_inSteps_42 hV K _ _ _ _ _ ⟨⟨by omega, by omega⟩, by
    rintro K2 rfl
    rw [xu_same]
    exact ⟨fun h => by omega, fun _ => ⟨hK.tr (keepM.thrown _), by rw [hA]⟩⟩⟩
  rw [e32]
  refine ⟨fun h => ⟨_, ok_in hX (d + 3) hk ⟨by decide, by decide⟩ ⟨by decide, by decide⟩, ?_⟩, fun h => bad J k1 _ h (by omega) (by unfold inStepsA; rw [wE_p h])⟩
  rintro _ J ⟨rfl, rfl⟩
  obtain ⟨i, s, t, rfl, rfl, rfl, hi, hs9, ht9, hst⟩ := wrong_0 h
  have hw : wrongT T (i : Int) (s : Int) (t : Int) = 0 := by omega
  have hA : inStepsA T (i : Int) (s : Int) (t : Int) k = if 0 ≤ k ∧ k ≤ 8 then (inStepsG (T.G i) (T.hi i) s t (Int.toNat k), 0) else (0, 2) := by unfold inStepsA; rw [hw, wE_0 rfl, tnN, tnN, tnN]
  refine ⟨fun z => ?_, fun z => bad J k1 2 (by decide) (by decide) (by rw [hA, if_neg (of_decide_eq_false z)])⟩
  have hz := of_decide_eq_true z
  rw [if_pos hz] at hA
  obtain ⟨k, rfl⟩ := Int.eq_ofNat_of_zero_le hz.1
  rw [tnN] at hA
  obtain ⟨hG, hB, -⟩ := hT.2 i hi
  have hn := hG.2.1
  have hm := hG.2.2.1
  have h4 := hT.1
  have g2 := pow2_le8 hn
  have hbb := hT.hb hi
  refine rg_X10_inSteps_42 hV J _ _ _ _ _ ⟨⟨by decide, by decide⟩, ?_⟩
  rintro J0 hJ0
  have j32 : J0 (1, 0) 32 = 0 := by rw [hJ0, xu_same]
  have k0 : keepM I J0 := k1.tr (by rw [hJ0]; exact keepM.thrown _)
  clear hJ0
  rw [j32]
  refine ⟨fun _ => ?_, fun z => absurd z (by decide)⟩
  obtain ⟨hM, hN, -⟩ := (hI.keep k0).2.2 i hi
  have hdef : inStepsG (T.G i) (T.hi i) s t k = mnb 1000000 (btw s t) (nowF (T.G i) (T.hi i) s t k) (2 ^ (T.G i).n) := rfl
  rw [hdef] at hA
  clear hdef
  have kin : ∀ K, kp [(1, 23), (1, 24)] J0 K → keepM I K := fun K hK => k0.tr ⟨fun p hp => hK p (by
    intro hm
    simp only [List.mem_cons, List.not_mem_nil, or_false] at hm
    rcases hm with rfl | rfl <;> simp at hp), fun k _ _ _ => by rw [hK (1, 0) (by decide)]⟩
  have hnb := fun q B => nowF_bd (s := s) (t := t) hm hbb q B
  generalize hNN : 2 ^ (T.G i).n = N at g2 hA
  have hsets : ∀ (K : xIn), kp [(1, 23), (1, 24)] J0 K → xRet rI X m_X10_sets (d + 3) [xr (1, 0), xi (i : Int)] c K 0 0 (pv (N : Int) K) xNo := fun K hK => ok_setsN hX (d + 3) hG (hM.k9 hK (by simp) (by simp) (by simp) (by simp)) hNN
  -- the end
  have fin : ∀ K, kp [(1, 23), (1, 24)] J0 K → (∀ B, B < N → K (1, 23) B = nowF (T.G i) (T.hi i) s t k B) → V 189 [(0, xr (1, 0)), (1, xi (i : Int)), (2, xi (s : Int)), (3, xi (t : Int)), (5, xi 1000000), (6, xi 0)] [] (K, xst c) 0 0 := by
    intro K kK hK
    refine up_to0 (m := N) (W := fun S => V 189 [(0, xr (1, 0)), (1, xi (i : Int)), (2, xi (s : Int)), (3, xi (t : Int)), (5, xi (mnb 1000000 (btw s t) (nowF (T.G i) (T.hi i) s t k) S)), (6, xi (S : Int))] [] (K, xst c) 0 0) ?_ ?_
    · refine rg_X10_inSteps_189 hV K _ _ _ _ _ ⟨_, hsets K kK, ?_⟩
      rintro _ K ⟨rfl, rfl⟩
      exact ⟨⟨by omega, by omega⟩, ⟨by omega, by omega⟩, fun _ => ⟨kin K kK, by rw [hA, kK _ (by simp), j32]⟩, fun h => by omega⟩
    · intro S hS ih
      have hmb := mnb_bd (p := btw s t) (b := 1000000) (f := nowF (T.G i) (T.hi i) s t k) (z := 2000000) ⟨by decide, by decide⟩ (fun B => by have := hnb k B; omega) S
      have hnS := hnb k S
      rw [mnb] at ih
      refine rg_X10_inSteps_189 hV K _ _ _ _ _ ⟨_, hsets K kK, ?_⟩
      rintro _ K ⟨rfl, rfl⟩
      refine ⟨⟨by omega, by omega⟩, ⟨by omega, by omega⟩, fun h => by omega, fun _ => ⟨_, ok_isBetween hX (d + 2) (by omega) (by omega) (by omega), ?_⟩⟩
      rintro _ K ⟨rfl, rfl⟩
      refine ⟨fun y => ?_, fun y => ⟨⟨by omega, by omega⟩, ?_⟩⟩
      · rw [show btw s t S = false from y] at ih; exact ih
      rw [tnN, hK S hS]
      refine ⟨_, ok_min hX (d + 3) ⟨by omega, by omega⟩ ⟨by omega, by omega⟩, ?_⟩
      rintro _ K ⟨rfl, rfl⟩
      rw [show btw s t S = true from y] at ih; exact ih
  -- the steps
  have steps : ∀ K, kp [(1, 23), (1, 24)] J0 K → (∀ B, B < N → K (1, 23) B = nowF (T.G i) (T.hi i) s t 0 B) → V 84 [(0, xr (1, 0)), (1, xi (i : Int)), (2, xi (s : Int)), (3, xi (t : Int)), (4, xi (k : Int)), (5, xi 0)] [] (K, xst c) 0 0 := by
    refine up_to0 (m := k) (W := fun q => ∀ K, kp [(1, 23), (1, 24)] J0 K → (∀ B, B < N → K (1, 23) B = nowF (T.G i) (T.hi i) s t q B) → V 84 [(0, xr (1, 0)), (1, xi (i : Int)), (2, xi (s : Int)), (3, xi (t : Int)), (4, xi (k : Int)), (5, xi (q : Int))] [] (K, xst c) 0 0) ?_ ?_
    · intro K kK hK
      exact rg_X10_inSteps_84 hV K _ _ _ _ _ ⟨⟨by omega, by omega⟩, ⟨by omega, by omega⟩, fun _ => fin K kK hK, fun h => by omega⟩
    · intro q hq ih K kK hK
      refine rg_X10_inSteps_84 hV K _ _ _ _ _ ⟨⟨by omega, by omega⟩, ⟨by omega, by omega⟩, fun h => by omega, fun _ => ?_⟩
      -- copied back
      have copy : ∀ Y, kp [(1, 23), (1, 24)] J0 Y → (∀ B, B < N → Y (1, 24) B = nowF (T.G i) (T.hi i) s t (q + 1) B) → V 145 [(0, xr (1, 0)), (1, xi (i : Int)), (2, xi (s : Int)), (3, xi (t : Int)), (4, xi (k : Int)), (5, xi (q : Int)), (6, xi 0)] [] (Y, xst c) 0 0 := by
        intro Y kY hY
        refine up_to0 (m := N) (W := fun S => ∀ Z, kp [(1, 23), (1, 24)] J0 Z → Z (1, 24) = Y (1, 24) → (∀ B, B < S → Z (1, 23) B = nowF (T.G i) (T.hi i) s t (q + 1) B) → V 145 [(0, xr (1, 0)), (1, xi (i : Int)), (2, xi (s : Int)), (3, xi (t : Int)), (4, xi (k : Int)), (5, xi (q : Int)), (6, xi (S : Int))] [] (Z, xst c) 0 0) ?_ ?_ Y kY rfl (fun B hB => absurd hB (Nat.not_lt_zero B))
        · intro Z kZ e24 hZ
          refine rg_X10_inSteps_145 hV Z _ _ _ _ _ _ ⟨_, hsets Z kZ, ?_⟩
          rintro _ Z ⟨rfl, rfl⟩
          exact ⟨⟨by omega, by omega⟩, ⟨by omega, by omega⟩, fun _ => ih Z kZ hZ, fun h => by omega⟩
        · intro S hS ih2 Z kZ e24 hZ
          refine rg_X10_inSteps_145 hV Z _ _ _ _ _ _ ⟨_, hsets Z kZ, ?_⟩
          rintro _ Z ⟨rfl, rfl⟩
          refine ⟨⟨by omega, by omega⟩, ⟨by omega, by omega⟩, fun h => by omega, fun _ => ⟨⟨by omega, by omega⟩, ?_⟩⟩
          rintro _ rfl
          rw [tnN]
          refine ih2 _ (kZ.xu (by simp)) (by rw [xu_p (by decide)]; exact e24) fun B hB => ?_
          rw [xuL]
          rcases upL_c (Z (1, 23)) S (Z (1, 24) S) B with ⟨w1, w2⟩ | ⟨w1, w2⟩
          · rw [w2, w1, e24]; exact hY S hS
          · rw [w2]; exact hZ B (by omega)
      refine up_to0 (m := N) (W := fun S => ∀ Z, kp [(1, 23), (1, 24)] J0 Z → Z (1, 23) = K (1, 23) → (∀ B, B < S → Z (1, 24) B = nowF (T.G i) (T.hi i) s t (q + 1) B) → V 94 [(0, xr (1, 0)), (1, xi (i : Int)), (2, xi (s : Int)), (3, xi (t : Int)), (4, xi (k : Int)), (5, xi (q : Int)), (6, xi (S : Int))] [] (Z, xst c) 0 0) ?_ ?_ K kK rfl (fun B hB => absurd hB (Nat.not_lt_zero B))
      · intro Z kZ e23 hZ
        refine rg_X10_inSteps_94 hV Z _ _ _ _ _ _ ⟨_, hsets Z kZ, ?_⟩
        rintro _ Z ⟨rfl, rfl⟩
        exact ⟨⟨by omega, by omega⟩, ⟨by omega, by omega⟩, fun _ => copy Z kZ hZ, fun h => by omega⟩
      · intro S hS ih2 Z kZ e23 hZ
        have put : ∀ v : Int, v = nowF (T.G i) (T.hi i) s t (q + 1) S → V 94 [(0, xr (1, 0)), (1, xi (i : Int)), (2, xi (s : Int)), (3, xi (t : Int)), (4, xi (k : Int)), (5, xi (q : Int)), (6, xi ((S : Int) + 1))] [] (xu Z (1, 24) (Int.toNat (S : Int)) v, xst c) 0 0 := fun v hv => by
          refine ih2 _ (kZ.xu (by simp)) (by rw [xu_p (by decide)]; exact e23) fun B hB => ?_
          rw [xuL, tnN]
          rcases upL_c (Z (1, 24)) S v B with ⟨w1, w2⟩ | ⟨w1, w2⟩
          · rw [w2, w1]; exact hv
          · rw [w2]; exact hZ B (by omega)
        have hnS := hnb (q + 1) S
        have hnow : nowF (T.G i) (T.hi i) s t (q + 1) S = if btw s t S then mnb 1000000 (fun B => decide (B &&& S = B) && btw s t B) (fun B => nowF (T.G i) (T.hi i) s t q B + lostF (T.G i) (T.hi i) B S) (S + 1) else 1000000 := rfl
        refine rg_X10_inSteps_94 hV Z _ _ _ _ _ _ ⟨_, hsets Z kZ, ?_⟩
        rintro _ Z ⟨rfl, rfl⟩
        refine ⟨⟨by omega, by omega⟩, ⟨by omega, by omega⟩, fun h => by omega, fun _ => ⟨_, ok_isBetween hX (d + 2) (by omega) (by omega) (by omega), ?_⟩⟩
        rintro _ Z ⟨rfl, rfl⟩
        have hbt : (S.testBit s && !S.testBit t) = btw s t S := rfl
        rw [hbt]
        refine ⟨fun y => ⟨⟨by omega, by omega⟩, ?_⟩, fun y => ⟨_, ok_parted hX (d + 1) hG (hM.k9 kZ (by simp) (by simp) (by simp) (by simp)) (hN.k9 kZ (by simp) (by simp)) hbb (by omega) (by omega) (k := q) (S := S) (by omega) (fun B hB => by rw [e23]; exact hK B (by omega)), ?_⟩⟩
        · rintro _ rfl
          exact put _ (by rw [hnow, y]; rfl)
        rintro _ Z ⟨rfl, rfl⟩
        rw [y, if_pos rfl] at hnow
        rw [← hnow]
        refine ⟨⟨by omega, by omega⟩, ⟨by omega, by omega⟩, ?_⟩
        rintro _ rfl
        exact put _ rfl
  -- the beginning
  refine up_to0 (m := N) (W := fun S => ∀ Z, kp [(1, 23), (1, 24)] J0 Z → (∀ B, B < S → Z (1, 23) B = 0) → V 57 [(0, xr (1, 0)), (1, xi (i : Int)), (2, xi (s : Int)), (3, xi (t : Int)), (4, xi (k : Int)), (5, xi (S : Int))] [] (Z, xst c) 0 0) ?_ ?_ J0 kp.rfl (fun B hB => absurd hB (Nat.not_lt_zero B))
  · intro Z kZ hZ
    refine rg_X10_inSteps_57 hV Z _ _ _ _ _ ⟨_, hsets Z kZ, ?_⟩
    rintro _ Z ⟨rfl, rfl⟩
    exact ⟨⟨by omega, by omega⟩, ⟨by omega, by omega⟩, fun _ => steps Z kZ hZ, fun h => by omega⟩
  · intro S hS ih Z kZ hZ
    refine rg_X10_inSteps_57 hV Z _ _ _ _ _ ⟨_, hsets Z kZ, ?_⟩
    rintro _ Z ⟨rfl, rfl⟩
    refine ⟨⟨by omega, by omega⟩, ⟨by omega, by omega⟩, fun h => by omega, fun _ => ⟨⟨by omega, by omega⟩, ?_⟩⟩
    rintro _ rfl
    refine ih _ (kZ.xu (by simp)) fun B hB => ?_
    rw [xuL, tnN]
    rcases upL_c (Z (1, 23)) S 0 B with ⟨w1, w2⟩ | ⟨w1, w2⟩
    · exact w2
    · rw [w2]; exact hZ B (by omega)
end ISN
