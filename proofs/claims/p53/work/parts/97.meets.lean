/-! holds, meets, breaks -/
theorem lxC_cong {G : Gr} {lo hi lo9 hi9 b b9 : Nat → Int} (h1 : ∀ k, k < G.m → lo k = lo9 k) (h2 : ∀ k, k < G.m → hi k = hi9 k) (h3 : ∀ x, x < G.n → b x = b9 x) {k : Nat} (hk : k ≤ G.m) : ∀ e, e < G.m → (lxC G lo hi b k).1 e = (lxC G lo9 hi9 b9 k).1 e ∧ (lxC G lo hi b k).2 e = (lxC G lo9 hi9 b9 k).2 e := by
  induction k with
  | zero => exact fun e he => ⟨h1 e he, h2 e he⟩
  | succ k ih =>
    have ih := ih (by omega)
    have hl := leastC_cong (G := G) (e := k) (by omega) (fun j hj => (ih j hj).1) (fun j hj => (ih j hj).2) h3
    intro e he
    rw [lxC, lxC]
    dsimp only
    rw [hl]
    by_cases hek : e = k
    · rw [hek, upL_s, upL_s, upL_s, upL_s]; exact ⟨rfl, rfl⟩
    · rw [upL_n hek, upL_n hek, upL_n hek, upL_n hek]; exact ih e he
theorem brkF_cong {G : Gr} {lo hi su lo9 hi9 su9 : Nat → Int} (h1 : ∀ e, e < G.m → lo e = lo9 e) (h2 : ∀ e, e < G.m → hi e = hi9 e) (h3 : ∀ x, x < G.n → su x = su9 x) : brkF G lo hi su = brkF G lo9 hi9 su9 := by unfold brkF; rw [brkP_cong h1 h2 h3]
theorem brkF_flow {G : Gr} {lo hi su f : Nat → Int} (hG : GrIn G) (h : FS G lo hi su f) : brkF G lo hi su = -1 := ff_none fun S _ => brk_none hG h S
theorem bSp_bd {n : Nat} {b : Nat → Int} {S : Nat} (hb : ∀ x, x < n → -99 ≤ b x ∧ b x ≤ 99) : -(n * 99 : Int) ≤ sumE n (fun x => if S.testBit x then b x else 0) ∧ sumE n (fun x => if S.testBit x then b x else 0) ≤ n * 99 := by
  have := sumE_bd (n := n) (f := fun x => if S.testBit x then b x else 0) (a := -99) (b := 99) (fun x hx => by
    have := hb x hx
    split <;> omega)
  omega
theorem bS_if (n : Nat) (b : Nat → Int) (S : Nat) : bS n b S = sumE n (fun x => if S.testBit x then b x else 0) := sumE_cong fun x hx => by
  unfold ind
  cases S.testBit x
  · show (0 : Int) * b x = 0; omega
  · show (1 : Int) * b x = b x; omega
section DEM
variable {X : xX} {c : xCx} {I : xIn} {i : Nat} {G : Gr}
theorem cu_isBroken (hX : xBase X) (d : Nat) (hC : CG I c i G) (hN : NB I i G.m) (hS9 : ∀ x, x < G.n → -99 ≤ I (i + 3, 6) x ∧ I (i + 3, 6) x ≤ 99) {S : Nat} (hS : S ≤ 2147483647) : xRet rB X m_X0_isBroken (d + 1) [xr (0, 15), xr (i + 3, 0), xi (S : Int)] c I 0 0 (fun v I9 => kp [(0, 15)] I I9 ∧ v = brkP G (I (i + 3, 3)) (I (i + 3, 4)) (I (i + 3, 6)) S) xNo := by
  obtain ⟨hi, hn, hm, hG, hE⟩ := id hC
  have hn8 := hG.2.1
  have hm16 := hG.2.2.1
  have hdef : brkP G (I (i + 3, 3)) (I (i + 3, 4)) (I (i + 3, 6)) S = (decide (sOut G (I (i + 3, 4)) S - sIn G (I (i + 3, 3)) S < sumE G.n (fun x => if S.testBit x then I (i + 3, 6) x else 0)) || decide (sumE G.n (fun x => if S.testBit x then I (i + 3, 6) x else 0) < sOut G (I (i + 3, 3)) S - sIn G (I (i + 3, 4)) S)) := by
    unfold brkP; rw [bS_if]
  rw [hdef]
  refine xRet_of hX pl_X0_isBroken (LE1 rfl) fun V hV => rg_X0_isBroken_0 hV I i hi _ ?_
  refine up_to0 (m := G.n) (W := fun k => V 5 [(0, xr (0, 15)), (1, xr (i + 3, 0)), (2, xi (S : Int)), (3, xi (sumE k (fun x => if S.testBit x then I (i + 3, 6) x else 0))), (4, xi (k : Int))] [] (I, xst c) 0 0) ?_ ?_
  · have hb := bSp_bd (S := S) hS9
    refine rg_X0_isBroken_5 hV I i hi _ _ _ ⟨⟨by omega, by omega⟩, fun _ => ⟨_, cu_weigh hX d hC hN hS, ?_⟩, fun h => by omega⟩
    rintro _ J ⟨k1, w0, w1, w2, w3, -⟩
    rw [pOut_all] at w0 w1
    rw [pIn_all] at w2 w3
    rw [w0, w1, w2, w3]
    have b1 := sOut_bd (G := G) hm16 (b := I (i + 3, 4)) (S := S) (z := 100) (by decide) (fun e he => by have := hN e he; omega)
    have b2 := sOut_bd (G := G) hm16 (b := I (i + 3, 3)) (S := S) (z := 100) (by decide) (fun e he => by have := hN e he; omega)
    have b3 := sIn_bd (G := G) hm16 (b := I (i + 3, 4)) (S := S) (z := 100) (by decide) (fun e he => by have := hN e he; omega)
    have b4 := sIn_bd (G := G) hm16 (b := I (i + 3, 3)) (S := S) (z := 100) (by decide) (fun e he => by have := hN e he; omega)
    refine ⟨⟨by omega, by omega⟩, ⟨by omega, by omega⟩, fun h => ⟨k1, ?_⟩, fun h => ⟨⟨by omega, by omega⟩, fun h2 => ⟨k1, ?_⟩, fun h2 => ⟨k1, ?_⟩⟩⟩
    · rw [decide_eq_true h, Bool.true_or]
    · rw [decide_eq_false (by omega), decide_eq_false (by omega)]; rfl
    · rw [decide_eq_true h2, Bool.or_true]
  · intro k hk ih
    rw [sumE] at ih
    refine rg_X0_isBroken_5 hV I i hi _ _ _ ⟨⟨by omega, by omega⟩, fun h => by omega, fun _ => ⟨_, cn_hasBit hX d hS (by omega), ?_⟩⟩
    rintro _ _ ⟨rfl, rfl⟩
    refine ⟨fun z => ?_, fun z => ⟨⟨by omega, by omega⟩, ?_⟩⟩
    · rw [if_neg (by rw [z]; decide)] at ih; exact ih
    · rw [tnN]
      rintro _ rfl
      rw [if_pos z] at ih; exact ih
theorem cu_leastBreaker (hX : xBase X) (d : Nat) (hC : CG I c i G) (hN : NB I i G.m) (hS9 : ∀ x, x < G.n → -99 ≤ I (i + 3, 6) x ∧ I (i + 3, 6) x ≤ 99) : xRet rI X m_X0_leastBreaker (d + 2) [xr (0, 15), xr (i + 3, 0)] c I 0 0 (fun v I9 => kp [(0, 15)] I I9 ∧ v = brkF G (I (i + 3, 3)) (I (i + 3, 4)) (I (i + 3, 6))) xNo := by
  obtain ⟨hi, hn, hm, hG, hE⟩ := id hC
  have hn8 := hG.2.1
  have g2 := pow2_le8 hn8
  have hsh := v_pow hn8
  have gp : 0 < 2 ^ G.n := Nat.two_pow_pos _
  have h0 : brkP G (I (i + 3, 3)) (I (i + 3, 4)) (I (i + 3, 6)) 0 = false := brk_0
  unfold brkF
  generalize hp : brkP G (I (i + 3, 3)) (I (i + 3, 4)) (I (i + 3, 6)) = p at h0
  generalize hN9 : 2 ^ G.n = N at g2 hsh gp
  refine xRet_of hX pl_X0_leastBreaker (LE1 rfl) fun V hV => rg_X0_leastBreaker_0 hV I i hi ?_
  refine up_to (m := N) (W := fun S => ∀ J, kp [(0, 15)] I J → (∀ T, T < S → p T = false) → V 2 [(0, xr (0, 15)), (1, xr (i + 3, 0)), (2, xi (S : Int))] [] (J, xst c) 0 0) ?_ ?_ 1 gp I kp.rfl (fun T hT => by rw [show T = 0 by omega]; exact h0)
  · intro J k1 hno
    refine rg_X0_leastBreaker_2 hV J i hi _ ⟨⟨by omega, by omega⟩, fun _ => ⟨k1, (ff_none hno).symm⟩, fun h => ?_⟩
    rw [k1 (i + 3, 0) (by simp), hn, hsh] at h; omega
  · intro S hS ih J k1 hno
    have hnet : ∀ j, J (i + 3, j) = I (i + 3, j) := fun j => k1 _ (by simp)
    refine rg_X0_leastBreaker_2 hV J i hi _ ⟨⟨by omega, by omega⟩, fun h => ?_, fun _ => ⟨_, cu_isBroken hX d (hC.eq hnet) (hN.eq hnet) (by rw [hnet]; exact hS9) (by omega), ?_⟩⟩
    · rw [hnet, hn, hsh] at h; omega
    rw [hnet, hnet, hnet, hp]
    rintro _ K ⟨k2, rfl⟩
    refine ⟨fun z => ih K (k1.tr k2) (fun T hT => ?_), fun z => ⟨k1.tr k2, (ff_hit hS z hno).symm⟩⟩
    by_cases hTS : T = S
    · rw [hTS]; exact z
    · exact hno T (by omega)
theorem st_meetDemands (hX : xBase X) (d : Nat) (hC : CG I c i G) (hN : NB I i G.m) (hS9 : ∀ x, x < G.n → -99 ≤ I (i + 3, 6) x ∧ I (i + 3, 6) x ≤ 99) : xRet rB X m_X6_meetDemands (d + 6) [xr (0, 2), xr (i + 3, 0)] c I 0 0 (fun v I9 => kp flP I I9 ∧ ((v = true ∧ FR I9 (huG G (I (i + 3, 6)) G.n) ∧ In9 I9 (huG G (I (i + 3, 6)) G.n).m ∧ Bd9 I9 (huG G (I (i + 3, 6)) G.n).m ∧ (∀ x, nout (huG G (I (i + 3, 6)) G.n) (I9 (0, 11)) x = 0) ∧ (∀ e, e < (huG G (I (i + 3, 6)) G.n).m → I9 (0, 10) e - I9 (0, 9) e ≤ 1000000) ∧ HubB G (I (i + 3, 6)) (I (i + 3, 3)) (I (i + 3, 4)) (I9 (0, 9)) (I9 (0, 10)) ∧ ∃ f, FS G (I (i + 3, 3)) (I (i + 3, 4)) (I (i + 3, 6)) f) ∨ (v = false ∧ brkF G (I (i + 3, 3)) (I (i + 3, 4)) (I (i + 3, 6)) ≠ -1))) xNo := by
  obtain ⟨hi, hn, hm, hG, hE⟩ := id hC
  have hn8 := hG.2.1
  have hm16 := hG.2.2.1
  generalize hsu : I (i + 3, 6) = su at hS9
  generalize hlo : I (i + 3, 3) = lo
  generalize hhi : I (i + 3, 4) = hi9
  refine xRet_of hX pl_X6_meetDemands (LE1 rfl) fun V hV => rg_X6_meetDemands_0 hV I i hi ?_
  rw [hn]
  refine ⟨_, fl_startK hX (d + 5) (n := G.n + 1) (by omega) G.u G.v lo hi9 (I (i + 3, 5)), ?_⟩
  rintro _ J1 ⟨k1, f1, h1⟩
  have hn1 : ∀ j, J1 (i + 3, j) = I (i + 3, j) := fun j => k1 _ (by simp)
  refine ⟨_, st_addEdges hX (d + 2) (hC.eq hn1) (hN.eq hn1) (Nat.le_succ _) f1, ?_⟩
  rintro _ J2 ⟨k2, f2, h2⟩
  rw [hn1, hn1, hn1, hlo, hhi] at h2
  refine up_to0 (m := G.n) (W := fun x => ∀ J, kp flP I J → FR J (huG G su x) → (∃ co, Has J (huG G su x).m (huB G su lo x) (huB G su hi9 x) co) → V 25 [(0, xr (0, 2)), (1, xr (i + 3, 0)), (2, xi (G.n : Int)), (3, xi (x : Int))] [] (J, xst c) 0 0) ?_ ?_ J2 ((k1.mo (by simp [flP])).tr k2.q) f2 ⟨_, h2⟩
  · rintro J kJ fJ ⟨co, hJ⟩
    have hmm := hu_n (G := G) (su := su) G.n
    have hne := (hu_in (su := su) hG (Nat.le_refl _)).2
    have hbnd : ∀ e, e < (huG G su G.n).m → 0 ≤ huB G su lo G.n e ∧ huB G su lo G.n e ≤ huB G su hi9 G.n e ∧ huB G su hi9 G.n e ≤ 99 := fun e he => by
      by_cases hem : e < G.m
      · rw [huB_lo hem, huB_lo hem]
        have := hN e hem
        rw [hlo, hhi] at this; omega
      · have q1 := huB_bd (lo := lo) hS9 (show G.m ≤ e by omega) G.n (Nat.le_refl _) he
        have q2 := huB_eq (su := su) (lo := lo) (hi := hi9) (show G.m ≤ e by omega) G.n he
        omega
    have hL : Laid J (huG G su G.n).m := fun e he => by
      obtain ⟨g1, g2, -, g4, g5, g6⟩ := hJ e he
      have := hbnd e he
      rw [g1, g2, g4, g5, g6]
      exact ⟨rfl, rfl, rfl, by omega, by omega, by omega, by omega⟩
    refine rg_X6_meetDemands_25 hV J i hi _ _ ⟨⟨by omega, by omega⟩, fun _ => ⟨_, fl_settle hX (d + 2) fJ hne hL, ?_⟩, fun h => ?_⟩
    · rintro v K ⟨kk, ⟨rfl, s1, s2, s3⟩ | ⟨rfl, S, s1, s2⟩⟩
      · have e9 : ∀ e, e < (huG G su G.n).m → K (0, 9) e = huB G su lo G.n e ∧ K (0, 10) e = huB G su hi9 G.n e := fun e he => by
          rw [(s1 e he).1, (s1 e he).2, (hJ e he).1, (hJ e he).2.1]; exact ⟨rfl, rfl⟩
        have hB : HubB G su lo hi9 (K (0, 9)) (K (0, 10)) := by
          refine ⟨fun e he => ?_, fun e e1 e2 => ?_⟩
          · rw [(e9 e (by omega)).1, (e9 e (by omega)).2, huB_lo he, huB_lo he]; exact ⟨rfl, rfl⟩
          · rw [(e9 e e2).1, (e9 e e2).2, huB_eq (su := su) (lo := hi9) (hi := lo) e1 G.n e2]; exact ⟨rfl, rfl⟩
        refine ⟨kJ.tr kk.q, Or.inl ⟨rfl, kk.fr fJ, s2, fun e he => ?_, s3, fun e he => ?_, hB, _, hub_to hG.in hB ⟨s2, fun x _ => s3 x⟩⟩⟩
        · rw [(e9 e he).1, (e9 e he).2]; have := hbnd e he; omega
        · rw [(e9 e he).1, (e9 e he).2]; have := hbnd e he; omega
      · refine ⟨kJ.tr kk.q, Or.inr ⟨rfl, ?_⟩⟩
        rw [hmm.1] at s1
        rw [sIn_cong (g := huB G su hi9 G.n) (fun e he => (hJ e he).2.1), sOut_cong (g := huB G su lo G.n) (fun e he => (hJ e he).1)] at s2
        obtain ⟨C, c1, c2⟩ := brk_of hG s1 s2
        intro h0
        unfold brkF at h0
        rcases ff_cases (brkP G lo hi9 su) (2 ^ G.n) with ⟨-, q⟩ | ⟨T, q1, q2, -, -⟩
        · rw [q C c1] at c2; cases c2
        · rw [q2] at h0; omega
    · rw [kpq.net kJ, hn] at h; omega
  · rintro x hx ih J kJ fJ ⟨co, hJ⟩
    have hmm := hu_n (G := G) (su := su) x
    have hb := hS9 x hx
    rw [huG, huB, huB] at ih
    refine rg_X6_meetDemands_25 hV J i hi _ _ ⟨⟨by omega, by omega⟩, fun h => ?_, fun _ => ⟨⟨by omega, by omega⟩, ?_⟩⟩
    · rw [kpq.net kJ, hn] at h; omega
    rw [tnN, kpq.net kJ, hsu]
    rintro _ rfl
    refine ⟨fun c1 => ⟨fun c2 => ?_, fun c2 => ?_⟩, fun c1 => ?_⟩
    · rw [if_neg (by omega), if_neg (by omega), if_neg (by omega), if_neg (by omega), if_neg (by omega), if_neg (by omega)] at ih
      exact ih J kJ fJ ⟨co, hJ⟩
    · rw [if_neg (by omega), if_pos c2, if_neg (by omega), if_pos c2, if_neg (by omega), if_pos c2] at ih
      refine ⟨_, fl_add hX (d + 3) fJ (a := x) (b := G.n) (by omega) (by omega) (by omega) ⟨by omega, by omega⟩ ⟨by omega, by omega⟩ ⟨by decide, by decide⟩, ?_⟩
      rintro _ K ⟨a1, a2⟩
      exact ih K (kJ.tr (kpA.q ⟨a2.1, a2.2.1⟩)) a1 ⟨_, Added.has hJ a2⟩
    · rw [if_pos c1, if_pos c1, if_pos c1] at ih
      refine ⟨_, fl_add hX (d + 3) fJ (a := G.n) (b := x) (by omega) (by omega) (by omega) ⟨by omega, by omega⟩ ⟨by omega, by omega⟩ ⟨by decide, by decide⟩, ?_⟩
      rintro _ K ⟨a1, a2⟩
      exact ih K (kJ.tr (kpA.q ⟨a2.1, a2.2.1⟩)) a1 ⟨_, Added.has hJ a2⟩
end DEM
section DEN
variable {X : xX} {c : xCx} {I : xIn} {T : NT} {a e : Int}
theorem CI.su {T : NT} {I : xIn} {c : xCx} (hI : CI I c T) {i : Nat} (hi : i < T.N) : ∀ x, x < (T.G i).n → I (i + 3, 6) x = T.su i x := (hI.2.2 i hi).2.2
theorem CI.sb {T : NT} {I : xIn} {c : xCx} (hI : CI I c T) (hT : NTok T) {i : Nat} (hi : i < T.N) : ∀ x, x < (T.G i).n → -99 ≤ I (i + 3, 6) x ∧ I (i + 3, 6) x ≤ 99 := fun x hx => by
  rw [hI.su hi x hx]; exact (hT.2 i hi).2.2 x hx
theorem cn_holds (hX : xBase X) (d : Nat) (hT : NTok T) (hI : CI I c T) (ha : xin a) : xRet rB X m_X9_holds (d + 8) [xr (0, 0), xi a] c I 1 6 (fun v I9 => keepC I I9 ∧ (v, 0) = holdsA T a) (fun x I9 => I9 = I ∧ exL [xIOB] x (holdsA T a).2) := by
  unfold holdsA
  have hwc := wrong1_c T a
  refine xRet_of hX pl_X9_holds (LE1 rfl) fun V hV => rg_X9_holds_0 hV I _ (go_net hX d hT hI ha (fun x hx hw => ⟨rfl, by rw [wE_p hw]; exact hx.l1 (by omega)⟩) ?_)
  rintro i rfl hi hC hw
  rw [wE_0 hw, tnN]
  refine ⟨_, st_meetDemands hX (d + 1) hC (hI.nb hT hi) (hI.sb hT hi), ?_⟩
  have hbc := brkF_cong (hI.lo hi) (hI.hi hi) (hI.su hi)
  rintro v J ⟨k1, ⟨rfl, -, -, -, -, -, -, f, hf⟩ | ⟨rfl, h⟩⟩
  · refine ⟨kp.C k1 (by decide), ?_⟩
    unfold holdsG
    rw [← hbc, brkF_flow hC.2.2.2.1.in hf]; rfl
  · refine ⟨kp.C k1 (by decide), ?_⟩
    unfold holdsG
    rw [← hbc, decide_eq_false h]
theorem cn_breaks (hX : xBase X) (d : Nat) (hT : NTok T) (hI : CI I c T) (ha : xin a) : xRet rI X m_X9_breaks (d + 8) [xr (0, 0), xi a] c I 2 12 (fun v I9 => keepC I I9 ∧ (v, 0) = breaksA T a) (fun x I9 => keepC I I9 ∧ exL [xIOB, xNSE] x (breaksA T a).2) := by
  unfold breaksA
  have hwc := wrong1_c T a
  refine xRet_of hX pl_X9_breaks (LE1 rfl) fun V hV => rg_X9_breaks_0 hV I _ (go_net hX d hT hI ha (fun x hx hw => ⟨keepC.id9, by rw [wE_p hw]; exact hx.l1 (by omega)⟩) ?_)
  rintro i rfl hi hC hw
  rw [wE_0 hw, tnN]
  refine ⟨_, cu_leastBreaker hX (d + 5) hC (hI.nb hT hi) (hI.sb hT hi), ?_⟩
  rintro v J ⟨k1, rfl⟩
  rw [brkF_cong (hI.lo hi) (hI.hi hi) (hI.su hi)]
  have hb := brkF_bd hC.2.2.2.1.2.1 (T.lo i) (T.hi i) (T.su i)
  unfold breaksG
  refine ⟨⟨by omega, by omega⟩, fun h => ⟨k1.C (by decide), by rw [if_neg h]⟩, fun h => ⟨k1.C (by decide), by rw [if_pos h]; exact ⟨1, rfl, rfl⟩⟩⟩
theorem cn_meets (hX : xBase X) (d : Nat) (hT : NTok T) (hI : CI I c T) (ha : xin a) (he : xin e) : xRet rI X m_X9_meets (d + 8) [xr (0, 0), xi a, xi e] c I 3 18 (fun v I9 => keepC I I9 ∧ (v, 0) = meetsA T a e) (fun x I9 => keepC I I9 ∧ exL [xIOB, xNSE] x (meetsA T a e).2) := by
  unfold meetsA
  have hwc := wrong1E_c T a e
  refine xRet_of hX pl_X9_meets (LE1 rfl) fun V hV => rg_X9_meets_0 hV I _ _ (go_edge hX d hT hI ha he (fun x hx hw => ⟨keepC.id9, by rw [wE_p hw]; exact hx.l1 (by omega)⟩) ?_)
  rintro i e rfl rfl hi hC he9 hw
  rw [wE_0 hw, tnN, tnN]
  have hG := hC.2.2.2.1
  have hn8 := hG.2.1
  refine ⟨_, st_meetDemands hX (d + 1) hC (hI.nb hT hi) (hI.sb hT hi), ?_⟩
  have hbc := brkF_cong (hI.lo hi) (hI.hi hi) (hI.su hi)
  rintro v J ⟨k1, ⟨rfl, f1, h1, h2, h3, h4, h5, f, hf⟩ | ⟨rfl, h⟩⟩
  · refine ⟨fun _ => ?_, fun z => (by cases z)⟩
    have hmm := hu_n (G := T.G i) (su := I (i + 3, 6)) (T.G i).n
    rw [kpq.net k1, hC.2.2.1]
    refine ⟨_, st_tellRowC hX (d + 3) (b := fun _ => 0) f1 (hu_in hG (Nat.le_refl _)).2 h2 h1 (fun x _ => h3 x) h4 hmm.2.1, ?_⟩
    rintro _ K hR
    refine ⟨_, st_numberOf hX (d + 5) (hR.1.fr f1) (show e < (huG (T.G i) (I (i + 3, 6)) (T.G i).n).m by omega), ?_⟩
    rintro _ K ⟨rfl, rfl⟩
    refine ⟨kp.C (k1.tr hR.1.q) (by decide), ?_⟩
    unfold meetsG
    rw [← hbc, brkF_flow hG.in hf, if_pos rfl, hR.v he9 (by omega), ((hub_row hG h5 ⟨f, hf⟩ (Nat.le_refl _)).1 e he9).1, lxC_row he9]
    rw [(lxC_cong (hI.lo hi) (hI.hi hi) (hI.su hi) (show e + 1 ≤ (T.G i).m by omega) e he9).1]
  · refine ⟨fun z => (by cases z), fun _ => ⟨kp.C k1 (by decide), ?_⟩⟩
    unfold meetsG
    rw [← hbc, if_neg h]
    exact ⟨1, rfl, rfl⟩
end DEN
