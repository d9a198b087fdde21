/-! the class: prices, and the three promises of costs -/
section PRC
variable {X : xX} {c : xCx} {I : xIn} {G : Gr} {lo hi co f : Nat → Int}
theorem fl_setLevelsFrom (hX : xBase X) (d : Nat) (hF : FR I G) (hne : ∀ e, e < G.m → G.u e ≠ G.v e) (e9 : I (0, 9) = lo) (e10 : I (0, 10) = hi) (e8 : I (0, 8) = co) (e11 : I (0, 11) = f) (hco : ∀ e, e < G.m → -20 ≤ co e ∧ co e ≤ 20) {π : Nat → Int} (hπ : PT G lo hi co f π) {s : Nat} (hs : s < G.n) : xRet rU X m_X1_setLevelsFrom (d + 1) [xr (0, 3), xi (s : Int)] c I 0 0 (fun _ I9 => kp [(0, 12), (0, 13)] I I9 ∧ DSX G lo hi co f s FAR9 (I9 (0, 12)) ∧ ∀ x, x < G.n → I9 (0, 12) x = FAR9 ∨ (-100000 ≤ I9 (0, 12) x ∧ I9 (0, 12) x ≤ 100000)) xNo := by
  obtain ⟨g1, g2, g3, g4, g5, g6⟩ := id hF
  have hn : 1 ≤ G.n := by omega
  have hA := BAs_ok (lo := lo) (hi := hi) (f := f) g5 hne hco (sg2_ok g4)
  have hFA : FAR9 = 1000000000 := rfl
  have hZ : 20 * (G.n : Int) + 20 < FAR9 := by omega
  refine xRet_of hX pl_X1_setLevelsFrom (LE1 rfl) fun V hV => rg_X1_setLevelsFrom_0 hV I _ ?_
  refine up_to0 (m := G.n) (W := fun x => ∀ J : xIn, kp [(0, 12), (0, 13)] I J → (∀ y, y < x → J (0, 12) y = FAR9) → V 2 [(0, xr (0, 3)), (1, xi (s : Int)), (2, xi (x : Int))] [] (J, xst c) 0 0) ?_ ?_ I kp.rfl (fun y hy => by omega)
  case refine_2 =>
    intro x hx ih J hJ hL
    refine rg_X1_setLevelsFrom_2 hV J _ _ ⟨⟨by omega, by omega⟩, fun h => by rw [hJ _ (by simp), g1] at h; omega, fun h => ⟨⟨by omega, by omega⟩, ?_⟩⟩
    rintro _ rfl
    refine ih _ (hJ.xu (by simp)) fun y hy => ?_
    rw [xuL, tnN]
    rcases upL_c (J (0, 12)) x 1000000000 y with ⟨e1, e2⟩ | ⟨e1, e2⟩
    · exact e2
    · rw [e2]; exact hL y (by omega)
  intro J hJ hL
  have hFJ : FR J G := hF.kp hJ (by simp) (by simp) (by simp)
  refine rg_X1_setLevelsFrom_2 hV J _ _ ⟨⟨by omega, by omega⟩, fun _ => ⟨_, fl_isNode hX d hFJ hs, ?_⟩, fun h => by rw [hJ _ (by simp), g1] at h; omega⟩
  rintro _ J ⟨rfl, rfl⟩
  refine ⟨fun h => Bool.noConfusion h, fun _ => ⟨⟨by omega, by omega⟩, ?_⟩⟩
  rintro J9 hJ9
  have kJ9 : kp [(0, 12), (0, 13)] I J9 := by rw [hJ9]; exact hJ.xu (by simp)
  have hbnd : ∀ p, p ≤ G.n → p * (2 * G.m) ≤ 1024 := fun p hp => Nat.mul_le_mul (show p ≤ 16 by omega) (show 2 * G.m ≤ 64 by omega)
  have h0 : BFI G.n (2 * G.m) (BAs G lo hi co f sg2) (GR G lo hi co f) FAR9 (fun x => x == s) 0 0 (J9 (0, 12)) (fun _ => 0) (fun _ => 0) := by
    have := BFI.ini (n := G.n) (M := 2 * G.m) (A := BAs G lo hi co f sg2) (R := GR G lo hi co f) (S0 := fun x => x == s) hZ (fun _ => 0)
    refine BFI_cong (fun x hx => ?_) (fun j hj ho => ⟨(hA j hj ho).1, (hA j hj ho).2.1⟩) this
    rw [hJ9, xuL, tnN]
    unfold iniL
    rcases upL_c (J (0, 12)) s 0 x with ⟨e1, e2⟩ | ⟨e1, e2⟩
    · rw [e2, e1, if_pos (by simp)]
    · rw [e2, hL x hx, if_neg (by simpa using e1)]
  clear hJ9
  have hcalm : ∀ {Q j : Nat} {L : Nat → Int} {via τ : Nat → Nat}, BFI G.n (2 * G.m) (BAs G lo hi co f sg2) (GR G lo hi co f) FAR9 (fun x => x == s) Q j L via τ → ∀ x, x < G.n → τ x ≤ (G.n - 1) * (2 * G.m) := fun h x hx => h.calm hA (π := π) (fun i hi9 ho => PT_gr hπ (hA i hi9 ho).2.2.2.2) hx
  refine up_to0 (m := G.n) (W := fun p => ∀ (J : xIn) (via τ : Nat → Nat), kp [(0, 12), (0, 13)] I J → BFI G.n (2 * G.m) (BAs G lo hi co f sg2) (GR G lo hi co f) FAR9 (fun x => x == s) (p * (2 * G.m)) 0 (J (0, 12)) via τ → Enc J G.n via τ → (0 < p → ∃ x : Nat, x < G.n ∧ (p - 1) * (2 * G.m) < τ x) → V 41 [(0, xr (0, 3)), (2, xi (p : Int))] [] (J, xst c) 0 0) ?_ ?_ J9 (fun _ => 0) (fun _ => 0) kJ9 (by rw [Nat.zero_mul]; exact h0) (fun x _ h => absurd h (Nat.lt_irrefl 0)) (fun h => absurd h (Nat.lt_irrefl 0))
  · intro J via τ hJ hB hE hv
    obtain ⟨x, x1, x2⟩ := hv (by omega)
    have := hcalm hB x x1
    omega
  · intro p hp ih J via τ hJ hB hE hv
    have hFJ : FR J G := hF.kp hJ (by simp) (by simp) (by simp)
    have hb := hbnd p (by omega)
    refine rg_X1_setLevelsFrom_41 hV J _ ⟨⟨by omega, by omega⟩, fun h => by rw [hJ _ (by simp), g1] at h; omega, fun _ => ⟨_, fl_relax hX d hFJ hne (by rw [hJ _ (by simp), e9]) (by rw [hJ _ (by simp), e10]) (by rw [hJ _ (by simp), e8]) (by rw [hJ _ (by simp), e11]) hco (by
      rcases Nat.eq_zero_or_pos p with h | h
      · left; rw [h, Nat.zero_mul]
      · right; have := Nat.mul_le_mul_right (2 * G.m) (show 1 ≤ p from h); omega) (by omega) hB hE, ?_⟩⟩
    rintro v9 K ⟨kK, via9, τ9, hB9, hE9, hl⟩
    have hK := hJ.tr kK
    rcases hl with ⟨q1, q2⟩ | ⟨x, q1, q2, q3⟩
    · refine ⟨⟨by omega, by omega⟩, fun h => absurd q1 h, fun _ => ⟨hK, hB9.dst hA hZ q2 (fun u x q hr => BAs_all (sg2_ok g4) hr), fun x hx => ?_⟩⟩
      have a := hB9.bd hx
      omega
    · refine ⟨⟨by omega, by omega⟩, fun _ => ?_, fun h => by omega⟩
      refine ih K via9 τ9 hK ?_ hE9 (fun _ => ⟨x, q1, by rw [Nat.add_sub_cancel]; exact q3⟩)
      rw [show (p + 1) * (2 * G.m) = p * (2 * G.m) + 2 * G.m from Nat.succ_mul _ _]
      exact hB9.turn
theorem fl_levelOf (hX : xBase X) (d : Nat) (hF : FR I G) {x : Nat} (hx : x < G.n) : xRet rI X m_X1_levelOf (d + 1) [xr (0, 3), xi (x : Int)] c I 0 0 (pv (I (0, 12) x) I) xNo := by
  have h16 := hF.2.2.1
  refine xRet_of hX pl_X1_levelOf (LE1 rfl) fun V hV => rg_X1_levelOf_0 hV I _ ⟨_, fl_isNode hX d hF hx, ?_⟩
  rintro _ _ ⟨rfl, rfl⟩
  refine ⟨fun h => Bool.noConfusion h, fun _ => ⟨⟨by omega, by omega⟩, ?_⟩⟩
  rw [tnN]
  exact pvI rfl
theorem st_priceOf (hX : xBase X) (d : Nat) (hF : FR I G) {x : Nat} (hx : x < G.n) : xRet rI X m_X6_priceOf (d + 2) [xr (0, 2), xi (x : Int)] c I 0 0 (pv (I (0, 12) x) I) xNo := by
  refine xRet_of hX pl_X6_priceOf (LE1 rfl) fun V hV => rg_X6_priceOf_0 hV I _ ⟨_, fl_levelOf hX d hF hx, ?_⟩
  rintro _ _ ⟨rfl, rfl⟩
  exact pvI rfl
theorem st_hasPrice (hX : xBase X) (d : Nat) (hF : FR I G) {x : Nat} (hx : x < G.n) (hb : I (0, 12) x = FAR9 ∨ (-100000 ≤ I (0, 12) x ∧ I (0, 12) x ≤ 100000)) : xRet rB X m_X6_hasPrice (d + 2) [xr (0, 2), xi (x : Int)] c I 0 0 (pv (decide (I (0, 12) x ≠ FAR9)) I) xNo := by
  have hFA : FAR9 = 1000000000 := rfl
  refine xRet_of hX pl_X6_hasPrice (LE1 rfl) fun V hV => rg_X6_hasPrice_0 hV I _ ⟨_, fl_levelOf hX d hF hx, ?_⟩
  rintro _ J ⟨rfl, rfl⟩
  refine ⟨⟨by omega, by omega⟩, fun h => pvI ?_, fun h => pvI ?_⟩
  · symm; exact decide_eq_false (by omega)
  · symm; exact decide_eq_true (by omega)
/-- prices, from the row that stands -/
theorem st_setPrices (hX : xBase X) (d : Nat) {s t : Nat} (hG : GrOK G) (hs : s < G.n) (ht : t < G.n) (hst : s ≠ t) (hF : FR I (bk G s t)) (e6 : ∀ e, e < G.m → I (0, 6) e = lo e ∧ I (0, 7) e = hi e ∧ I (0, 8) e = co e) (hcm : I (0, 8) G.m = 0) (h9 : I (0, 9) G.m = I (0, 11) G.m) (h10 : I (0, 10) G.m = I (0, 11) G.m) (hco : ∀ e, e < G.m → -20 ≤ co e ∧ co e ≤ 20) {π : Nat → Int} (hπ : PT G lo hi co (I (0, 11)) π) {a : Nat} (ha : a < G.n) : xRet rU X m_X6_setPrices (d + 2) [xr (0, 2), xi (G.m : Int), xi (a : Int)] c I 0 0 (fun _ I9 => kp [(0, 9), (0, 10), (0, 12), (0, 13)] I I9 ∧ FR I9 (bk G s t) ∧ DSX G lo hi co (I (0, 11)) a FAR9 (I9 (0, 12)) ∧ ∀ x, x < G.n → I9 (0, 12) x = FAR9 ∨ (-100000 ≤ I9 (0, 12) x ∧ I9 (0, 12) x ≤ 100000)) xNo := by
  have hm16 := hG.2.2.1
  refine xRet_of hX pl_X6_setPrices (LE1 rfl) fun V hV => rg_X6_setPrices_0 hV I _ _ ?_
  refine up_to0 (m := G.m) (W := fun k => ∀ J, kp [(0, 9), (0, 10)] I J → (∀ e, e < k → J (0, 9) e = lo e ∧ J (0, 10) e = hi e) → (∀ e, G.m ≤ e → J (0, 9) e = I (0, 9) e ∧ J (0, 10) e = I (0, 10) e) → V 2 [(0, xr (0, 2)), (1, xi (G.m : Int)), (2, xi (a : Int)), (3, xi (k : Int))] [] (J, xst c) 0 0) ?_ ?_ I kp.rfl (fun e he => absurd he (Nat.not_lt_zero e)) (fun _ _ => ⟨rfl, rfl⟩)
  · intro J hJ hL hm
    have hFJ : FR J (bk G s t) := hF.kp hJ (by simp) (by simp) (by simp)
    have j11 : J (0, 11) = I (0, 11) := hJ _ (by simp)
    have j8 : J (0, 8) = I (0, 8) := hJ _ (by simp)
    have hmm := hm G.m (Nat.le_refl _)
    have hcb : ∀ e, e < (bk G s t).m → -20 ≤ J (0, 8) e ∧ J (0, 8) e ≤ 20 := fun e he => by
      rw [j8]
      by_cases hem : e = G.m
      · rw [hem, hcm]; omega
      · have he9 : e < G.m := by have : e < G.m + 1 := he; omega
        rw [(e6 e he9).2.2]; exact hco e he9
    have hPT : PT (bk G s t) (J (0, 9)) (J (0, 10)) (J (0, 8)) (J (0, 11)) π := by
      intro e he
      by_cases hem : e = G.m
      · rw [hem, hmm.1, hmm.2, h9, h10, j11]
        exact ⟨fun h => absurd h (Int.lt_irrefl _), fun h => absurd h (Int.lt_irrefl _)⟩
      · have he9 : e < G.m := by have : e < G.m + 1 := he; omega
        rw [bk_u he9, bk_v he9, (hL e he9).1, (hL e he9).2, j8, (e6 e he9).2.2, j11]
        exact hπ e he9
    refine rg_X6_setPrices_2 hV J _ _ _ ⟨⟨by omega, by omega⟩, ⟨by omega, by omega⟩, fun _ => ⟨_, fl_setLevelsFrom hX d hFJ (bk_ne hG hst) rfl rfl rfl rfl hcb hPT (s := a) ha, ?_⟩, fun h => by omega⟩
    rintro _ K ⟨kK, hD, hB⟩
    refine ⟨(hJ.mo (by simp)).tr (kK.mo (by simp)), hFJ.kp kK (by simp) (by simp) (by simp), ?_, hB⟩
    refine DST_cong hD fun u x q => ⟨fun h => ?_, fun h => ?_⟩
    · obtain ⟨σ, a1, a2, a3, a4, a5, a6⟩ := h
      have hne : eg σ ≠ G.m := by
        intro he
        unfold rsp at a3
        unfold eg at he
        split at a3
        · rename_i c1
          rw [if_pos c1] at he
          rw [he, hmm.2, h10, j11] at a3
          omega
        · rename_i c1
          rw [if_neg c1] at he
          rw [he, hmm.1, h9, j11] at a3
          omega
      have he9 : eg σ < G.m := by have : eg σ < G.m + 1 := a2; omega
      have hbe : bgn (bk G s t) σ = bgn G σ ∧ edn (bk G s t) σ = edn G σ := by
        unfold bgn edn
        unfold eg at he9
        split
        · rename_i c1
          rw [if_pos c1] at he9
          exact ⟨bk_u he9, bk_v he9⟩
        · rename_i c1
          rw [if_neg c1] at he9
          exact ⟨bk_v he9, bk_u he9⟩
      rw [hbe.1] at a4
      rw [hbe.2] at a5
      refine ⟨σ, a1, he9, ?_, a4, a5, ?_⟩
      · rw [← rsp_cong (m := G.m) (fun e he => (hL e he).1) (fun e he => (hL e he).2) (fun e _ => congrFun j11 e) he9]; exact a3
      · rw [a6, j8, (e6 _ he9).2.2]
    · obtain ⟨σ, a1, he9, a3, a4, a5, a6⟩ := h
      have hbe : bgn (bk G s t) σ = bgn G σ ∧ edn (bk G s t) σ = edn G σ := by
        unfold bgn edn
        unfold eg at he9
        split
        · rename_i c1
          rw [if_pos c1] at he9
          exact ⟨bk_u he9, bk_v he9⟩
        · rename_i c1
          rw [if_neg c1] at he9
          exact ⟨bk_v he9, bk_u he9⟩
      refine ⟨σ, a1, Nat.lt_succ_of_lt he9, ?_, by rw [hbe.1]; exact a4, by rw [hbe.2]; exact a5, by rw [a6, j8, (e6 _ he9).2.2]⟩
      rw [rsp_cong (m := G.m) (fun e he => (hL e he).1) (fun e he => (hL e he).2) (fun e _ => congrFun j11 e) he9]; exact a3
  · intro k hk ih J hJ hL hm
    have hFJ : FR J (bk G s t) := hF.kp hJ (by simp) (by simp) (by simp)
    refine rg_X6_setPrices_2 hV J _ _ _ ⟨⟨by omega, by omega⟩, ⟨by omega, by omega⟩, fun h => by omega, fun _ => ⟨_, fl_free hX d hFJ (Nat.lt_succ_of_lt hk), ?_⟩⟩
    rintro _ K ⟨kK, q9, q10⟩
    refine ih K (hJ.tr kK) (fun e he => ?_) (fun e he => ?_)
    · rw [q9, q10, hJ (0, 6) (by simp), hJ (0, 7) (by simp)]
      by_cases hek : e = k
      · rw [hek, upL_s, upL_s]; exact ⟨(e6 k hk).1, (e6 k hk).2.1⟩
      · rw [upL_n hek, upL_n hek]; exact hL e (by omega)
    · rw [q9, q10, upL_n (by omega), upL_n (by omega)]; exact hm e he
theorem st_costOf (hX : xBase X) (d : Nat) (hF : FR I G) {k : Nat} (hk : k ≤ G.m) : xRet rI X m_X6_costOf (d + 1) [xr (0, 2), xi (k : Int)] c I 0 0 (pv (sumE k (fun e => I (0, 11) e * I (0, 8) e)) I) xNo := by
  refine xRet_of hX pl_X6_costOf (LE1 rfl) fun V hV => rg_X6_costOf_0 hV I _ ⟨_, fl_sumOfCosts hX d hF hk, ?_⟩
  rintro _ _ ⟨rfl, rfl⟩
  exact pvI rfl
end PRC
section PRD
variable {X : xX} {c : xCx} {I : xIn} {T : NT} {a s t e x : Int}
theorem cn_cost (hX : xBase X) (d : Nat) (hT : NTok T) (hI : CI I c T) (ha : xin a) (hs : xin s) (ht : xin t) : xRet rI X m_X9_cost (d + 9) [xr (0, 0), xi a, xi s, xi t] c I 3 18 (fun v I9 => keepC I I9 ∧ (v, 0) = costA T a s t) (fun y I9 => keepC I I9 ∧ exL [xIOB, xIAE, xNSE] y (costA T a s t).2) := by
  have hwc := wrong_c T a s t
  refine xRet_of hX pl_X9_cost (LE1 rfl) fun V hV => rg_X9_cost_0 hV I _ _ _ (go_ends hX (d + 1) hT hI ha hs ht (fun x hx hw => ⟨keepC.id9, by unfold costA; rw [wE_p hw]; exact hx.l (by omega)⟩) ?_)
  rintro i s t rfl rfl rfl hi hC hs9 ht9 hst hw
  have hA : costA T (i : Int) (s : Int) (t : Int) = if amountF (T.G i) (T.lo i) (T.hi i) s t = NONE9 then (0, 3) else (costG (T.G i) (T.lo i) (T.hi i) (T.co i) s t, 0) := by unfold costA; rw [hw, wE_0 rfl, tnN, tnN, tnN]
  have hc := amountF_cong (s := s) (t := t) (hI.lo hi) (hI.hi hi)
  refine ⟨_, _, cn_tellCheapest hX d hC (hI.nb hT hi) hs9 ht9 hst, ?_, ?_⟩
  · rintro y J ⟨rfl, k1, k2⟩
    rw [hc] at k2
    exact ⟨kp.C k1 (by decide), by rw [hA, if_pos k2]; exact ⟨2, rfl, rfl⟩⟩
  rintro _ J ⟨k1, k2, k3, k4, -, k6, -⟩
  rw [show J (i + 3, 0) = I (i + 3, 0) from k1 _ (by simp [flP]), hC.2.2.1]
  refine ⟨_, st_costOf hX (d + 7) k3 (Nat.le_succ _), ?_⟩
  rintro _ J ⟨rfl, rfl⟩
  refine ⟨kp.C k1 (by decide), ?_⟩
  rw [hc] at k2
  rw [hA, if_neg k2, costG_eq (cong_co (hI.lo hi) (hI.hi hi) (hI.co hi) k4)]
  have : sumE (T.G i).m (fun e => J (0, 11) e * J (0, 8) e) = costF (T.G i) (T.co i) (J (0, 11)) := sumE_cong fun e he => by rw [(k6 e he).2.2, hI.co hi e he]
  rw [this]
theorem cn_cheapest (hX : xBase X) (d : Nat) (hT : NTok T) (hI : CI I c T) (ha : xin a) (hs : xin s) (ht : xin t) (he : xin e) : xRet rI X m_X9_cheapest (d + 9) [xr (0, 0), xi a, xi s, xi t, xi e] c I 4 24 (fun v I9 => keepC I I9 ∧ (v, 0) = cheapestA T a s t e) (fun y I9 => keepC I I9 ∧ exL [xIOB, xIAE, xNSE] y (cheapestA T a s t e).2) := by
  have hwc := wrongE_c T a s t e
  refine xRet_of hX pl_X9_cheapest (LE1 rfl) fun V hV => rg_X9_cheapest_0 hV I _ _ _ _ (go_edgeEnds hX (d + 1) hT hI ha hs ht he (fun x hx hw => ⟨keepC.id9, by unfold cheapestA; rw [wE_p hw]; exact hx.l (by omega)⟩) ?_)
  rintro i s t e rfl rfl rfl rfl hi hC hs9 ht9 hst he9 hw
  have hA : cheapestA T (i : Int) (s : Int) (t : Int) (e : Int) = if amountF (T.G i) (T.lo i) (T.hi i) s t = NONE9 then (0, 3) else (cheapG (T.G i) (T.lo i) (T.hi i) (T.co i) s t e, 0) := by unfold cheapestA; rw [hw, wE_0 rfl, tnN, tnN, tnN, tnN]
  have hc := amountF_cong (s := s) (t := t) (hI.lo hi) (hI.hi hi)
  refine ⟨_, _, cn_tellCheapest hX d hC (hI.nb hT hi) hs9 ht9 hst, ?_, ?_⟩
  · rintro y J ⟨rfl, k1, k2⟩
    rw [hc] at k2
    exact ⟨kp.C k1 (by decide), by rw [hA, if_pos k2]; exact ⟨2, rfl, rfl⟩⟩
  rintro _ J ⟨k1, k2, k3, k4, -, k6, -⟩
  refine ⟨_, st_numberOf hX (d + 6) k3 (Nat.lt_succ_of_lt he9), ?_⟩
  rintro _ _ ⟨rfl, rfl⟩
  refine ⟨kp.C k1 (by decide), ?_⟩
  rw [hc] at k2
  rw [hA, if_neg k2, cheapG_eq (cong_co (hI.lo hi) (hI.hi hi) (hI.co hi) k4) he9]
theorem cn_price (hX : xBase X) (d : Nat) (hT : NTok T) (hI : CI I c T) (ha : xin a) (hs : xin s) (ht : xin t) (hx : xin x) : xRet rI X m_X9_price (d + 9) [xr (0, 0), xi a, xi s, xi t, xi x] c I 5 30 (fun v I9 => keepC I I9 ∧ (v, 0) = priceA T a s t x) (fun y I9 => keepC I I9 ∧ exL [xIOB, xIAE, xNSE] y (priceA T a s t x).2) := by
  have hwc : wrongCT T a s t x ≤ 2 := by
    unfold wrongCT
    repeat' split
    all_goals omega
  refine xRet_of hX pl_X9_price (LE1 rfl) fun V hV => rg_X9_price_0 hV I _ _ _ _ (go_cornerEnds hX (d + 1) hT hI ha hs ht hx (fun x hx hw => ⟨keepC.id9, by unfold priceA; rw [wE_p hw]; exact hx.l (by omega)⟩) ?_)
  rintro i s t x rfl rfl rfl rfl hi hC hs9 ht9 hst hx9 hw
  have hA : priceA T (i : Int) (s : Int) (t : Int) (x : Int) = if amountF (T.G i) (T.lo i) (T.hi i) s t = NONE9 then (0, 3) else priceG (T.G i) (T.lo i) (T.hi i) (T.co i) s t x := by unfold priceA; rw [hw, wE_0 rfl, tnN, tnN, tnN, tnN]
  have hc := amountF_cong (s := s) (t := t) (hI.lo hi) (hI.hi hi)
  have hG := hC.2.2.2.1
  refine ⟨_, _, cn_tellCheapest hX d hC (hI.nb hT hi) hs9 ht9 hst, ?_, ?_⟩
  · rintro y J ⟨rfl, k1, k2⟩
    rw [hc] at k2
    exact ⟨kp.C k1 (by decide), by rw [hA, if_pos k2]; exact ⟨2, rfl, rfl⟩⟩
  rintro _ J ⟨k1, k2, k3, k4, ⟨π, k5⟩, k6, k7, k8, k9⟩
  rw [hc] at k2
  rw [if_neg k2] at hA
  rw [show J (i + 3, 0) = I (i + 3, 0) from k1 _ (by simp [flP]), hC.2.2.1]
  refine ⟨_, st_setPrices hX (d + 6) hG hs9 ht9 hst k3 k6 k7 k8 k9 (fun e he => by have := hI.nb hT hi e he; omega) k5 hs9, ?_⟩
  rintro _ K ⟨kK, kF, kD, kb⟩
  have kk : keepC I K := (kp.C k1 (by decide)).tr (kp.C kK (by decide))
  refine ⟨_, st_hasPrice hX (d + 6) kF (x := x) hx9 (kb x hx9), ?_⟩
  have hD9 : DSX (T.G i) (T.lo i) (T.hi i) (T.co i) (J (0, 11)) s FAR9 (K (0, 12)) := DST_cong kD fun u v q => ⟨fun g => GR_cong (hI.lo hi) (hI.hi hi) (hI.co hi) (fun _ _ => rfl) g, fun g => GR_cong (fun e he => (hI.lo hi e he).symm) (fun e he => (hI.hi hi e he).symm) (fun e he => (hI.co hi e he).symm) (fun _ _ => rfl) g⟩
  have hP := priceG_eq (cong_co (hI.lo hi) (hI.hi hi) (hI.co hi) k4) hD9 hx9
  rw [← hA] at hP
  rintro _ K9 ⟨rfl, rfl⟩
  refine ⟨fun h => ⟨_, st_priceOf hX (d + 6) kF (x := x) hx9, ?_⟩, fun h => ⟨kk, ?_⟩⟩
  · rintro _ _ ⟨rfl, rfl⟩
    have := of_decide_eq_true h
    rw [if_neg this] at hP
    exact ⟨kk, hP.symm⟩
  · have : K9 (0, 12) x = FAR9 := by
      have := of_decide_eq_false h
      omega
    rw [hP, if_pos this]
    exact ⟨2, rfl, rfl⟩
end PRD
