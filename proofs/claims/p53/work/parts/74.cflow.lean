/-! the class's flow -/
section CQ
variable {X : xX} {c : xCx} {I : xIn} {i : Nat} {G : Gr} {s t : Nat} {T : NT}
theorem cn_tellGreatest (hX : xBase X) (d : Nat) (hC : CG I c i G) (hN : NB I i G.m) (hs : s < G.n) (ht : t < G.n) (hst : s ≠ t) : xRet rU X m_X9_tellGreatest (d + 8) [xr (0, 0), xr (i + 3, 0), xi (s : Int), xi (t : Int)] c I 1 6 (fun _ I9 => kpX I I9 ∧ amountF G (I (i + 3, 3)) (I (i + 3, 4)) s t ≠ NONE9 ∧ FR I9 (bk G s t) ∧ ∀ e, e < G.m → I9 (0, 11) e = (lxF G (I (i + 3, 3)) (I (i + 3, 4)) s t (amountF G (I (i + 3, 3)) (I (i + 3, 4)) s t) G.m).1 e) (fun e I9 => e = xNSE ∧ kpX I I9 ∧ amountF G (I (i + 3, 3)) (I (i + 3, 4)) s t = NONE9) := by
  have hG := hC.2.2.2.1
  refine xRet_of hX pl_X9_tellGreatest (LE1 rfl) fun V hV => rg_X9_tellGreatest_0 hV I _ hC.1 _ _ ⟨_, st_lay hX (d + 3) hC hN hs ht, ?_⟩
  rintro _ I1 hL
  obtain ⟨p1, p2, p3, p4, p5⟩ := hL.pre hN
  obtain ⟨-, l2, -, l4, l5, l6⟩ := hL
  have hamt : amountF G (I1 (0, 6)) (I1 (0, 7)) s t = amountF G (I (i + 3, 3)) (I (i + 3, 4)) s t := amountF_cong (fun e he => (p3 e he).1) (fun e he => (p3 e he).2.1)
  refine ⟨_, st_fill hX (d + 3) hG hs ht hst l2 p2 (fun e he => ?_) p4 p5 l4 l5 l6, ?_⟩
  · have := hN e he
    rw [(p3 e he).1, (p3 e he).2.1]
    omega
  rintro v I2 ⟨k2, h2⟩
  have kX : kpX I I2 := kp.tr p1 (k2.1.mo (by simp))
  refine ⟨_, _, cn_needFlow hX d v, ?_, ?_⟩
  · rintro e I3 ⟨rfl, rfl, rfl⟩
    rcases h2 with ⟨h2, -⟩ | ⟨-, h2⟩
    · cases h2
    · exact ⟨rfl, kX, by rw [← hamt]; exact h2⟩
  · rintro _ I3 ⟨rfl, rfl⟩
    rcases h2 with ⟨-, a0, p, f1, f2, f3, f4⟩ | ⟨h2, -⟩
    · rw [hamt] at f2 f3
      rw [kX (i + 3, 0) (by simp), hC.2.2.1]
      have hF2 := k2.fr l2
      refine ⟨_, st_tellLeastRow hX (d + 3) hG hs ht hst hF2 f1 (fun e he => by
        have := hN e he
        rw [(p3 e he).1, (p3 e he).2.1]
        omega), ?_⟩
      rintro _ I4 ⟨k4, -, k6⟩
      refine ⟨kp.tr kX (k4.1.mo (by simp)), f3, k4.fr hF2, fun e he => ?_⟩
      rw [k6 e he, f2]
      exact (lxF_cong (fun k hk => (p3 k hk).1) (fun k hk => (p3 k hk).2.1) (Nat.le_refl _) e he).1
    · cases h2
theorem cn_flow (hX : xBase X) (d : Nat) (hT : NTok T) (hI : CI I c T) {a s t e : Int} (ha : xin a) (hs : xin s) (ht : xin t) (he : xin e) : xRet rI X m_X9_flow (d + 9) [xr (0, 0), xi a, xi s, xi t, xi e] c I 4 24 (fun v I9 => kpX I I9 ∧ (v, 0) = flowV T a s t e) (fun x I9 => kpX I I9 ∧ exN x (flowV T a s t e).2 ∧ (flowV T a s t e).1 = 0) := by
  obtain ⟨h1, h2, h3⟩ := id hI
  have h4 := hT.1
  refine xRet_of hX pl_X9_flow (LE1 rfl) fun V hV => rg_X9_flow_0 hV I _ _ _ _ ⟨_, _, cn_netAt hX (d + 1) (by rw [h2, h1]) (by omega) ha, ?_, ?_⟩
  · rintro x J ⟨rfl, rfl, hn⟩
    rw [h1] at hn
    have hw : wrongET T a s t e = 1 := by unfold wrongET; rw [hn]; rfl
    unfold flowV
    rw [hw, if_pos (by decide)]
    exact ⟨kp.rfl, Or.inl ⟨rfl, rfl⟩, rfl⟩
  · rintro i I ⟨rfl, hi, rfl⟩
    have hiN : i < T.N := by omega
    obtain ⟨c1, c2, c3⟩ := h3 i hiN
    have hin : inB (i : Int) T.N = true := decide_eq_true (by omega)
    refine ⟨hi, _, _, cn_needEdge hX (d + 1) hi c1.2.2.1 he, ?_, ?_⟩
    · rintro x J ⟨rfl, rfl, hn⟩
      have hw : wrongET T (i : Int) s t e = 1 := by unfold wrongET; rw [hin, tnN, hn]; rfl
      unfold flowV
      rw [hw, if_pos (by decide)]
      exact ⟨kp.rfl, Or.inl ⟨rfl, rfl⟩, rfl⟩
    rintro _ I ⟨rfl, hne⟩
    refine ⟨_, _, cn_needEnds hX (d + 1) hi c1.2.1 hs ht, ?_, ?_⟩
    · rintro x J ⟨rfl, rfl, hn⟩
      have hw : wrongET T (i : Int) s t e = 2 := by unfold wrongET; rw [hin, tnN, hne, hn]; rfl
      unfold flowV
      rw [hw, if_pos (by decide)]
      exact ⟨kp.rfl, Or.inr (Or.inl ⟨rfl, rfl⟩), rfl⟩
    · rintro _ I ⟨rfl, hn⟩
      have hw : wrongET T (i : Int) s t e = 0 := by unfold wrongET; rw [hin, tnN, hne, hn]; rfl
      obtain ⟨i9, s9, t9, e9, e1, rfl, rfl, rfl, -, hs9, ht9, hst, he9⟩ := wrongE_0 (show wrongET T (i : Int) s t e ≤ 0 by omega)
      have e1 : i9 = i := by omega
      subst e1
      have hv : flowV T (i9 : Int) (s9 : Int) (t9 : Int) (e9 : Int) = if amountF (T.G i9) (T.lo i9) (T.hi i9) s9 t9 = NONE9 then (0, 3) else ((lxF (T.G i9) (T.lo i9) (T.hi i9) s9 t9 (amountF (T.G i9) (T.lo i9) (T.hi i9) s9 t9) (T.G i9).m).1 e9, 0) := by
        unfold flowV
        rw [if_neg (by omega), tnN, tnN, tnN, tnN]
      have hc : amountF (T.G i9) (I (i9 + 3, 3)) (I (i9 + 3, 4)) s9 t9 = amountF (T.G i9) (T.lo i9) (T.hi i9) s9 t9 := amountF_cong (fun e he => (c2 e he).1) (fun e he => (c2 e he).2.1)
      refine ⟨_, _, cn_tellGreatest hX d c1 (hI.nb hT hiN) hs9 ht9 hst, ?_, ?_⟩
      · rintro x J ⟨rfl, k1, k2⟩
        rw [hc] at k2
        rw [hv, if_pos k2]
        exact ⟨k1, Or.inr (Or.inr ⟨rfl, rfl⟩), rfl⟩
      · rintro _ J ⟨k1, k2, k3, k4⟩
        rw [hc] at k2 k4
        refine ⟨_, st_numberOf hX (d + 6) k3 (Nat.lt_succ_of_lt he9), ?_⟩
        rintro _ J ⟨rfl, rfl⟩
        rw [hv, if_neg k2, k4 e9 he9, (lxF_cong (fun k hk => (c2 k hk).1) (fun k hk => (c2 k hk).2.1) (Nat.le_refl _) e9 he9).1]
        exact ⟨k1, rfl⟩
end CQ
