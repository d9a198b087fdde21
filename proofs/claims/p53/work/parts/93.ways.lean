/-! how many ways there are, apart by edges and by corners -/
def mnb (b : Int) (p : Nat → Bool) (f : Nat → Int) : Nat → Int
  | 0 => b
  | n + 1 => if p n then min (mnb b p f n) (f n) else mnb b p f n
theorem mnb_eq {b a : Int} {p : Nat → Bool} {f : Nat → Int} {n : Nat} (hb : a ≤ b) (h1 : ∀ S, S < n → p S = true → a ≤ f S) (h2 : ∃ S, S < n ∧ p S = true ∧ f S = a) : mnb b p f n = a := by
  have key : ∀ k, k ≤ n → a ≤ mnb b p f k ∧ ∀ S, S < k → p S = true → mnb b p f k ≤ f S := by
    intro k
    induction k with
    | zero => exact fun _ => ⟨hb, fun S hS => by omega⟩
    | succ k ih =>
      intro hk
      obtain ⟨i1, i2⟩ := ih (by omega)
      rw [mnb]
      by_cases hp : p k = true
      · rw [if_pos hp]
        have := h1 k (by omega) hp
        refine ⟨by omega, fun S hS hpS => ?_⟩
        by_cases hSk : S = k
        · rw [hSk]; omega
        · have := i2 S (by omega) hpS; omega
      · rw [if_neg hp]
        refine ⟨i1, fun S hS hpS => ?_⟩
        by_cases hSk : S = k
        · rw [hSk] at hpS; exact absurd hpS hp
        · exact i2 S (by omega) hpS
  obtain ⟨S, s1, s2, s3⟩ := h2
  have h3 := key n (Nat.le_refl _)
  have h4 := h3.2 S s1 s2
  omega
theorem mnb_bd {b : Int} {p : Nat → Bool} {f : Nat → Int} {z : Int} (hb : -z ≤ b ∧ b ≤ z) (hf : ∀ S, -z ≤ f S ∧ f S ≤ z) (n : Nat) : -z ≤ mnb b p f n ∧ mnb b p f n ≤ z := by
  induction n with
  | zero => exact hb
  | succ n ih =>
    have := hf n
    rw [mnb]
    split <;> omega
/-- a flow without least numbers, and no way on: its amount is the least sum of a cut -/
theorem push_cut {G : Gr} {lo hi f : Nat → Int} {s t : Nat} {a : Int} (hG : GrIn G) (hs : s < G.n) (ht : t < G.n) (hst : s ≠ t) (hlo : ∀ e, e < G.m → lo e = 0) (hf : ∀ e, e < G.m → lo e ≤ f e ∧ f e ≤ hi e) (hn : ∀ x, nout G f x = isB s t a x) : (∀ S, btw s t S = true → a ≤ sOut G hi S) ∧ (Shut G lo hi f s t → ∃ S, S < 2 ^ G.n ∧ btw s t S = true ∧ sOut G hi S = a) := by
  have hFS : FS G lo hi (isB s t a) f := ⟨hf, fun x _ => hn x⟩
  have hcut : ∀ S, btw s t S = true → a = sOut G f S - sIn G f S := fun S hS => by
    have h1 := hFS.cut hG S
    rw [bS_flow hs ht hst] at h1
    unfold beyondF at h1
    rw [btw_not hS, hS] at h1
    simp at h1
    omega
  have hin0 : ∀ S, 0 ≤ sIn G f S := fun S => sumE_nonneg fun e he => by
    have := hf e he
    have := hlo e he
    split <;> omega
  refine ⟨fun S hS => ?_, ?_⟩
  · have h1 := hcut S hS
    have h2 := sOut_le (G := G) S (fun e he => (hf e he).2)
    have h3 := hin0 S
    omega
  · rintro ⟨T, t1, t2, t3⟩
    have hb : ∀ x, x < G.n → (mask (fun x => !T x) G.n).testBit x = !T x := fun x hx => mask_bit _ _ _ hx
    refine ⟨mask (fun x => !T x) G.n, mask_lt _ _, ?_, ?_⟩
    · unfold btw
      rw [hb s hs, hb t ht, t1, t2]; rfl
    · have hS : btw s t (mask (fun x => !T x) G.n) = true := by
        unfold btw
        rw [hb s hs, hb t ht, t1, t2]; rfl
      rw [hcut _ hS]
      have e1 : sOut G hi (mask (fun x => !T x) G.n) = sOut G f (mask (fun x => !T x) G.n) := sumE_cong fun e he => by
        by_cases hl : lvs G (mask (fun x => !T x) G.n) e = true
        · rw [if_pos hl, if_pos hl]
          unfold lvs at hl
          rw [hb _ (hG e he).1, hb _ (hG e he).2, Bool.and_eq_true, Bool.not_not] at hl
          by_cases hlt : f e < hi e
          · have := t3 (G.u e) (G.v e) ⟨e, he, Or.inl ⟨rfl, rfl, hlt⟩⟩ hl.2
            rw [this] at hl; cases hl.1
          · have := hf e he; omega
        · rw [if_neg hl, if_neg hl]
      have e2 : sIn G f (mask (fun x => !T x) G.n) = 0 := sumE_0 fun e he => by
        by_cases hl : ens G (mask (fun x => !T x) G.n) e = true
        · rw [if_pos hl]
          unfold ens at hl
          rw [hb _ (hG e he).1, hb _ (hG e he).2, Bool.and_eq_true, Bool.not_not] at hl
          by_cases hlt : lo e < f e
          · have := t3 (G.v e) (G.u e) ⟨e, he, Or.inr ⟨rfl, rfl, hlt⟩⟩ hl.1
            rw [this] at hl; cases hl.2
          · have := hf e he
            have := hlo e he; omega
        · rw [if_neg hl]
      rw [e1, e2]; omega
def onH (hi : Nat → Int) (e : Nat) : Int := if 0 < hi e then 1 else 0
theorem onH_bd (hi : Nat → Int) (e : Nat) : 0 ≤ onH hi e ∧ onH hi e ≤ 1 := by unfold onH; split <;> omega
def edgeWaysG (G : Gr) (hi : Nat → Int) (s t : Nat) : Int := mnb 1000 (btw s t) (sOut G (onH hi)) (2 ^ G.n)
def edgeWaysA (T : NT) (a s t : Int) : Int × Int := wE 0 (wrongT T a s t) (edgeWaysG (T.G (Int.toNat a)) (T.hi (Int.toNat a)) (Int.toNat s) (Int.toNat t), 0)
def cornerWaysG (G : Gr) (hi : Nat → Int) (s t : Nat) : Int := dirN G hi s t G.m + (pc8 (Int.toNat (partV G hi s t)) : Int)
def cornerWaysA (T : NT) (a s t : Int) : Int × Int := wE 0 (wrongT T a s t) (cornerWaysG (T.G (Int.toNat a)) (T.hi (Int.toNat a)) (Int.toNat s) (Int.toNat t), 0)
/-- the class's rows of flows -/
def flP : List xP := [(0, 3), (0, 4), (0, 5), (0, 6), (0, 7), (0, 8), (0, 9), (0, 10), (0, 11), (0, 12), (0, 13), (0, 14)]
theorem kpA.q {I J : xIn} (h : kpA I J) : kp flP I J := h.1.mo (by simp [flP])
theorem kpS.q {I J : xIn} (h : kpS I J) : kp flP I J := h.1.mo (by simp [flP])
theorem kpL.q {I J : xIn} (h : kpL I J) : kp flP I J := h.1.mo (by simp [flP])
theorem kpq.net {I J : xIn} (h : kp flP I J) (i j : Nat) : J (i + 3, j) = I (i + 3, j) := h _ (by simp [flP])
section WYS
variable {X : xX} {c : xCx} {I : xIn} {i : Nat} {G : Gr} {s t : Nat} {lo hi co : Nat → Int}
theorem fl_addK (hX : xBase X) (d : Nat) {n k : Nat} {u v : Nat → Nat} (hF : FR I (n, k, u, v)) (hH : Has I k lo hi co) (hu : u k < n) (hv : v k < n) (hk : k < 32) (h1 : xin (lo k)) (h2 : xin (hi k)) (h3 : xin (co k)) : xRet rU X m_X1_add (d + 2) [xr (0, 3), xi (u k : Int), xi (v k : Int), xi (lo k), xi (hi k), xi (co k)] c I 0 0 (fun _ I9 => kpA I I9 ∧ FR I9 (n, k + 1, u, v) ∧ Has I9 (k + 1) lo hi co) xNo := by
  refine xRet_w (fl_add hX d hF hu hv hk h1 h2 h3) ?_ (fun _ _ h => h)
  rintro _ J ⟨a1, a2⟩
  have a1 : FR J (bk (n, k, u, v) (v k) (u k)) := a1
  rw [bk_pre] at a1
  have a3 := Added.has hH a2
  have a3 : Has J (k + 1) (upL lo k (lo k)) (upL hi k (hi k)) (upL co k (co k)) := a3
  rw [upL_id, upL_id, upL_id] at a3
  exact ⟨⟨a2.1, a2.2.1⟩, a1, a3⟩
theorem fl_startK (hX : xBase X) (d : Nat) {n : Nat} (hn : n ≤ 16) (u v : Nat → Nat) (lo hi co : Nat → Int) : xRet rU X m_X1_start d [xr (0, 3), xi (n : Int)] c I 0 0 (fun _ I9 => kp [(0, 3)] I I9 ∧ FR I9 (n, 0, u, v) ∧ Has I9 0 lo hi co) xNo := by
  refine xRet_w (fl_start hX d hn) ?_ (fun _ _ h => h)
  rintro _ J ⟨k3, e3⟩
  refine ⟨k3, ⟨?_, ?_, hn, show 0 ≤ 32 by omega, fun e he => absurd he (Nat.not_lt_zero e), fun e he => absurd he (Nat.not_lt_zero e)⟩, fun e he => absurd he (Nat.not_lt_zero e)⟩
  · rw [e3, upL_n (by decide), upL_n (by decide), upL_s]
  · rw [e3, upL_n (by decide), upL_s]; rfl
/-- what push brings where all edges are empty -/
theorem fl_pushE (hX : xBase X) (d : Nat) (hF : FR I G) (hH : Has I G.m (fun _ => 0) hi co) (hb : ∀ e, e < G.m → 0 ≤ hi e ∧ hi e ≤ 100) (hs : s < G.n) (ht : t < G.n) (hst : s ≠ t) : xRet rI X m_X1_push (d + 2) [xr (0, 3), xi (s : Int), xi (t : Int), xi 1000000] c I 0 0 (fun v I9 => kpS I I9 ∧ 0 ≤ v ∧ v ≤ 3200 ∧ (∀ S, btw s t S = true → v ≤ sOut G hi S) ∧ ∃ S, S < 2 ^ G.n ∧ btw s t S = true ∧ sOut G hi S = v) xNo := by
  have hG : GrIn G := hF.2.2.2.2.1
  have hm : G.m ≤ 32 := hF.2.2.2.1
  have e9 : ∀ e, e < G.m → I (0, 9) e = 0 := fun e he => by rw [(hH e he).2.2.2.1]; rfl
  have e10 : ∀ e, e < G.m → I (0, 10) e = hi e := fun e he => (hH e he).2.2.2.2.1
  have e11 : ∀ e, e < G.m → I (0, 11) e = 0 := fun e he => (hH e he).2.2.2.2.2
  refine xRet_w (fl_push hX d hF (fun e he => by rw [e9 e he, e10 e he]; have := hb e he; omega) (fun e he => by rw [e9 e he, e10 e he, e11 e he]; have := hb e he; omega) hs ht hst (by decide) (by decide)) ?_ (fun _ _ h => h)
  rintro v J ⟨k1, k2, k3, -, k5, k6⟩
  have j9 : ∀ e, e < G.m → J (0, 9) e = 0 := fun e he => by rw [k1.1 _ (by decide)]; exact e9 e he
  have j10 : ∀ e, e < G.m → J (0, 10) e = hi e := fun e he => by rw [k1.1 _ (by decide)]; exact e10 e he
  have hno : ∀ x, nout G (J (0, 11)) x = isB s t v x := fun x => by
    rw [k5 x]
    have h0 : nout G (I (0, 11)) x = 0 := sumE_0 fun e he => by rw [e11 e he]; split <;> split <;> rfl
    rw [h0]
    unfold isB
    by_cases h1 : x = s
    · subst h1
      rw [if_pos rfl, if_pos rfl, if_neg (fun h => hst h.symm)]; omega
    · rw [if_neg (fun h => h1 h.symm), if_neg h1]
      by_cases h2 : x = t
      · rw [if_pos h2.symm, if_pos h2]; omega
      · rw [if_neg (fun h => h2 h.symm), if_neg h2]; rfl
  have hp := push_cut (lo := J (0, 9)) (hi := hi) (f := J (0, 11)) hG hs ht hst j9 (fun e he => by rw [← j10 e he]; exact k2 e he) hno
  have hbt : btw s t (mask (fun x => x == s) G.n) = true := by
    unfold btw
    rw [mask_bit _ _ _ hs, mask_bit _ _ _ ht, beq_self_eq_true, beq_eq_false_iff_ne.mpr (fun h => hst h.symm)]; rfl
  have hle := hp.1 _ hbt
  have hle2 := sumE_bd (n := G.m) (f := fun e => if lvs G (mask (fun x => x == s) G.n) e then hi e else 0) (a := 0) (b := 100) (fun e he => by have := hb e he; split <;> omega)
  have hle3 : sOut G hi (mask (fun x => x == s) G.n) = sumE G.m (fun e => if lvs G (mask (fun x => x == s) G.n) e then hi e else 0) := rfl
  refine ⟨k1, k3, by omega, hp.1, hp.2 ?_⟩
  rcases k6 with k6 | k6
  · omega
  · obtain ⟨T, t1, t2, t3⟩ := k6
    refine ⟨T, t1, t2, fun x y hr => t3 x y ?_⟩
    obtain ⟨e, he, hr⟩ := hr
    refine ⟨e, he, ?_⟩
    rw [← k1.1 (0, 9) (by decide), ← k1.1 (0, 10) (by decide), j10 e he]
    exact hr
theorem st_waysByEdges (hX : xBase X) (d : Nat) (hC : CG I c i G) (hN : NB I i G.m) (hs : s < G.n) (ht : t < G.n) (hst : s ≠ t) : xRet rI X m_X6_waysByEdges (d + 4) [xr (0, 2), xr (i + 3, 0), xi (s : Int), xi (t : Int)] c I 0 0 (fun v I9 => kp flP I I9 ∧ v = edgeWaysG G (I (i + 3, 4)) s t) xNo := by
  obtain ⟨c1, c2, c3, c4, c5⟩ := id hC
  have hn := c4.2.1
  have hm := c4.2.2.1
  refine xRet_of hX pl_X6_waysByEdges (LE1 rfl) fun V hV => rg_X6_waysByEdges_0 hV I _ c1 _ _ ?_
  rw [c2]
  refine ⟨_, fl_startK hX (d + 3) (show G.n ≤ 16 by omega) G.u G.v (fun _ => 0) (onH (I (i + 3, 4))) (fun _ => 0), ?_⟩
  rintro _ J0 ⟨k0, f0, h0⟩
  refine up_to0 (m := G.m) (W := fun k => ∀ J, kp flP I J → FR J (G.n, k, G.u, G.v) → Has J k (fun _ => 0) (onH (I (i + 3, 4))) (fun _ => 0) → V 14 [(0, xr (0, 2)), (1, xr (i + 3, 0)), (2, xi (s : Int)), (3, xi (t : Int)), (4, xi (k : Int))] [] (J, xst c) 0 0) ?_ ?_ J0 (k0.mo (by simp [flP])) f0 h0
  · rintro J k1 f1 h1
    refine rg_X6_waysByEdges_14 hV J _ c1 _ _ _ ⟨⟨by omega, by omega⟩, fun _ => ⟨_, fl_pushE hX (d + 1) f1 h1 (fun e he => by have := onH_bd (I (i + 3, 4)) e; omega) hs ht hst, ?_⟩, fun h => ?_⟩
    · rintro v K ⟨k2, p0, -, p1, p2⟩
      refine ⟨k1.tr k2.q, ?_⟩
      have hb : v ≤ 1000 := by
        obtain ⟨S, -, -, q⟩ := p2
        have h9 := sumE_bd (n := G.m) (f := fun e => if lvs G S e then onH (I (i + 3, 4)) e else 0) (a := 0) (b := 1) (fun e he => by have := onH_bd (I (i + 3, 4)) e; split <;> omega)
        have h8 : sOut G (onH (I (i + 3, 4))) S = sumE G.m (fun e => if lvs G S e then onH (I (i + 3, 4)) e else 0) := rfl
        have h7 : sOut (G.n, G.m, G.u, G.v) (onH (I (i + 3, 4))) S = sOut G (onH (I (i + 3, 4))) S := rfl
        omega
      exact (mnb_eq hb (fun S _ hS => p1 S hS) p2).symm
    · rw [kpq.net k1, c3] at h; omega
  · intro k hk ih J k1 f1 h1
    have hl := c4.2.2.2 k hk
    have hb := hN k hk
    refine rg_X6_waysByEdges_14 hV J _ c1 _ _ _ ⟨⟨by omega, by omega⟩, fun h => ?_, fun _ => ⟨⟨by omega, by omega⟩, ?_⟩⟩
    · rw [kpq.net k1, c3] at h; omega
    rw [tnN, kpq.net k1, kpq.net k1, kpq.net k1, (c5 k hk).1, (c5 k hk).2]
    have add : ∀ x : Int, x = onH (I (i + 3, 4)) k → ∃ (P8 : Unit → xIn → Prop), xRet rU X m_X1_add (d + 3) [xr (0, 3), xi (G.u k : Int), xi (G.v k : Int), xi 0, xi x, xi 0] c J 0 0 P8 xNo ∧ (∀ (_ : Unit) (I9 : xIn), P8 () I9 → V 14 [(0, xr (0, 2)), (1, xr (i + 3, 0)), (2, xi (s : Int)), (3, xi (t : Int)), (4, xi ((k : Int) + 1))] [] (I9, xst c) 0 0) := by
      rintro _ rfl
      refine ⟨_, fl_addK hX (d + 1) f1 h1 (show G.u k < G.n by omega) (show G.v k < G.n by omega) (by omega) ⟨by decide, by decide⟩ (by have := onH_bd (I (i + 3, 4)) k; exact ⟨by omega, by omega⟩) ⟨by decide, by decide⟩, ?_⟩
      rintro _ K ⟨k2, f2, h2⟩
      exact ih K (k1.tr k2.q) f2 h2
    refine ⟨fun z => add 0 (by unfold onH; rw [if_neg (by omega)]), fun z => add 1 (by unfold onH; rw [if_pos (by omega)])⟩
end WYS
section WYT
variable {X : xX} {c : xCx} {I : xIn} {T : NT} {a s t : Int}
theorem sOutF_cong {G : Gr} {f g : Nat → Int} (h : ∀ e, e < G.m → f e = g e) : sOut G f = sOut G g := by
  funext S; exact sOut_cong h S
theorem edgeWaysG_cong {G : Gr} {hi hi9 : Nat → Int} (h : ∀ e, e < G.m → hi e = hi9 e) (s t : Nat) : edgeWaysG G hi s t = edgeWaysG G hi9 s t := by
  unfold edgeWaysG
  rw [sOutF_cong (g := onH hi9) (fun e he => by unfold onH; rw [h e he])]
theorem cn_edgeWays (hX : xBase X) (d : Nat) (hT : NTok T) (hI : CI I c T) (ha : xin a) (hs : xin s) (ht : xin t) : xRet rI X m_X9_edgeWays (d + 8) [xr (0, 0), xi a, xi s, xi t] c I 2 12 (fun v I9 => keepC I I9 ∧ (v, 0) = edgeWaysA T a s t) (fun x I9 => I9 = I ∧ exL [xIOB, xIAE] x (edgeWaysA T a s t).2) := by
  unfold edgeWaysA
  have hwc := wrong_c T a s t
  refine xRet_of hX pl_X9_edgeWays (LE1 rfl) fun V hV => rg_X9_edgeWays_0 hV I _ _ _ (go_ends hX d hT hI ha hs ht (fun x hx hw => ⟨rfl, by rw [wE_p hw]; exact hx.l (by omega)⟩) ?_)
  rintro i s t rfl rfl rfl hi hC hs9 ht9 hst hw
  rw [wE_0 hw, tnN, tnN, tnN]
  refine ⟨_, st_waysByEdges hX (d + 3) hC (hI.nb hT hi) hs9 ht9 hst, ?_⟩
  rintro _ J ⟨k1, rfl⟩
  exact ⟨kp.C k1 (by decide), by rw [edgeWaysG_cong (hI.hi hi)]⟩
end WYT
