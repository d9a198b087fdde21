/-! isFull, wider, without -/
def isFullG (G : Gr) (lo hi : Nat → Int) (s t e : Nat) : Bool × Int := if amountF G lo hi s t = NONE9 then (false, 3) else (decide (leastF G lo hi s t (amountF G lo hi s t) e = hi e), 0)
def isFullA (T : NT) (a s t e : Int) : Bool × Int := wE false (wrongET T a s t e) (isFullG (T.G (Int.toNat a)) (T.lo (Int.toNat a)) (T.hi (Int.toNat a)) (Int.toNat s) (Int.toNat t) (Int.toNat e))
def amountG (G : Gr) (lo hi : Nat → Int) (s t : Nat) : Int × Int := if amountF G lo hi s t = NONE9 then (0, 3) else (amountF G lo hi s t, 0)
def widerA (T : NT) (a s t e : Int) : Int × Int := wE 0 (wrongET T a s t e) (amountG (T.G (Int.toNat a)) (T.lo (Int.toNat a)) (upL (T.hi (Int.toNat a)) (Int.toNat e) (T.hi (Int.toNat a) (Int.toNat e) + 1)) (Int.toNat s) (Int.toNat t))
def withoutA (T : NT) (a s t e : Int) : Int × Int := wE 0 (wrongET T a s t e) (amountG (T.G (Int.toNat a)) (upL (T.lo (Int.toNat a)) (Int.toNat e) 0) (upL (T.hi (Int.toNat a)) (Int.toNat e) 0) (Int.toNat s) (Int.toNat t))
theorem wrongE_T2 {T : NT} {a s t e : Int} (h : wrongET T a s t e = 0) : wrongT T a s t = 0 := by
  obtain ⟨i, s9, t9, e9, rfl, rfl, rfl, rfl, hi, hs9, ht9, hst, he9⟩ := wrongE_0 (show wrongET T a s t e ≤ 0 by omega)
  unfold wrongT twoB
  rw [show inB (i : Int) T.N = true from decide_eq_true (by omega), tnN, show inB (s9 : Int) (T.G i).n = true from decide_eq_true (by omega), show inB (t9 : Int) (T.G i).n = true from decide_eq_true (by omega), show decide ((s9 : Int) ≠ (t9 : Int)) = true from decide_eq_true (by omega)]
  rfl
/-- bounds that a net may have, a little more -/
def BdH (m : Nat) (lo hi : Nat → Int) : Prop := ∀ e, e < m → 0 ≤ lo e ∧ lo e ≤ hi e ∧ hi e ≤ 100
theorem amount_inH {G : Gr} (hG : GrOK G) {lo hi : Nat → Int} (hB : BdH G.m lo hi) {s t : Nat} (hs : s < G.n) (ht : t < G.n) (hst : s ≠ t) : xin (amountF G lo hi s t) := by
  by_cases hno : ∀ S, S < 2 ^ G.n → crowdP G lo hi s t S = false
  · obtain ⟨e1, f, e2⟩ := flow_ex hG hs ht hst hB hno
    have e3 := flow_bd hG hs ht hst (fun e he => by have := hB e he; omega) e2
    exact ⟨by omega, by omega⟩
  · by_cases hx : ∃ S, S < 2 ^ G.n ∧ crowdP G lo hi s t S = true
    · obtain ⟨S, c1, c2⟩ := hx
      rw [amount_none c1 c2]; exact ⟨by decide, by decide⟩
    · exfalso
      refine hno fun S hS => ?_
      cases hc : crowdP G lo hi s t S
      · rfl
      · exact absurd ⟨S, hS, hc⟩ hx
section MWD
variable {X : xX} {c : xCx} {I : xIn} {T : NT} {a s t e : Int}
end MWD
section CWD
variable {X : xX} {c : xCx} {I : xIn} {T : NT} {a s t e : Int}
theorem cn_isFull (hX : xBase X) (d : Nat) (hT : NTok T) (hI : CI I c T) (ha : xin a) (hs : xin s) (ht : xin t) (he : xin e) : xRet rB X m_X9_isFull (d + 9) [xr (0, 0), xi a, xi s, xi t, xi e] c I 4 24 (fun v I9 => keepC I I9 ∧ (v, 0) = isFullA T a s t e) (fun x I9 => keepC I I9 ∧ exN x (isFullA T a s t e).2) := by
  unfold isFullA
  refine xRet_of hX pl_X9_isFull (LE1 rfl) fun V hV => rg_X9_isFull_0 hV I _ _ _ _ (go_edgeEnds hX (d + 1) hT hI ha hs ht he (fun x hx hw => ⟨keepC.id9, by rw [wE_p hw]; exact hx⟩) ?_)
  rintro i s t e rfl rfl rfl rfl hi hC hs9 ht9 hst he9 hw
  rw [wE_0 hw, tnN, tnN, tnN, tnN]
  have hG := hC.2.2.2.1
  have hn := hG.2.1
  have hm := hG.2.2.1
  have hcg : amountF (T.G i) (I (i + 3, 3)) (I (i + 3, 4)) s t = amountF (T.G i) (T.lo i) (T.hi i) s t := amountF_cong (hI.lo hi) (hI.hi hi)
  refine ⟨_, _, cn_greatest hX d hC (hI.nb hT hi) hs9 ht9 hst, ?_, ?_⟩
  · rintro e J ⟨rfl, k1, k2⟩
    rw [hcg] at k2
    exact ⟨k1.C, by unfold isFullG; rw [if_pos k2]; exact Or.inr (Or.inr ⟨rfl, rfl⟩)⟩
  · rintro v J ⟨k1, k2, k3, hF, a0, p, lo, hi9, hf, hb, hv⟩
    have hbb : ∀ k, k < (T.G i).m → lo k = T.lo i k ∧ hi9 k = T.hi i k := fun k hk => by
      rw [(hb k hk).1, (hb k hk).2]; exact ⟨hI.lo hi k hk, hI.hi hi k hk⟩
    rw [k2, hcg] at k3
    refine ⟨_, st_leastOf hX (d + 4) hG hs9 ht9 hst hF hf (fun k hk => by
      rw [(hbb k hk).1, (hbb k hk).2]
      have := hT.b100 hi k hk
      omega) he9, ?_⟩
    rintro _ J2 ⟨k4, rfl⟩
    have kk : kpX I J2 := kp.tr k1 (k4.1.mo (by simp))
    rw [hv, k2, hcg, leastF_cong he9 (fun k hk => (hbb k hk).1) (fun k hk => (hbb k hk).2), kk (i + 3, 4) (by simp), hI.hi hi e he9]
    have hlb : xin (leastF (T.G i) (T.lo i) (T.hi i) s t (amountF (T.G i) (T.lo i) (T.hi i) s t) e) := by
      rcases amount_in hT hi hs9 ht9 hst with z | ⟨-, -, f, hf⟩
      · exact absurd z k3
      · obtain ⟨g, g1, g2⟩ := FS.least hG.in he9 (Int.toNat (f e - T.lo i e)) f hf (by omega)
        rw [← leastF_C hs9 ht9 hst] at g2
        have b1 := g1.1 e he9
        have b2 := hT.b100 hi e he9
        rw [← g2]
        exact ⟨by omega, by omega⟩
    refine ⟨⟨by omega, by omega⟩, hlb, fun z => ⟨kk.C, ?_⟩, fun z => ⟨kk.C, ?_⟩⟩
    · rw [isFullG, if_neg k3, decide_eq_false z]
    · rw [isFullG, if_neg k3, decide_eq_true z]
/-- fill behind one edge's bounds set anew -/
theorem fill_after (hX : xBase X) (d : Nat) {i s t e : Nat} {G : Gr} {I J K : xIn} (hG : GrOK G) (hN : NB I i G.m) (hs : s < G.n) (ht : t < G.n) (hst : s ≠ t) (he : e < G.m) {b1 b2 : Int} (hb1 : 0 ≤ b1) (hb2 : b1 ≤ b2) (hb3 : b2 ≤ 100) (hL : LaidS I J i G s t) (hk : kp [(0, 6), (0, 7), (0, 9), (0, 10)] J K) (h6 : K (0, 6) = upL (J (0, 6)) e b1) (h7 : K (0, 7) = upL (J (0, 7)) e b2) (h9 : K (0, 9) = upL (J (0, 9)) e (if b1 < 0 then b1 else 0)) (h10 : K (0, 10) = upL (J (0, 10)) e b2) :
    xRet rB X m_X6_fill (d + 4) [xr (0, 2)] c K 0 0 (fun v I9 => kpX I I9 ∧ ((v = true ∧ amountF G (upL (I (i + 3, 3)) e b1) (upL (I (i + 3, 4)) e b2) s t ≠ NONE9 ∧ I9 (0, 2) 4 = amountF G (upL (I (i + 3, 3)) e b1) (upL (I (i + 3, 4)) e b2) s t) ∨ (v = false ∧ amountF G (upL (I (i + 3, 3)) e b1) (upL (I (i + 3, 4)) e b2) s t = NONE9))) xNo := by
  obtain ⟨p1, p2, p3, p4, p5⟩ := hL.pre hN
  obtain ⟨-, l2, -, l4, l5, l6⟩ := hL
  have q2 : K (0, 2) = J (0, 2) := hk _ (by decide)
  have q11 : K (0, 11) = J (0, 11) := hk _ (by decide)
  have hem : ¬ G.m = e := by omega
  have e6 : ∀ k, k < G.m → K (0, 6) k = upL (I (i + 3, 3)) e b1 k ∧ K (0, 7) k = upL (I (i + 3, 4)) e b2 k := fun k hk9 => by
    rw [h6, h7]
    by_cases hke : k = e
    · rw [hke, upL_s, upL_s, upL_s, upL_s]; exact ⟨rfl, rfl⟩
    · rw [upL_n hke, upL_n hke, upL_n hke, upL_n hke]; exact ⟨(p3 k hk9).1, (p3 k hk9).2.1⟩
  have hc : amountF G (K (0, 6)) (K (0, 7)) s t = amountF G (upL (I (i + 3, 3)) e b1) (upL (I (i + 3, 4)) e b2) s t := amountF_cong (fun k hk => (e6 k hk).1) (fun k hk => (e6 k hk).2)
  have hLaid : Laid K (G.m + 1) := fun k hk9 => by
    have h1 := p2 k hk9
    rw [h6, h7, h9, h10, q11]
    by_cases hke : k = e
    · rw [hke] at h1 ⊢
      rw [upL_s, upL_s, upL_s, upL_s]
      refine ⟨h1.1, rfl, rfl, hb2, by omega, by omega, by omega⟩
    · rw [upL_n hke, upL_n hke, upL_n hke, upL_n hke]; exact h1
  refine xRet_w (st_fill hX d hG hs ht hst (l2.kp hk (by decide) (by decide) (by decide)) hLaid (fun k hk9 => ?_) (by rw [h6, upL_n hem]; exact p4) (by rw [h7, upL_n hem]; exact p5) (by rw [q2]; exact l4) (by rw [q2]; exact l5) (by rw [q2]; exact l6)) ?_ (fun _ _ h => h)
  · rw [(e6 k hk9).1, (e6 k hk9).2]
    have := hN k hk9
    by_cases hke : k = e
    · rw [hke, upL_s, upL_s]; omega
    · rw [upL_n hke, upL_n hke]; omega
  · rintro v J9 ⟨k2, h2⟩
    rw [hc] at h2
    refine ⟨kp.tr (kp.tr p1 (hk.mo (by simp))) (k2.1.mo (by simp)), ?_⟩
    rcases h2 with ⟨rfl, a0, p, -, f2, f3, f4⟩ | h2
    · exact Or.inl ⟨rfl, f3, by rw [f4, f2]⟩
    · exact Or.inr h2
end CWD
