/-! isFull, wider, without -/
def isFullG (G : Gr) (lo hi : Nat → Int) (s t e : Nat) : Bool × Int := if amountF G lo hi s t = NONE9 then (false, 3) else (decide (leastF G lo hi s t (amountF G lo hi s t) e = hi e), 0)
def isFullA (T : NT) (a s t e : Int) : Bool × Int := wE false (wrongET T a s t e) (isFullG (T.G (Int.toNat a)) (T.lo (Int.toNat a)) (T.hi (Int.toNat a)) (Int.toNat s) (Int.toNat t) (Int.toNat e))
def amountG (G : Gr) (lo hi : Nat → Int) (s t : Nat) : Int × Int := if amountF G lo hi s t = NONE9 then (0, 3) else (amountF G lo hi s t, 0)
def widerA (T : NT) (a s t e : Int) : Int × Int := wE 0 (wrongET T a s t e) (amountG (T.G (Int.toNat a)) (T.lo (Int.toNat a)) (upL (T.hi (Int.toNat a)) (Int.toNat e) (T.hi (Int.toNat a) (Int.toNat e) + 1)) (Int.toNat s) (Int.toNat t))
def withoutA (T : NT) (a s t e : Int) : Int × Int := wE 0 (wrongET T a s t e) (amountG (T.G (Int.toNat a)) (upL (T.lo (Int.toNat a)) (Int.toNat e) 0) (upL (T.hi (Int.toNat a)) (Int.toNat e) 0) (Int.toNat s) (Int.toNat t))
theorem wrongE_T2 {T : NT} {a s t e : Int} (h : wrongET T a s t e = 0) : wrongT T a s t = 0 := by
  obtain ⟨i, s9, t9, e9, rfl, rfl, rfl, rfl, hi, hs9, ht9, hst, he9⟩ := wrongE_0 (show wrongET T a s t e ≤ 0 by omega)
  unfold wrongT twoB
  rw [show inB (i : Int) T.N = true from decide_eq_true (by omega), tnN, show inB (s9 : Int) (T.G i).n = true from decide_eq_true (by omega), show inB (t9 : Int) (T.G i).n = true from decide_eq_true (by omega), show decide ((s9 : Int) ≠ (t9 : Int)) = true from decide_eq_true (by omega)]
  rfl
/-- bounds that a net may have, a little more -/
def BdH (m : Nat) (lo hi : Nat → Int) : Prop := ∀ e, e < m → 0 ≤ lo e ∧ lo e ≤ hi e ∧ hi e ≤ 100
theorem amount_inH {G : Gr} (hG : GrOK G) {lo hi : Nat → Int} (hB : BdH G.m lo hi) {s t : Nat} (hs : s < G.n) (ht : t < G.n) (hst : s ≠ t) : xin (amountF G lo hi s t) := by
  by_cases hno : ∀ S, S < 2 ^ G.n → crowdP G lo hi s t S = false
  · obtain ⟨e1, f, e2⟩ := flow_ex hG hs ht hst hB hno
    have e3 := flow_bd hG hs ht hst (fun e he => by have := hB e he; omega) e2
    exact ⟨by omega, by omega⟩
  · by_cases hx : ∃ S, S < 2 ^ G.n ∧ crowdP G lo hi s t S = true
    · obtain ⟨S, c1, c2⟩ := hx
      rw [amount_none c1 c2]; exact ⟨by decide, by decide⟩
    · exfalso
      refine hno fun S hS => ?_
      cases hc : crowdP G lo hi s t S
      · rfl
      · exact absurd ⟨S, hS, hc⟩ hx
section MWD
variable {X : xX} {c : xCx} {I : xIn} {T : NT} {a s t e : Int}
theorem ok_isFull (hX : xBase X) (d : Nat) (hT : NTok T) (hI : MI I T) (ha : xin a) (hs : xin s) (ht : xin t) (he : xin e) : xRet rB X m_X10_isFull (d + 6) [xr (1, 0), xi a, xi s, xi t, xi e] c I 0 0 (fun v I9 => keepM I I9 ∧ (v, I9 (1, 0) 32) = isFullA T a s t e) xNo := by
  refine xRet_of hX pl_X10_isFull (LE1 rfl) fun V hV => rg_X10_isFull_0 hV I _ _ _ _ (mo_wrongE hX (d + 2) hT hI ha hs ht he fun J k1 e32 => ?_)
  have hwc := wrongE_c T a s t e
  rw [e32]
  refine ⟨fun h => ?_, fun h => ⟨k1, by unfold isFullA; rw [wE_p h]⟩⟩
  have hw : wrongET T a s t e = 0 := by omega
  have hw2 := wrongE_T2 hw
  obtain ⟨i9, s9, t9, e, rfl, rfl, rfl, rfl, hi9, hs9, ht9, hst9, he9⟩ := wrongE_0 h
  refine ⟨_, ok_mostC hX d hT (hI.keep k1) ha hs ht, ?_⟩
  rintro v J2 ⟨k2, hc⟩
  have kk := k1.tr k2
  rcases hc with ⟨hw3, -⟩ | ⟨-, i, s, t, h1, h2, h3, hi, hs9, ht9, hst, hc⟩
  · omega
  obtain rfl : i9 = i := by omega
  obtain rfl : s9 = s := by omega
  obtain rfl : t9 = t := by omega
  have hA : isFullA T (i9 : Int) (s9 : Int) (t9 : Int) (e : Int) = isFullG (T.G i9) (T.lo i9) (T.hi i9) s9 t9 e := by
    unfold isFullA
    rw [wE_0 hw, tnN, tnN, tnN, tnN]
  rw [hA]
  rcases hc with ⟨hn, rfl, e2⟩ | ⟨hn, hv, e2, hvb, hMB⟩
  · exact ⟨fun _ => ⟨kk, by rw [e2, isFullG, if_pos hn]⟩, fun z => by omega⟩
  · obtain ⟨hG, hB, -⟩ := hT.2 i9 hi
    obtain ⟨hM, -⟩ := (hI.keep kk).2.2 i9 hi
    have hgn := hG.2.1
    have hgm := hG.2.2.1
    have hm16 : e < 16 := by omega
    refine ⟨fun z => by omega, fun _ => ⟨_, ok_leastOf hX (d + 2) hG hM hMB (MI.nb hT hi) (by decide) (by omega) (by omega) (by omega) he9, ?_⟩⟩
    rintro _ J2 ⟨rfl, rfl⟩
    rw [hv, tnN, (hMB e he9).2]
    have hlb : xin (leastF (T.G i9) (T.lo i9) (T.hi i9) s9 t9 (amountF (T.G i9) (T.lo i9) (T.hi i9) s9 t9) e) := by
      rcases amount_in hT hi hs9 ht9 hst with z | ⟨-, -, f, hf⟩
      · exact absurd z hn
      · obtain ⟨g, g1, g2⟩ := FS.least hG.in he9 (Int.toNat (f e - T.lo i9 e)) f hf (by omega)
        rw [← leastF_C hs9 ht9 hst] at g2
        have b1 := g1.1 e he9
        have b2 := hT.b100 hi e he9
        rw [← g2]
        exact ⟨by omega, by omega⟩
    refine ⟨⟨by omega, by omega⟩, hlb, fun z => ⟨kk, ?_⟩, fun z => ⟨kk, ?_⟩⟩
    · rw [e2, isFullG, if_neg hn, decide_eq_false z]
    · rw [e2, isFullG, if_neg hn, decide_eq_true z]
theorem ok_wider (hX : xBase X) (d : Nat) (hT : NTok T) (hI : MI I T) (ha : xin a) (hs : xin s) (ht : xin t) (he : xin e) : xRet rI X m_X10_wider (d + 5) [xr (1, 0), xi a, xi s, xi t, xi e] c I 0 0 (fun v I9 => keepM I I9 ∧ (v, I9 (1, 0) 32) = widerA T a s t e) xNo := by
  refine xRet_of hX pl_X10_wider (LE1 rfl) fun V hV => rg_X10_wider_0 hV I _ _ _ _ (mo_wrongE hX (d + 1) hT hI ha hs ht he fun J k1 e32 => ?_)
  have hwc := wrongE_c T a s t e
  rw [e32]
  refine ⟨fun h => ?_, fun h => ⟨k1, by unfold widerA; rw [wE_p h]⟩⟩
  have hw : wrongET T a s t e = 0 := by omega
  obtain ⟨i, s, t, e, rfl, rfl, rfl, rfl, hi, hs9, ht9, hst, he9⟩ := wrongE_0 h
  have hA : widerA T (i : Int) (s : Int) (t : Int) (e : Int) = amountG (T.G i) (T.lo i) (upL (T.hi i) e (T.hi i e + 1)) s t := by
    unfold widerA
    rw [wE_0 hw, tnN, tnN, tnN, tnN]
  obtain ⟨hG, hB, -⟩ := hT.2 i hi
  obtain ⟨hM, hN, -⟩ := (hI.keep k1).2.2 i hi
  have hgn := hG.2.1
  have hgm := hG.2.2.1
  have hBe := (hB e he9).1
  have hH : BdH (T.G i).m (T.lo i) (upL (T.hi i) e (T.hi i e + 1)) := fun k hk => by
    have := (hB k hk).1
    by_cases hke : k = e
    · rw [hke, upL_s]; omega
    · rw [upL_n hke]; omega
  refine ⟨_, ok_looksAt hX (d + 4) hG hM hN, ?_⟩
  rintro _ J2 ⟨a1, a2⟩
  rw [tnN, (a2 e he9).2]
  refine ⟨⟨by omega, by omega⟩, ⟨by omega, by omega⟩, ?_⟩
  rintro J3 h3
  have kk : keepM I J3 := k1.tr (by rw [h3]; exact kpM.keep (kp.xu a1 (by simp)))
  have hMB : MB J3 (T.G i).m (T.lo i) (upL (T.hi i) e (T.hi i e + 1)) := fun k hk => by
    rw [h3, xu_p (by decide), xuL]
    by_cases hke : k = e
    · rw [hke, upL_s, upL_s]; exact ⟨(a2 e he9).1, rfl⟩
    · rw [upL_n hke, upL_n hke]; exact a2 k hk
  obtain ⟨hM3, -⟩ := (hI.keep kk).2.2 i hi
  refine ⟨_, ok_amount hX d hG hM3 hMB (z := 100) ⟨by decide, fun k hk => by have := hH k hk; omega⟩ (by decide) (by omega) (by omega), ?_⟩
  rintro _ J3 ⟨rfl, rfl⟩
  refine ⟨amount_inH hG hH hs9 ht9 hst, fun z => rg_X10_wider_60 hV J3 _ _ ⟨⟨by decide, by decide⟩, ?_⟩, fun z => rg_X10_wider_60 hV J3 _ _ ⟨⟨by decide, by decide⟩, ?_⟩⟩
  · rintro J4 rfl
    rw [xu_same]
    refine ⟨fun _ => ⟨kk.tr (keepM.thrown _), ?_⟩, fun w => absurd w (by decide)⟩
    rw [hA, amountG]; exact (if_neg z).symm
  · rintro J4 rfl
    rw [xu_same]
    refine ⟨fun w => absurd w (by decide), fun _ => ⟨kk.tr (keepM.thrown _), ?_⟩⟩
    rw [hA, amountG]; exact (if_pos z).symm
theorem ok_without (hX : xBase X) (d : Nat) (hT : NTok T) (hI : MI I T) (ha : xin a) (hs : xin s) (ht : xin t) (he : xin e) : xRet rI X m_X10_without (d + 5) [xr (1, 0), xi a, xi s, xi t, xi e] c I 0 0 (fun v I9 => keepM I I9 ∧ (v, I9 (1, 0) 32) = withoutA T a s t e) xNo := by
  refine xRet_of hX pl_X10_without (LE1 rfl) fun V hV => rg_X10_without_0 hV I _ _ _ _ (mo_wrongE hX (d + 1) hT hI ha hs ht he fun J k1 e32 => ?_)
  have hwc := wrongE_c T a s t e
  rw [e32]
  refine ⟨fun h => ?_, fun h => ⟨k1, by unfold withoutA; rw [wE_p h]⟩⟩
  have hw : wrongET T a s t e = 0 := by omega
  obtain ⟨i, s, t, e, rfl, rfl, rfl, rfl, hi, hs9, ht9, hst, he9⟩ := wrongE_0 h
  have hA : withoutA T (i : Int) (s : Int) (t : Int) (e : Int) = amountG (T.G i) (upL (T.lo i) e 0) (upL (T.hi i) e 0) s t := by
    unfold withoutA
    rw [wE_0 hw, tnN, tnN, tnN, tnN]
  obtain ⟨hG, hB, -⟩ := hT.2 i hi
  obtain ⟨hM, hN, -⟩ := (hI.keep k1).2.2 i hi
  have hgn := hG.2.1
  have hgm := hG.2.2.1
  have hBe := (hB e he9).1
  have hH : BdH (T.G i).m (upL (T.lo i) e 0) (upL (T.hi i) e 0) := fun k hk => by
    have := (hB k hk).1
    by_cases hke : k = e
    · rw [hke, upL_s, upL_s]; omega
    · rw [upL_n hke, upL_n hke]; omega
  refine ⟨_, ok_looksAt hX (d + 4) hG hM hN, ?_⟩
  rintro _ J2 ⟨a1, a2⟩
  rw [tnN]
  refine ⟨⟨by omega, by omega⟩, ?_⟩
  rintro J3 h3 J4 h4
  have kk : keepM I J4 := k1.tr (by rw [h4, h3]; exact kpM.keep ((kp.xu a1 (by simp)).xu (by simp)))
  have hMB : MB J4 (T.G i).m (upL (T.lo i) e 0) (upL (T.hi i) e 0) := fun k hk => by
    rw [h4, xu_p (by decide), h3, xuL, xuL, xu_p (by decide)]
    by_cases hke : k = e
    · rw [hke, upL_s, upL_s, upL_s, upL_s]; exact ⟨rfl, rfl⟩
    · rw [upL_n hke, upL_n hke, upL_n hke, upL_n hke]; exact a2 k hk
  obtain ⟨hM3, -⟩ := (hI.keep kk).2.2 i hi
  refine ⟨_, ok_amount hX d hG hM3 hMB (z := 100) ⟨by decide, fun k hk => by have := hH k hk; omega⟩ (by decide) (by omega) (by omega), ?_⟩
  rintro _ J5 ⟨rfl, rfl⟩
  refine ⟨amount_inH hG hH hs9 ht9 hst, fun z => rg_X10_without_65 hV _ _ _ ⟨⟨by decide, by decide⟩, ?_⟩, fun z => rg_X10_without_65 hV _ _ _ ⟨⟨by decide, by decide⟩, ?_⟩⟩
  · rintro J6 rfl
    rw [xu_same]
    refine ⟨fun _ => ⟨kk.tr (keepM.thrown _), ?_⟩, fun w => absurd w (by decide)⟩
    rw [hA, amountG]; exact (if_neg z).symm
  · rintro J6 rfl
    rw [xu_same]
    refine ⟨fun w => absurd w (by decide), fun _ => ⟨kk.tr (keepM.thrown _), ?_⟩⟩
    rw [hA, amountG]; exact (if_pos z).symm
end MWD
section CWD
variable {X : xX} {c : xCx} {I : xIn} {T : NT} {a s t e : Int}
theorem cn_isFull (hX : xBase X) (d : Nat) (hT : NTok T) (hI : CI I c T) (ha : xin a) (hs : xin s) (ht : xin t) (he : xin e) : xRet rB X m_X9_isFull (d + 9) [xr (0, 0), xi a, xi s, xi t, xi e] c I 4 24 (fun v I9 => keepC I I9 ∧ (v, 0) = isFullA T a s t e) (fun x I9 => keepC I I9 ∧ exN x (isFullA T a s t e).2) := by
  unfold isFullA
  refine xRet_of hX pl_X9_isFull (LE1 rfl) fun V hV => rg_X9_isFull_0 hV I _ _ _ _ (go_edgeEnds hX (d + 1) hT hI ha hs ht he (fun x hx hw => ⟨keepC.id9, by rw [wE_p hw]; exact hx⟩) ?_)
  rintro i s t e rfl rfl rfl rfl hi hC hs9 ht9 hst he9 hw
  rw [wE_0 hw, tnN, tnN, tnN, tnN]
  have hG := hC.2.2.2.1
  have hn := hG.2.1
  have hm := hG.2.2.1
  have hcg : amountF (T.G i) (I (i + 3, 3)) (I (i + 3, 4)) s t = amountF (T.G i) (T.lo i) (T.hi i) s t := amountF_cong (hI.lo hi) (hI.hi hi)
  refine ⟨_, _, cn_greatest hX d hC (hI.nb hT hi) hs9 ht9 hst, ?_, ?_⟩
  · rintro e J ⟨rfl, k1, k2⟩
    rw [hcg] at k2
    exact ⟨k1.C, by unfold isFullG; rw [if_pos k2]; exact Or.inr (Or.inr ⟨rfl, rfl⟩)⟩
  · rintro v J ⟨k1, k2, k3, hF, a0, p, lo, hi9, hf, hb, hv⟩
    have hbb : ∀ k, k < (T.G i).m → lo k = T.lo i k ∧ hi9 k = T.hi i k := fun k hk => by
      rw [(hb k hk).1, (hb k hk).2]; exact ⟨hI.lo hi k hk, hI.hi hi k hk⟩
    rw [k2, hcg] at k3
    refine ⟨_, st_leastOf hX (d + 4) hG hs9 ht9 hst hF hf (fun k hk => by
      rw [(hbb k hk).1, (hbb k hk).2]
      have := hT.b100 hi k hk
      omega) he9, ?_⟩
    rintro _ J2 ⟨k4, rfl⟩
    have kk : kpX I J2 := kp.tr k1 (k4.1.mo (by simp))
    rw [hv, k2, hcg, leastF_cong he9 (fun k hk => (hbb k hk).1) (fun k hk => (hbb k hk).2), kk (i + 3, 4) (by simp), hI.hi hi e he9]
    have hlb : xin (leastF (T.G i) (T.lo i) (T.hi i) s t (amountF (T.G i) (T.lo i) (T.hi i) s t) e) := by
      rcases amount_in hT hi hs9 ht9 hst with z | ⟨-, -, f, hf⟩
      · exact absurd z k3
      · obtain ⟨g, g1, g2⟩ := FS.least hG.in he9 (Int.toNat (f e - T.lo i e)) f hf (by omega)
        rw [← leastF_C hs9 ht9 hst] at g2
        have b1 := g1.1 e he9
        have b2 := hT.b100 hi e he9
        rw [← g2]
        exact ⟨by omega, by omega⟩
    refine ⟨⟨by omega, by omega⟩, hlb, fun z => ⟨kk.C, ?_⟩, fun z => ⟨kk.C, ?_⟩⟩
    · rw [isFullG, if_neg k3, decide_eq_false z]
    · rw [isFullG, if_neg k3, decide_eq_true z]
/-- fill behind one edge's bounds set anew -/
theorem fill_after (hX : xBase X) (d : Nat) {i s t e : Nat} {G : Gr} {I J K : xIn} (hG : GrOK G) (hN : NB I i G.m) (hs : s < G.n) (ht : t < G.n) (hst : s ≠ t) (he : e < G.m) {b1 b2 : Int} (hb1 : 0 ≤ b1) (hb2 : b1 ≤ b2) (hb3 : b2 ≤ 100) (hL : LaidS I J i G s t) (hk : kp [(0, 6), (0, 7), (0, 9), (0, 10)] J K) (h6 : K (0, 6) = upL (J (0, 6)) e b1) (h7 : K (0, 7) = upL (J (0, 7)) e b2) (h9 : K (0, 9) = upL (J (0, 9)) e (if b1 < 0 then b1 else 0)) (h10 : K (0, 10) = upL (J (0, 10)) e b2) :
    xRet rB X m_X6_fill (d + 4) [xr (0, 2)] c K 0 0 (fun v I9 => kpX I I9 ∧ ((v = true ∧ amountF G (upL (I (i + 3, 3)) e b1) (upL (I (i + 3, 4)) e b2) s t ≠ NONE9 ∧ I9 (0, 2) 4 = amountF G (upL (I (i + 3, 3)) e b1) (upL (I (i + 3, 4)) e b2) s t) ∨ (v = false ∧ amountF G (upL (I (i + 3, 3)) e b1) (upL (I (i + 3, 4)) e b2) s t = NONE9))) xNo := by
  obtain ⟨p1, p2, p3, p4, p5⟩ := hL.pre hN
  obtain ⟨-, l2, -, l4, l5, l6⟩ := hL
  have q2 : K (0, 2) = J (0, 2) := hk _ (by decide)
  have q11 : K (0, 11) = J (0, 11) := hk _ (by decide)
  have hem : ¬ G.m = e := by omega
  have e6 : ∀ k, k < G.m → K (0, 6) k = upL (I (i + 3, 3)) e b1 k ∧ K (0, 7) k = upL (I (i + 3, 4)) e b2 k := fun k hk9 => by
    rw [h6, h7]
    by_cases hke : k = e
    · rw [hke, upL_s, upL_s, upL_s, upL_s]; exact ⟨rfl, rfl⟩
    · rw [upL_n hke, upL_n hke, upL_n hke, upL_n hke]; exact ⟨(p3 k hk9).1, (p3 k hk9).2.1⟩
  have hc : amountF G (K (0, 6)) (K (0, 7)) s t = amountF G (upL (I (i + 3, 3)) e b1) (upL (I (i + 3, 4)) e b2) s t := amountF_cong (fun k hk => (e6 k hk).1) (fun k hk => (e6 k hk).2)
  have hLaid : Laid K (G.m + 1) := fun k hk9 => by
    have h1 := p2 k hk9
    rw [h6, h7, h9, h10, q11]
    by_cases hke : k = e
    · rw [hke] at h1 ⊢
      rw [upL_s, upL_s, upL_s, upL_s]
      refine ⟨h1.1, rfl, rfl, hb2, by omega, by omega, by omega⟩
    · rw [upL_n hke, upL_n hke, upL_n hke, upL_n hke]; exact h1
  refine xRet_w (st_fill hX d hG hs ht hst (l2.kp hk (by decide) (by decide) (by decide)) hLaid (fun k hk9 => ?_) (by rw [h6, upL_n hem]; exact p4) (by rw [h7, upL_n hem]; exact p5) (by rw [q2]; exact l4) (by rw [q2]; exact l5) (by rw [q2]; exact l6)) ?_ (fun _ _ h => h)
  · rw [(e6 k hk9).1, (e6 k hk9).2]
    have := hN k hk9
    by_cases hke : k = e
    · rw [hke, upL_s, upL_s]; omega
    · rw [upL_n hke, upL_n hke]; omega
  · rintro v J9 ⟨k2, h2⟩
    rw [hc] at h2
    refine ⟨kp.tr (kp.tr p1 (hk.mo (by simp))) (k2.1.mo (by simp)), ?_⟩
    rcases h2 with ⟨rfl, a0, p, -, f2, f3, f4⟩ | h2
    · exact Or.inl ⟨rfl, f3, by rw [f4, f2]⟩
    · exact Or.inr h2
theorem st_setBounds (hX : xBase X) (d : Nat) {G : Gr} (hF : FR I G) {e : Nat} (he : e < G.m) {a b : Int} (ha : xin a) (hb : xin b) : xRet rU X m_X6_setBounds (d + 2) [xr (0, 2), xi (e : Int), xi a, xi b] c I 0 0 (fun _ I9 => kp [(0, 6), (0, 7), (0, 9), (0, 10)] I I9 ∧ I9 (0, 6) = upL (I (0, 6)) e a ∧ I9 (0, 7) = upL (I (0, 7)) e b ∧ I9 (0, 9) = upL (I (0, 9)) e (if a < 0 then a else 0) ∧ I9 (0, 10) = upL (I (0, 10)) e b) xNo := by
  refine xRet_of hX pl_X6_setBounds (LE1 rfl) fun V hV => rg_X6_setBounds_0 hV I _ _ _ ⟨_, fl_setBounds hX d hF he ha hb, ?_⟩
  rintro _ J h
  exact h
theorem cn_wider (hX : xBase X) (d : Nat) (hT : NTok T) (hI : CI I c T) (ha : xin a) (hs : xin s) (ht : xin t) (he : xin e) : xRet rI X m_X9_wider (d + 8) [xr (0, 0), xi a, xi s, xi t, xi e] c I 4 24 (fun v I9 => keepC I I9 ∧ (v, 0) = widerA T a s t e) (fun x I9 => keepC I I9 ∧ exN x (widerA T a s t e).2) := by
  unfold widerA
  refine xRet_of hX pl_X9_wider (LE1 rfl) fun V hV => rg_X9_wider_0 hV I _ _ _ _ (go_edgeEnds hX d hT hI ha hs ht he (fun x hx hw => ⟨keepC.id9, by rw [wE_p hw]; exact hx⟩) ?_)
  rintro i s t e rfl rfl rfl rfl hi hC hs9 ht9 hst he9 hw
  rw [wE_0 hw, tnN, tnN, tnN, tnN]
  have hG := hC.2.2.2.1
  have hn := hG.2.1
  have hm := hG.2.2.1
  have hNB := hI.nb hT hi
  have hNe := hNB e he9
  have hcg : amountF (T.G i) (upL (I (i + 3, 3)) e (I (i + 3, 3) e)) (upL (I (i + 3, 4)) e (I (i + 3, 4) e + 1)) s t = amountF (T.G i) (T.lo i) (upL (T.hi i) e (T.hi i e + 1)) s t := amountF_cong (fun k hk => by rw [upL_id]; exact hI.lo hi k hk) (fun k hk => by
    by_cases hke : k = e
    · rw [hke, upL_s, upL_s, hI.hi hi e he9]
    · rw [upL_n hke, upL_n hke]; exact hI.hi hi k hk)
  refine ⟨_, st_lay hX (d + 3) hC hNB hs9 ht9, ?_⟩
  rintro _ J hL
  have q : ∀ j, J (i + 3, j) = I (i + 3, j) := fun j => hL.1 _ (by simp)
  rw [q, q]
  refine ⟨⟨by omega, by omega⟩, _, st_setBounds hX (d + 5) hL.2.1 (Nat.lt_succ_of_lt he9) ⟨by omega, by omega⟩ ⟨by omega, by omega⟩, ?_⟩
  rintro _ K ⟨b0, b6, b7, b9, b10⟩
  refine ⟨_, fill_after hX (d + 3) hG hNB hs9 ht9 hst he9 (by omega) (by omega) (by omega) hL b0 b6 b7 b9 b10, ?_⟩
  rintro v J2 ⟨k2, h2⟩
  rw [hcg] at h2
  refine ⟨_, _, cn_needFlow hX d v, ?_, ?_⟩
  · rintro x J3 ⟨rfl, rfl, rfl⟩
    rcases h2 with ⟨h2, -⟩ | ⟨-, h2⟩
    · cases h2
    · exact ⟨k2.C, by rw [amountG, if_pos h2]; exact Or.inr (Or.inr ⟨rfl, rfl⟩)⟩
  · rintro _ J3 ⟨rfl, rfl⟩
    rcases h2 with ⟨-, h2, h3⟩ | ⟨h2, -⟩
    · exact ⟨k2.C, by rw [amountG, if_neg h2, h3]⟩
    · cases h2
theorem cn_without (hX : xBase X) (d : Nat) (hT : NTok T) (hI : CI I c T) (ha : xin a) (hs : xin s) (ht : xin t) (he : xin e) : xRet rI X m_X9_without (d + 8) [xr (0, 0), xi a, xi s, xi t, xi e] c I 4 24 (fun v I9 => keepC I I9 ∧ (v, 0) = withoutA T a s t e) (fun x I9 => keepC I I9 ∧ exN x (withoutA T a s t e).2) := by
  unfold withoutA
  refine xRet_of hX pl_X9_without (LE1 rfl) fun V hV => rg_X9_without_0 hV I _ _ _ _ (go_edgeEnds hX d hT hI ha hs ht he (fun x hx hw => ⟨keepC.id9, by rw [wE_p hw]; exact hx⟩) ?_)
  rintro i s t e rfl rfl rfl rfl hi hC hs9 ht9 hst he9 hw
  rw [wE_0 hw, tnN, tnN, tnN, tnN]
  have hG := hC.2.2.2.1
  have hn := hG.2.1
  have hm := hG.2.2.1
  have hNB := hI.nb hT hi
  have hcg : amountF (T.G i) (upL (I (i + 3, 3)) e 0) (upL (I (i + 3, 4)) e 0) s t = amountF (T.G i) (upL (T.lo i) e 0) (upL (T.hi i) e 0) s t := amountF_cong (fun k hk => by
    by_cases hke : k = e
    · rw [hke, upL_s, upL_s]
    · rw [upL_n hke, upL_n hke]; exact hI.lo hi k hk) (fun k hk => by
    by_cases hke : k = e
    · rw [hke, upL_s, upL_s]
    · rw [upL_n hke, upL_n hke]; exact hI.hi hi k hk)
  refine ⟨_, st_lay hX (d + 3) hC hNB hs9 ht9, ?_⟩
  rintro _ J hL
  refine ⟨_, st_setBounds hX (d + 5) hL.2.1 (Nat.lt_succ_of_lt he9) ⟨by decide, by decide⟩ ⟨by decide, by decide⟩, ?_⟩
  rintro _ K ⟨b0, b6, b7, b9, b10⟩
  refine ⟨_, fill_after hX (d + 3) hG hNB hs9 ht9 hst he9 (by decide) (by decide) (by decide) hL b0 b6 b7 b9 b10, ?_⟩
  rintro v J2 ⟨k2, h2⟩
  rw [hcg] at h2
  refine ⟨_, _, cn_needFlow hX d v, ?_, ?_⟩
  · rintro x J3 ⟨rfl, rfl, rfl⟩
    rcases h2 with ⟨h2, -⟩ | ⟨-, h2⟩
    · cases h2
    · exact ⟨k2.C, by rw [amountG, if_pos h2]; exact Or.inr (Or.inr ⟨rfl, rfl⟩)⟩
  · rintro _ J3 ⟨rfl, rfl⟩
    rcases h2 with ⟨-, h2, h3⟩ | ⟨h2, -⟩
    · exact ⟨k2.C, by rw [amountG, if_neg h2, h3]⟩
    · cases h2
end CWD
