/-! rounds by the class -/
theorem ap_cong {m : Nat} {f f9 : Nat → Int} {w : Nat → Nat} {a : Int} {k : Nat} (hf : ∀ e, e < m → f e = f9 e) (hw : ∀ i, i < k → eg (w i) < m) : ∀ e, e < m → ap f w a k e = ap f9 w a k e := by
  induction k with
  | zero => exact hf
  | succ k ih =>
    have ih := ih fun i hi => hw i (by omega)
    intro e he
    rw [ap, ap]
    unfold a1
    by_cases h : e = eg (w k)
    · rw [h, upL_s, upL_s, ih _ (hw k (by omega))]
    · rw [upL_n h, upL_n h]; exact ih e he
def goneTo (M : Nat) (r : Int) : Nat := if 0 ≤ r ∧ r < (M : Int) then Int.toNat r + 1 else M
section CRD
variable {X : xX} {c : xCx} {I : xIn} {i : Nat} {G : Gr} {s t : Nat}
theorem nt_hasLeast (hX : xBase X) (d : Nat) (hC : CG I c i G) : xRet rB X m_X3_hasLeast d [xr (i + 3, 0)] c I 0 0 (pv (!noL G (I (i + 3, 3))) I) xNo := by
  obtain ⟨hi, hn, hm, hG, hE⟩ := id hC
  have hm16 := hG.2.2.1
  refine xRet_of hX pl_X3_hasLeast (LE1 rfl) fun V hV => rg_X3_hasLeast_0 hV I i hi ?_
  refine up_to0 (m := G.m) (W := fun k => (∀ e, e < k → decide (I (i + 3, 3) e ≠ 0) = false) → V 2 [(0, xr (i + 3, 0)), (1, xi (k : Int))] [] (I, xst c) 0 0) ?_ ?_ (fun e he => absurd he (Nat.not_lt_zero e))
  · intro h
    refine rg_X3_hasLeast_2 hV I i hi _ ⟨⟨by omega, by omega⟩, fun _ => pvI ?_, fun h => by omega⟩
    unfold noL
    rw [ff_none h]; rfl
  · intro k hk ih h
    refine rg_X3_hasLeast_2 hV I i hi _ ⟨⟨by omega, by omega⟩, fun h => by omega, fun _ => ⟨⟨by omega, by omega⟩, fun z => ih fun e he => ?_, fun z => pvI ?_⟩⟩
    · by_cases hek : e = k
      · rw [hek]; exact decide_eq_false (fun q => q z)
      · exact h e (by omega)
    · rw [tnN] at z
      unfold noL
      rw [ff_hit hk (decide_eq_true z) h, decide_eq_false (by omega)]; rfl
theorem cn_needNoLeasts (hX : xBase X) (d : Nat) (hC : CG I c i G) : xRet rU X m_X9_needNoLeasts (d + 7) [xr (i + 3, 0)] c I 1 6 (fun _ I9 => I9 = I ∧ noL G (I (i + 3, 3)) = true) (fun e I9 => e = xUOE ∧ I9 = I ∧ noL G (I (i + 3, 3)) = false) := by
  refine xRet_of hX pl_X9_needNoLeasts (LE1 rfl) fun V hV => rg_X9_needNoLeasts_0 hV I i hC.1 ⟨_, nt_hasLeast hX (d + 6) hC, ?_⟩
  rintro _ J ⟨rfl, rfl⟩
  exact ⟨fun z => ⟨rfl, by simpa using z⟩, fun z => ⟨rfl, rfl, by simpa using z⟩⟩
theorem noL_0 {lo : Nat → Int} (h : noL G lo = true) : ∀ e, e < G.m → lo e = 0 := fun e he => by
  have h := of_decide_eq_true h
  rcases ff_cases (fun e => decide (lo e ≠ 0)) G.m with ⟨-, q⟩ | ⟨x, -, q, -⟩
  · have := of_decide_eq_false (q e he)
    omega
  · rw [q] at h; omega
theorem st_goRounds (hX : xBase X) (d : Nat) (hC : CG I c i G) (hN : NB I i G.m) (hlo : ∀ e, e < G.m → I (i + 3, 3) e = 0) (hs : s < G.n) (ht : t < G.n) (hst : s ≠ t) {r : Int} (hr : xin r) : xRet rI X m_X6_goRounds (d + 4) [xr (0, 2), xr (i + 3, 0), xi (s : Int), xi (t : Int), xi r] c I 0 0 (fun v I9 => kp ((0, 2) :: flP) I I9 ∧ v = (goneTo (MC G (I (i + 3, 4)) s t) r : Int) ∧ I9 (0, 2) 5 = AC G (I (i + 3, 4)) s t (goneTo (MC G (I (i + 3, 4)) s t) r) ∧ (0 ≤ r → r < (MC G (I (i + 3, 4)) s t : Int) → I9 (0, 2) 4 = aC G (I (i + 3, 4)) (FC G (I (i + 3, 4)) s t (Int.toNat r)) s t ∧ I9 (0, 3) 13 = (kC G (I (i + 3, 4)) (FC G (I (i + 3, 4)) s t (Int.toNat r)) s t : Int) ∧ ∀ x, x < kC G (I (i + 3, 4)) (FC G (I (i + 3, 4)) s t (Int.toNat r)) s t → I9 (0, 14) x = (wC G (I (i + 3, 4)) (FC G (I (i + 3, 4)) s t (Int.toNat r)) s t x : Int))) xNo := by
  obtain ⟨hi, hn, hm, hG, hE⟩ := id hC
  have hn8 := hG.2.1
  have hm16 := hG.2.2.1
  have hb : ∀ e, e < G.m → 0 ≤ I (i + 3, 4) e ∧ I (i + 3, 4) e ≤ 99 := fun e he => by have := hN e he; omega
  generalize hh : I (i + 3, 4) = hi9 at hb
  obtain ⟨M1, M2, M3⟩ := MC_ok hG hs ht hst hb
  refine xRet_of hX pl_X6_goRounds (LE1 rfl) fun V hV => rg_X6_goRounds_0 hV I i hi _ _ _ ?_
  rw [hn]
  refine ⟨_, fl_startK hX (d + 3) (n := G.n) (by omega) G.u G.v (I (i + 3, 3)) hi9 (I (i + 3, 5)), ?_⟩
  rintro _ J1 ⟨k1, f1, h1⟩
  have hn1 : ∀ j, J1 (i + 3, j) = I (i + 3, j) := fun j => k1 _ (by simp)
  refine ⟨_, st_addEdges hX d (hC.eq hn1) (hN.eq hn1) (Nat.le_refl _) f1, ?_⟩
  rintro _ J2 ⟨k2, f2, h2⟩
  rw [hn1, hn1, hn1, hh] at h2
  rintro J3 e3
  have k3 : kp ((0, 2) :: flP) I J3 := by
    rw [e3]
    exact ((k1.mo (by simp [flP])).tr (k2.q.mo (by simp [flP]))).xu (by simp)
  have q3 : J3 (0, 2) 5 = 0 := by rw [e3, xu_same]
  have r3 : ∀ j, J3 (0, j + 3) = J2 (0, j + 3) := fun j => by rw [e3, xu_p (by simp)]
  have f3 : FR J3 G := by unfold FR; rw [r3 0, r3 1, r3 2]; exact f2
  have z3 : ∀ e, e < G.m → J3 (0, 9) e = 0 ∧ J3 (0, 10) e = hi9 e ∧ J3 (0, 11) e = 0 := fun e he => by
    obtain ⟨-, -, -, g4, g5, g6⟩ := h2 e he
    rw [r3 6, r3 7, r3 8, g4, g5, g6, hlo e he]
    exact ⟨rfl, rfl, rfl⟩
  clear e3 r3
  refine up_to0 (m := 1601) (W := fun j => ∀ J, kp ((0, 2) :: flP) I J → FR J G → (∀ e, e < G.m → J (0, 9) e = 0 ∧ J (0, 10) e = hi9 e ∧ J (0, 11) e = FC G hi9 s t j e) → J (0, 2) 5 = AC G hi9 s t j → (∀ i, i < j → kC G hi9 (FC G hi9 s t i) s t ≠ 0) → ¬ (0 ≤ r ∧ r < (j : Int)) → V 27 [(0, xr (0, 2)), (2, xi (s : Int)), (3, xi (t : Int)), (4, xi r), (5, xi (j : Int)), (6, xi (j : Int))] [] (J, xst c) 0 0) ?_ ?_ J3 k3 f3 z3 q3 (fun i hi => absurd hi (Nat.not_lt_zero i)) (by omega)
  · intro J _ _ _ _ hnz _
    have a1 := AC_ge hG hs hst hnz
    have a2 := AC_bd hG hs ht hst hb 1601
    omega
  · intro j hj ih J kJ fJ zJ qJ hnz hask
    have b1 := FC_ok hG hs ht hst hb j
    have b2 := AC_bd hG hs ht hst hb j
    have b3 := AC_nn (hi := hi9) hG hs hst j
    have b4 := AC_bd hG hs ht hst hb (j + 1)
    have b5 := AC_nn (hi := hi9) hG hs hst (j + 1)
    have hA1 : AC G hi9 s t (j + 1) = AC G hi9 s t j + aC G hi9 (FC G hi9 s t j) s t := rfl
    have hFB : FBd J G.m := fun e he => by
      have := zJ e he
      have := b1.1 e he
      have := hb e he
      omega
    refine rg_X6_goRounds_27 hV J _ _ _ _ _ ⟨⟨by omega, by omega⟩, fun h => by omega, fun _ => ⟨_, fl_send hX (d + 2) fJ hFB hs ht hst (lim := 1000000) (by decide) (by decide), ?_⟩⟩
    rintro v K ⟨kk, ⟨rfl, -, hsh⟩ | ⟨k, L, w, p, hk16, hw, hv, hv0, h11, h13, h14⟩⟩
    · have h0 : kC G hi9 (FC G hi9 s t j) s t = 0 := by
        refine kC_shut hG hs hst ?_
        obtain ⟨T, t1, t2, t3⟩ := hsh
        exact ⟨T, t1, t2, fun x y hr => t3 x y (RS_cong (fun e he => (zJ e he).1.symm) (fun e he => (zJ e he).2.1.symm) (fun e he => (zJ e he).2.2.symm) hr)⟩
      have hMj := MC_at hG hs ht hst hb hnz h0
      refine ⟨⟨by decide, by decide⟩, ?_⟩
      rintro K2 e2
      have q4 : K2 (0, 2) 4 = 0 := by rw [e2, xu_same]
      rw [q4]
      refine ⟨fun h => absurd h (by decide), fun _ => ?_⟩
      have hg : goneTo (MC G hi9 s t) r = j := by unfold goneTo; rw [hMj, if_neg hask]
      rw [hg]
      refine ⟨?_, rfl, ?_, fun r0 r1 => ?_⟩
      · rw [e2]; exact (kJ.tr (kk.q.mo (by simp [flP]))).xu (by simp)
      · rw [e2, xu_k (by decide), kk.1 _ (by decide), qJ]
      · rw [hMj] at r1; exact absurd ⟨r0, r1⟩ hask
    · have hw9 : Way G (fun _ => 0) hi9 (FC G hi9 s t j) s t k L w p := Way_cong (fun e he => (zJ e he).1) (fun e he => (zJ e he).2.1) (fun e he => (zJ e he).2.2) hw
      obtain ⟨w1, w2, w3, w4⟩ := kC_way hG hs hst hw9 (by omega)
      have hwm : ∀ i, i < k → eg (w i) < G.m ∧ w i < 64 := fun i hi => ⟨(hw.2.2.2.2 i hi).2.2.1, (hw.2.2.2.2 i hi).2.1⟩
      have hva : v = aC G hi9 (FC G hi9 s t j) s t := by
        rw [hv, w3]
        exact mw_cong fun i hi => rsp_cong (m := G.m) (fun e he => (zJ e he).1) (fun e he => (zJ e he).2.1) (fun e he => (zJ e he).2.2) (hwm i hi).1
      have h0 : kC G hi9 (FC G hi9 s t j) s t ≠ 0 := by rw [w1]; have := hw.pos hst; omega
      have hF1 : ∀ e, e < G.m → K (0, 11) e = FC G hi9 s t (j + 1) e := fun e he => by
        show _ = nC G hi9 (FC G hi9 s t j) s t e
        rw [h11, w4, ← w3, ← hva]
        exact ap_cong (m := G.m) (fun e he => (zJ e he).2.2) (fun i hi => (hwm i hi).1) e he
      have q5 : K (0, 2) 5 = AC G hi9 s t j := by rw [kk.1 _ (by decide)]; exact qJ
      refine ⟨⟨by omega, by omega⟩, ?_⟩
      rintro K2 e2
      have q4 : K2 (0, 2) 4 = v := by rw [e2, xu_same]
      have q5 : K2 (0, 2) 5 = AC G hi9 s t j := by rw [e2, xu_k (by decide)]; exact q5
      rw [q4, q5]
      refine ⟨fun _ => ⟨⟨by omega, by omega⟩, ?_⟩, fun h => by omega⟩
      rintro K3 e4
      have kK : kp ((0, 2) :: flP) I K3 := by
        rw [e4, e2]; exact ((kJ.tr (kk.q.mo (by simp [flP]))).xu (by simp)).xu (by simp)
      have r4 : ∀ j, K3 (0, j + 3) = K (0, j + 3) := fun j => by rw [e4, xu_p (by simp), e2, xu_p (by simp)]
      have s5 : K3 (0, 2) 5 = AC G hi9 s t (j + 1) := by rw [e4, xu_same, hA1, hva]
      have s4 : K3 (0, 2) 4 = v := by rw [e4, xu_k (by decide)]; exact q4
      have fK : FR K3 G := by
        have := kk.fr fJ
        unfold FR at this ⊢
        rw [r4 0, r4 1, r4 2]; exact this
      have hnz9 : ∀ i, i < j + 1 → kC G hi9 (FC G hi9 s t i) s t ≠ 0 := fun i hi => by
        by_cases hij : i = j
        · rw [hij]; exact h0
        · exact hnz i (by omega)
      have zK : ∀ e, e < G.m → K3 (0, 9) e = 0 ∧ K3 (0, 10) e = hi9 e ∧ K3 (0, 11) e = FC G hi9 s t (j + 1) e := fun e he => by
        rw [r4 6, r4 7, r4 8]
        exact ⟨by rw [kk.1 (0, 9) (by decide)]; exact (zJ e he).1, by rw [kk.1 (0, 10) (by decide)]; exact (zJ e he).2.1, hF1 e he⟩
      clear e4 e2
      refine ⟨⟨by omega, by omega⟩, hr, fun hne => ?_, fun heq => ?_⟩
      · exact ih K3 kK fK zK s5 hnz9 (by omega)
      · have hlt : j < MC G hi9 s t := by
          refine Classical.byContradiction fun hge => ?_
          exact hnz9 _ (by omega) M2
        have hg : goneTo (MC G hi9 s t) r = j + 1 := by unfold goneTo; rw [if_pos (by omega)]; omega
        have hrj : Int.toNat r = j := by omega
        rw [hg, hrj]
        refine ⟨kK, rfl, s5, fun _ _ => ⟨by rw [s4, hva], ?_, fun x hx => ?_⟩⟩
        · rw [r4 0, h13, w1]
        · rw [w1] at hx
          rw [r4 11, h14 x hx, w2 x hx]
end CRD
section CRE
variable {X : xX} {c : xCx} {I : xIn} {T : NT} {a s t r x : Int}
theorem wrongRT_0 {T : NT} {a s t : Int} (h : wrongT T a s t = 0) : wrongRT T a s t = if noL (T.G (Int.toNat a)) (T.lo (Int.toNat a)) then 0 else 3 := by unfold wrongRT; rw [if_neg (by omega)]
theorem noL_cong {G : Gr} {lo lo9 : Nat → Int} (h : ∀ e, e < G.m → lo e = lo9 e) : noL G lo = noL G lo9 := by
  unfold noL
  rw [ff_cong fun e he => by rw [h e he]]
theorem MC_cong {G : Gr} (hG : GrOK G) {hi hi9 : Nat → Int} {s t : Nat} (hs : s < G.n) (ht : t < G.n) (hst : s ≠ t) (hb : ∀ e, e < G.m → 0 ≤ hi e ∧ hi e ≤ 99) (h : ∀ e, e < G.m → hi e = hi9 e) : ∀ j, (∀ i, i < j → kC G hi (FC G hi s t i) s t ≠ 0) → (∀ e, e < G.m → FC G hi s t j e = FC G hi9 s t j e) ∧ AC G hi s t j = AC G hi9 s t j ∧ ∀ i, i < j → kC G hi9 (FC G hi9 s t i) s t ≠ 0 := by
  intro j
  induction j with
  | zero => exact fun _ => ⟨fun _ _ => rfl, rfl, fun i hi => absurd hi (Nat.not_lt_zero i)⟩
  | succ j ih =>
    intro hnz
    obtain ⟨i1, i2, i3⟩ := ih fun i hi => hnz i (by omega)
    have hk := hnz j (by omega)
    obtain ⟨hw, hkn⟩ := wayC hG hs hst hk
    have hn := hG.2.1
    have hw9 := Way_cong (lo9 := fun _ => 0) (hi9 := hi9) (f9 := FC G hi9 s t j) (fun _ _ => rfl) h i1 hw
    obtain ⟨w1, w2, w3, w4⟩ := kC_way hG hs hst hw9 (by omega)
    have hr : ∀ i, i < kC G hi (FC G hi s t j) s t → rsp (fun _ => 0) hi (FC G hi s t j) (wC G hi (FC G hi s t j) s t i) = rsp (fun _ => 0) hi9 (FC G hi9 s t j) (wC G hi (FC G hi s t j) s t i) := fun i hi => rsp_cong (m := G.m) (fun _ _ => rfl) h i1 (hw.2.2.2.2 i hi).2.2.1
    have ha : aC G hi (FC G hi s t j) s t = aC G hi9 (FC G hi9 s t j) s t := by
      rw [w3]
      show (if kC G hi (FC G hi s t j) s t = 0 then 0 else mw 1000000 (fun i => rsp (fun _ => 0) hi (FC G hi s t j) (wC G hi (FC G hi s t j) s t i)) (kC G hi (FC G hi s t j) s t)) = _
      rw [if_neg hk]
      exact mw_cong hr
    refine ⟨fun e he => ?_, ?_, fun i hi => ?_⟩
    · show nC G hi (FC G hi s t j) s t e = nC G hi9 (FC G hi9 s t j) s t e
      rw [w4, ← w3, ← ha]
      exact ap_cong (m := G.m) i1 (fun i hi => (hw.2.2.2.2 i hi).2.2.1) e he
    · show AC G hi s t j + aC G hi (FC G hi s t j) s t = AC G hi9 s t j + aC G hi9 (FC G hi9 s t j) s t
      rw [i2, ha]
    · by_cases hij : i = j
      · rw [hij, w1]; exact hk
      · exact i3 i (by omega)
theorem RC_cong {G : Gr} (hG : GrOK G) {hi hi9 : Nat → Int} {s t : Nat} (hs : s < G.n) (ht : t < G.n) (hst : s ≠ t) (hb : ∀ e, e < G.m → 0 ≤ hi e ∧ hi e ≤ 99) (h : ∀ e, e < G.m → hi e = hi9 e) : MC G hi s t = MC G hi9 s t ∧ ∀ j, j < MC G hi s t → kC G hi (FC G hi s t j) s t = kC G hi9 (FC G hi9 s t j) s t ∧ aC G hi (FC G hi s t j) s t = aC G hi9 (FC G hi9 s t j) s t ∧ ∀ x, x < kC G hi (FC G hi s t j) s t → wC G hi (FC G hi s t j) s t x = wC G hi9 (FC G hi9 s t j) s t x := by
  have hb9 : ∀ e, e < G.m → 0 ≤ hi9 e ∧ hi9 e ≤ 99 := fun e he => by rw [← h e he]; exact hb e he
  obtain ⟨m1, m2, m3⟩ := MC_ok hG hs ht hst hb
  obtain ⟨n1, n2, n3⟩ := MC_ok hG hs ht hst hb9
  have hn := hG.2.1
  have c1 := MC_cong hG hs ht hst hb h (MC G hi s t) m3
  have hle : ∀ (A B : Nat → Int), (∀ e, e < G.m → A e = B e) → (∀ e, e < G.m → 0 ≤ A e ∧ A e ≤ 99) → kC G A (FC G A s t (MC G A s t)) s t = 0 → (∀ i, i < MC G A s t → kC G A (FC G A s t i) s t ≠ 0) → kC G B (FC G B s t (MC G A s t)) s t = 0 := fun A B hAB hA z1 z2 => by
    refine Classical.byContradiction fun hne => ?_
    obtain ⟨q1, -, -⟩ := MC_cong hG hs ht hst hA hAB (MC G A s t) z2
    obtain ⟨hw, hkn⟩ := wayC hG hs hst hne
    have hw9 := Way_cong (lo9 := fun _ => 0) (hi9 := A) (f9 := FC G A s t (MC G A s t)) (fun _ _ => rfl) (fun e he => (hAB e he).symm) (fun e he => (q1 e he).symm) hw
    have := (kC_way hG hs hst hw9 (by omega)).1
    rw [z1] at this
    exact hne this.symm
  have hM : MC G hi9 s t = MC G hi s t := MC_at hG hs ht hst hb9 c1.2.2 (hle hi hi9 h hb m2 m3)
  refine ⟨hM.symm, fun j hj => ?_⟩
  obtain ⟨i1, -, -⟩ := MC_cong hG hs ht hst hb h j fun i hi => m3 i (by omega)
  have hk := m3 j hj
  obtain ⟨hw, hkn⟩ := wayC hG hs hst hk
  have hw9 := Way_cong (lo9 := fun _ => 0) (hi9 := hi9) (f9 := FC G hi9 s t j) (fun _ _ => rfl) h i1 hw
  obtain ⟨w1, w2, w3, w4⟩ := kC_way hG hs hst hw9 (by omega)
  refine ⟨w1.symm, ?_, fun x hx => w2 x hx⟩
  rw [w3]
  show (if kC G hi (FC G hi s t j) s t = 0 then 0 else mw 1000000 (fun i => rsp (fun _ => 0) hi (FC G hi s t j) (wC G hi (FC G hi s t j) s t i)) (kC G hi (FC G hi s t j) s t)) = _
  rw [if_neg hk]
  exact mw_cong fun i hi => rsp_cong (m := G.m) (fun _ _ => rfl) h i1 (hw.2.2.2.2 i hi).2.2.1
theorem NTok.hb {T : NT} (hT : NTok T) {i : Nat} (hi : i < T.N) : ∀ e, e < (T.G i).m → 0 ≤ T.hi i e ∧ T.hi i e ≤ 99 := fun e he => by
  have := ((hT.2 i hi).2.1 e he).1
  omega
theorem CI.hb {T : NT} {I : xIn} {c : xCx} (hI : CI I c T) (hT : NTok T) {i : Nat} (hi : i < T.N) : ∀ e, e < (T.G i).m → 0 ≤ I (i + 3, 4) e ∧ I (i + 3, 4) e ≤ 99 := fun e he => by
  rw [hI.hi hi e he]; exact hT.hb hi e he
theorem cn_rounds (hX : xBase X) (d : Nat) (hT : NTok T) (hI : CI I c T) (ha : xin a) (hs : xin s) (ht : xin t) : xRet rI X m_X9_rounds (d + 8) [xr (0, 0), xi a, xi s, xi t] c I 3 18 (fun v I9 => keepC I I9 ∧ (v, 0) = roundsA T a s t) (fun x I9 => keepC I I9 ∧ exL [xIOB, xIAE, xUOE] x (roundsA T a s t).2) := by
  have hwc := wrong_c T a s t
  refine xRet_of hX pl_X9_rounds (LE1 rfl) fun V hV => rg_X9_rounds_0 hV I _ _ _ (go_ends hX d hT hI ha hs ht (fun x hx hw => ⟨keepC.id9, by unfold roundsA wrongRT; rw [if_pos hw, wE_p hw]; exact hx.l (by omega)⟩) ?_)
  rintro i s t rfl rfl rfl hi hC hs9 ht9 hst hw
  have hnl := noL_cong (hI.lo hi)
  have hw2 := wrongRT_0 hw
  rw [tnN] at hw2
  refine ⟨_, _, cn_needNoLeasts hX d hC, ?_, ?_⟩
  · rintro x J ⟨rfl, rfl, hf⟩
    refine ⟨keepC.id9, ?_⟩
    rw [← hnl, hf, if_neg (by decide)] at hw2
    unfold roundsA
    rw [hw2, wE_p (by decide)]
    exact ⟨2, rfl, rfl⟩
  rintro _ J ⟨rfl, hf⟩
  rw [← hnl, hf, if_pos rfl] at hw2
  refine ⟨_, st_goRounds hX (d + 3) hC (hI.nb hT hi) (noL_0 hf) hs9 ht9 hst (r := -1) ⟨by decide, by decide⟩, ?_⟩
  rintro v K ⟨k1, rfl, -, -⟩
  refine ⟨kp.C k1 (by decide), ?_⟩
  unfold roundsA goneTo
  rw [hw2, wE_0 rfl, if_neg (by omega), tnN, tnN, tnN, (RC_cong hC.2.2.2.1 hs9 ht9 hst (hI.hb hT hi) (hI.hi hi)).1]
theorem cn_needRound (hX : xBase X) (d : Nat) {i s t : Nat} {G : Gr} (hC : CG I c i G) (hN : NB I i G.m) (hlo : ∀ e, e < G.m → I (i + 3, 3) e = 0) (hs : s < G.n) (ht : t < G.n) (hst : s ≠ t) (hr : xin r) : xRet rU X m_X9_needRound (d + 10) [xr (0, 0), xr (i + 3, 0), xi (s : Int), xi (t : Int), xi r] c I 1 6 (fun _ I9 => kp ((0, 2) :: flP) I I9 ∧ (0 ≤ r ∧ r < (MC G (I (i + 3, 4)) s t : Int)) ∧ I9 (0, 2) 4 = aC G (I (i + 3, 4)) (FC G (I (i + 3, 4)) s t (Int.toNat r)) s t ∧ I9 (0, 3) 13 = (kC G (I (i + 3, 4)) (FC G (I (i + 3, 4)) s t (Int.toNat r)) s t : Int) ∧ ∀ x, x < kC G (I (i + 3, 4)) (FC G (I (i + 3, 4)) s t (Int.toNat r)) s t → I9 (0, 14) x = (wC G (I (i + 3, 4)) (FC G (I (i + 3, 4)) s t (Int.toNat r)) s t x : Int)) (fun e I9 => e = xNSE ∧ kp ((0, 2) :: flP) I I9 ∧ ¬ (0 ≤ r ∧ r < (MC G (I (i + 3, 4)) s t : Int))) := by
  have M1 := (MC_ok hC.2.2.2.1 hs ht hst (hi := I (i + 3, 4)) (fun e he => by have := hN e he; omega)).1
  refine xRet_of hX pl_X9_needRound (LE1 rfl) fun V hV => rg_X9_needRound_0 hV I i hC.1 _ _ _ ⟨hr, fun h => ⟨rfl, kp.rfl, by omega⟩, fun h => ⟨_, st_goRounds hX (d + 5) hC hN hlo hs ht hst hr, ?_⟩⟩
  rintro v J ⟨k1, rfl, -, k3⟩
  unfold goneTo
  by_cases hc : 0 ≤ r ∧ r < (MC G (I (i + 3, 4)) s t : Int)
  · rw [if_pos hc]
    have k4 := k3 hc.1 hc.2
    exact ⟨⟨by omega, by omega⟩, fun _ => ⟨k1, hc, k4⟩, fun h9 => by omega⟩
  · rw [if_neg hc]
    exact ⟨⟨by omega, by omega⟩, fun h9 => by omega, fun h9 => ⟨rfl, k1, hc⟩⟩
theorem cn_roundAmount (hX : xBase X) (d : Nat) (hT : NTok T) (hI : CI I c T) (ha : xin a) (hs : xin s) (ht : xin t) (hr : xin r) : xRet rI X m_X9_roundAmount (d + 11) [xr (0, 0), xi a, xi s, xi t, xi r] c I 4 24 (fun v I9 => keepC I I9 ∧ (v, 0) = roundAmountA T a s t r) (fun x I9 => keepC I I9 ∧ exL [xIOB, xIAE, xUOE, xNSE] x (roundAmountA T a s t r).2) := by
  have hwc := wrong_c T a s t
  refine xRet_of hX pl_X9_roundAmount (LE1 rfl) fun V hV => rg_X9_roundAmount_0 hV I _ _ _ _ (go_ends hX (d + 3) hT hI ha hs ht (fun x hx hw => ⟨keepC.id9, by unfold roundAmountA wrongRT; rw [if_pos hw, wE_p hw]; exact hx.l (by omega)⟩) ?_)
  rintro i s t rfl rfl rfl hi hC hs9 ht9 hst hw
  have hnl := noL_cong (hI.lo hi)
  have hw2 := wrongRT_0 hw
  rw [tnN] at hw2
  refine ⟨_, _, cn_needNoLeasts hX (d + 3) hC, ?_, ?_⟩
  · rintro x J ⟨rfl, rfl, hf⟩
    refine ⟨keepC.id9, ?_⟩
    rw [← hnl, hf, if_neg (by decide)] at hw2
    unfold roundAmountA
    rw [hw2, wE_p (by decide)]
    exact ⟨2, rfl, rfl⟩
  rintro _ J ⟨rfl, hf⟩
  rw [← hnl, hf, if_pos rfl] at hw2
  have hA : roundAmountA T (i : Int) (s : Int) (t : Int) r = roundAmountG (T.G i) (T.hi i) s t r := by unfold roundAmountA; rw [hw2, wE_0 rfl, tnN, tnN, tnN]
  obtain ⟨c1, c2⟩ := RC_cong hC.2.2.2.1 hs9 ht9 hst (hI.hb hT hi) (hI.hi hi)
  refine ⟨_, _, cn_needRound hX d hC (hI.nb hT hi) (noL_0 hf) hs9 ht9 hst hr, ?_, ?_⟩
  · rintro x K ⟨rfl, k1, k2⟩
    refine ⟨kp.C k1 (by decide), ?_⟩
    rw [c1] at k2
    rw [hA]
    unfold roundAmountG
    rw [if_neg k2]
    exact ⟨3, rfl, rfl⟩
  rintro _ K ⟨k1, k2, k3, -, -⟩
  refine ⟨kp.C k1 (by decide), ?_⟩
  rw [hA, k3, (c2 (Int.toNat r) (by omega)).2.1]
  rw [c1] at k2
  unfold roundAmountG
  rw [if_pos k2]
end CRE
