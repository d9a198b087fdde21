/-! netOn from its first step -/
section NO
variable {X : xX} {c : xCx} {I : xIn} {b : Nat}
def T00 : NT := (0, fun _ => (0, 0, fun _ => 0, fun _ => 0), fun _ _ => 0, fun _ _ => 0, fun _ _ => 0, fun _ _ => 0)
theorem AL.net {c : xCx} {b j : Nat} {A9 : xP → Nat} (h : AL c b j) (h0 : c.1 = 0) : AL (c.1 + 1, c.2.1, c.2.2.1, A9) b j := by
  obtain ⟨⟨⟨h1, h2⟩, h3, h4⟩, h5⟩ := h
  exact ⟨⟨⟨by show c.1 + 1 ≤ 1; omega, h2⟩, by show c.1 + 1 ≤ 1; omega, h4⟩, h5⟩
theorem lc_netOn (hX : xBase X) (d : Nat) {z mi : Nat} (hz : DEs X z) (hm : va_Mi "[Ljava/lang/Object;" mi X.S) (hL : AL c b 0) (h0 : c.1 = 0) (hSC : SC X c) (hA8 : c.2.2.2 (2, 8) = z) (hA7 : c.2.2.2 (2, 7) = mi) (hfr : ∀ i, cFr c (er i)) (hfn : ∀ p k x, c.2.2.1 p k ≠ some (3, x)) (hCI : CI I c T00) (hs : I (2, 1) 2 = 0) (hs0 : I (2, 1) 0 = 0) (hat : I (2, 0) 1 = 0) : xMet X m_L_netOn (d + 9) [xr (2, 0)] (I, xst c) 200 2000 (fun o h9 => o = .inl none ∧ ∃ (c9 : xCx) (J : xIn) (T : NT) (m9 : Nat) (A : Int), h9 = (J, xst c9) ∧ (2 ≤ m9 ∧ m9 ≤ 11) ∧ A ≤ 100 ∧ NC X c9 b m9 z mi (c.2.2.2 (2, 0)) (c.2.2.2 (2, 9)) ∧ NI c9 J I T m9 A) := by
  refine xMet_of hX pl_L_netOn.1 (fun w hw => (pl_L_netOn.2.2.1 w hw).1) (LE1 rfl) fun V hV => ?_
  have hE := hV.eng
  have hNT : NTok T00 := ⟨Nat.zero_le _, fun i hi => absurd hi (Nat.not_lt_zero _)⟩
  have hcF : ∀ p k x, c.2.2.1 p k ≠ some (c.1 + 3, x) := fun p k x => by rw [h0]; exact hfn p k x
  refine rg_L_netOn_0 (mc := 200) (ms := 2000) hX hV hL.1 (by omega) (by omega) I ⟨_, lc_draw hX (d + 7) hL.1 hSC ⟨by omega, by omega⟩ ⟨by decide, by decide⟩, ?_⟩
  rintro v J1 ⟨hv, k1⟩
  refine ⟨⟨by omega, by omega⟩, fun J2 e2 => ?_⟩
  have h24 : J2 (2, 0) 4 = 2 + v := by rw [e2, xu_same]
  have hCI2 : CI J2 c T00 := by
    obtain ⟨q1, q2, -⟩ := hCI
    refine ⟨q1, ?_, fun i hi => absurd hi (Nat.not_lt_zero _)⟩
    rw [e2, xu_p (by decide), k1.1 _ (by decide)]
    exact q2
  refine x_callV (pc := 19) (as := [xi (J2 (2, 0) 4)]) (st := []) (q := (0, 0)) (lo := [(0, xr (2, 0))]) hE (cn_netNew hX (d + 1) hNT hCI2 rfl hL.1.1 hcF (a := J2 (2, 0) 4) (by omega)) dL_netOn_19 pl_X9_net lk_RL_59 rfl (lvm0 _ (by decide)) rfl rfl (Nat.le_refl _) (LE1 rfl) (LE1 rfl) (LE1 rfl) (fun E h9 hh => by cases hh.1) (fun r h9 hh => ?_)
  obtain ⟨hr, J3, A9, rfl, hCI3, hNT3, hJ3, hA9⟩ := hh
  cases hr
  refine ⟨⟨?_, rfl⟩, ?_⟩
  · show [(0, Value.ref (A9 (2, 0)))] = [(0, Value.ref (c.2.2.2 (2, 0)))]
    rw [hA9 _ (by decide)]
  have hL3 : AL (c.1 + 1, c.2.1, c.2.2.1, A9) b 0 := hL.net h0
  have hSC3 : SC X (c.1 + 1, c.2.1, c.2.2.1, A9) := by
    obtain ⟨bs, Ls, xs, g1, g2⟩ := hSC
    exact ⟨bs, Ls, xs, g1, by show A9 (2, 9) = bs; rw [hA9 _ (by decide)]; exact g2⟩
  have hNC : NC X (c.1 + 1, c.2.1, c.2.2.1, A9) b 0 z mi (c.2.2.2 (2, 0)) (c.2.2.2 (2, 9)) := ⟨hL3, by show c.1 + 1 = 1; omega, hSC3, ⟨by show A9 (2, 8) = z; rw [hA9 _ (by decide)]; exact hA8, by show A9 (2, 7) = mi; rw [hA9 _ (by decide)]; exact hA7, hA9 _ (by decide), hA9 _ (by decide)⟩, fun i _ => hfr i⟩
  have j2 : ∀ p : xP, p ≠ (2, 0) → J2 p = I p := fun p hp => by rw [e2, xu_p hp, k1.1 p hp]
  have hTn : ((T00.add (J2 (2, 0) 4).toNat).G 0).n = (J2 (2, 0) 4).toNat := rfl
  have hNI : NI (c.1 + 1, c.2.1, c.2.2.1, A9) J3 I (T00.add (J2 (2, 0) 4).toNat) 0 1 := by
    refine ⟨hNT3, hCI3, ⟨rfl, rfl, by rw [hTn]; omega, ?_, ?_, ?_, fun k hk => absurd hk (Nat.not_lt_zero _)⟩, ⟨?_, ?_, by decide⟩, fun i hi => ?_⟩
    · rw [hJ3 _ (by decide) (by decide), j2 _ (by decide)]; exact hs
    · rw [hJ3 _ (by decide) (by decide), j2 _ (by decide)]; exact hs0
    · rw [hJ3 _ (by decide) (by decide), hTn]; omega
    · rw [hJ3 _ (by decide) (by decide), e2, xu_k (by decide), k1.2.2, hat]; decide
    · rw [hJ3 _ (by decide) (by decide), e2, xu_k (by decide), k1.2.2, hat]; decide
    · rw [hJ3 _ (show (0 : Nat) < 3 by omega) (fun z => hi (congrArg Prod.snd z)), j2 _ (fun z => by cases congrArg Prod.fst z)]
  refine rg_L_netOn_22 (mc := 200) (ms := 2000) hX hV hL3.1 (by omega) (by omega) J3 _ ⟨_, nd_dr hX d hNC hNI (by decide) ⟨by decide, by decide⟩, ?_⟩
  rintro v3 J4 ⟨hv3, hI4⟩
  have s36 : ∀ bb : Bool, V 36 [(0, xr (2, 0))] [xi (xbi bb)] (J4, xst (c.1 + 1, c.2.1, c.2.2.1, A9)) (0 + 7) (0 + 96) := by
    intro bb
    refine rg_L_netOn_36 (mc := 200) (ms := 2000) hX hV hL3.1 (by omega) (by omega) J4 _ ⟨_, nd_dr hX d hNC hI4 (by decide) ⟨by decide, by decide⟩, ?_⟩
    rintro v5 J5 ⟨hv5, hI5⟩
    have e9 : 2 + v5 = ((2 + v5.toNat : Nat) : Int) := by omega
    rw [e9]
    exact no_loop hX hV hz hm bb (2 + v5.toNat) (by omega) (fun c9 J T A hA hC hI => ⟨rfl, c9, J, T, _, A, rfl, by omega, hA, hC, hI⟩) (2 + v5.toNat) _ J5 _ _ _ _ 0 (by omega) (by decide) (by decide) (by decide) hNC hI5
  exact ⟨⟨by omega, by omega⟩, fun _ => s36 false, fun _ => s36 true⟩
end NO
