/-! netOn -/
section NO
variable {X : xX} {I0 : xIn} {b : Nat}
theorem no_loop (hX : xBase X) {d : Nat} {V : xT} {post : xO → xS → Prop} (hV : xEnd X m_L_netOn (d + 9) 200 2000 post V) {z mi a0 a9 : Nat} (hz : DEs X z) (hm : va_Mi "[Ljava/lang/Object;" mi X.S) (l1 : Bool) (m9 : Nat) (hm9 : 2 ≤ m9 ∧ m9 ≤ 11) (hp : ∀ (c : xCx) (I : xIn) (T : NT) (A : Int), A ≤ 100 → NC X c b m9 z mi a0 a9 → NI c I I0 T m9 A → post (.inl none) (I, xst c)) :
    ∀ r : Nat, ∀ (c : xCx) (I : xIn) (T : NT) (A : Int) (k n j : Nat), j + r = m9 → A ≤ 10 + 7 * (j : Int) → k ≤ 7 + 6 * j → n ≤ 96 + 55 * j → NC X c b j z mi a0 a9 → NI c I I0 T j A → V 46 [(0, xr (2, 0)), (1, xi (xbi l1)), (2, xi (r : Int))] [] (I, xst c) k n := by
  intro r
  induction r with
  | zero =>
    intro c I T A k n j h1 h2 h3 h4 hC hI
    have : j = m9 := by omega
    subst this
    exact rg_L_netOn_46 (mc := 200) (ms := 2000) hX hV hC.1.1 (by omega) (by omega) I _ _ ⟨⟨by decide, by decide⟩, fun _ => hp c I T A (by omega) hC hI, fun z => by omega⟩
  | succ r ih =>
    intro c I T A k n j h1 h2 h3 h4 hC hI
    have hE0 := hI.2.2.1
    have hn4 : ∀ {J : xIn} {B : Int}, NI c J I0 T j B → J (2, 0) 4 = ((T.G 0).n : Int) := fun h => h.2.2.1.2.2.2.2.2.1
    have hn6 := hE0.2.2.1
    refine rg_L_netOn_46 (mc := 200) (ms := 2000) hX hV hC.1.1 (by omega) (by omega) I _ _ ⟨⟨by omega, by omega⟩, fun z => by omega, fun _ => ⟨_, nd_dr hX d hC hI (by omega) (by rw [hn4 hI]; omega), ?_⟩⟩
    rintro v4 J1 ⟨hv4, hI1⟩
    rw [hn4 hI] at hv4
    refine ⟨_, nd_dr hX d hC hI1 (by omega) (by rw [hn4 hI1]; omega), ?_⟩
    rintro v9 J2 ⟨hv9, hI2⟩
    rw [hn4 hI1] at hv9
    rw [hn4 hI2]
    refine ⟨⟨by omega, by omega⟩, ⟨by omega, by omega⟩, fun x12 hx12 => ?_⟩
    obtain ⟨s, t, rfl, ht, hs, htn, hst⟩ := ends2 hv4 hv9
    rw [ht] at hx12
    subst hx12
    have s124 : ∀ (J : xIn) (B hi lo : Int), B ≤ A + 6 → NI c J I0 T j B → 0 ≤ lo ∧ lo ≤ hi → hi ≤ 8 → V 124 [(0, xr (2, 0)), (1, xi (xbi l1)), (2, xi ((r + 1 : Nat) : Int)), (3, xi (s : Int)), (4, xi (t : Int)), (5, xi hi)] [xi lo] (J, xst c) k n := by
      intro J B hi lo hB hJ hlo hhi
      refine rg_L_netOn_124 (mc := 200) (ms := 2000) hX hV hC.1.1 (by omega) (by omega) J _ _ _ _ _ _ j (hC.2.2.2.2 j (Nat.le_refl _)) ⟨_, nd_dr hX d hC hJ (by omega) ⟨by decide, by decide⟩, ?_⟩
      rintro v3 K1 ⟨hv3, hK1⟩
      refine ⟨_, nw_edge hX d hK1 (by omega) hs htn hst hlo (by omega) (co := v3 - 3) (by omega), ?_⟩
      rintro w K2 ⟨kk, hCI, hNT⟩
      refine ⟨⟨by decide, by decide⟩, fun ad I12 e12 => ⟨⟨by decide, by decide⟩, ⟨by omega, by omega⟩, fun I14 e14 => ⟨⟨by decide, by decide⟩, ⟨by omega, by omega⟩, fun I16 e16 => ⟨⟨by decide, by decide⟩, ⟨by omega, by omega⟩, fun I18 e18 => ⟨⟨by decide, by decide⟩, ⟨by omega, by omega⟩, fun I20 e20 => ⟨⟨by decide, by decide⟩, ⟨by omega, by omega⟩, fun I22 e22 => ?_⟩⟩⟩⟩⟩⟩
      have o22 : ∀ p, p ≠ er j → I22 p = K2 p := fun p hp => by rw [e22, xu_p hp, e20, xu_p hp, e18, xu_p hp, e16, xu_p hp, e14, xu_p hp, e12, zI_n hp]
      have r0 : I22 (er j) 0 = (s : Int) := by rw [e22, xu_k (by decide), e20, xu_k (by decide), e18, xu_k (by decide), e16, xu_k (by decide), e14, xu_same]
      have r1 : I22 (er j) 1 = (t : Int) := by rw [e22, xu_k (by decide), e20, xu_k (by decide), e18, xu_k (by decide), e16, xu_same]
      have r2 : I22 (er j) 2 = lo := by rw [e22, xu_k (by decide), e20, xu_k (by decide), e18, xu_same]
      have r3 : I22 (er j) 3 = hi := by rw [e22, xu_k (by decide), e20, xu_same]
      have r4 : I22 (er j) 4 = v3 - 3 := by rw [e22, xu_same]
      clear e12 e14 e16 e18 e20 e22
      obtain ⟨hAL, hc1, hSC, ⟨hA8, hA7, hA0, hA99⟩, hfr⟩ := hC
      have hfj := hfr j (Nat.le_refl _)
      have hAL1 : AL (cAd c (er j) ad) b j := hAL.ad hfj (by omega)
      obtain ⟨-, -, ⟨e1, e2, e3, e4, e5, e6, e7⟩, hAt, h0⟩ := hK1
      have q2 : ∀ i, I22 (2, i) = K1 (2, i) := fun i => by rw [o22 _ (fun z => er_ne _ _ z.symm)]; exact kk _ (show (2 : Nat) < 3 by omega)
      have hE := hV.eng
      refine x_callV (pc := 185) (as := [xr (er j)]) (st := []) (q := (2, 1)) hE (j_addAL hX (d + 2) (z := z) (mi := mi) hz ?_ hm ?_ hAL1 (by omega) (List.mem_append_right _ (List.mem_singleton.mpr rfl)) ?_ ?_) dL_netOn_185 pl_Jx4a65c_add_9ea2d lk_RL_66 rfl hAL1.1.m1 rfl rfl (Nat.le_refl _) (by omega) (by omega) (LE1 rfl) (fun E h9 hh => by cases hh.1) (fun r9 h9 hh => ?_)
      · show (if (2, 8) = er j then ad else c.2.2.2 (2, 8)) = z
        rw [if_neg (fun z => er_ne _ _ z.symm)]
        exact hA8
      · show (if (2, 7) = er j then ad else c.2.2.2 (2, 7)) = mi
        rw [if_neg (fun z => er_ne _ _ z.symm)]
        exact hA7
      · rw [q2]; exact e4
      · rw [q2, e5]; omega
      obtain ⟨hr9, J, c9, rfl, hAL9, hc9, hf1, hf2, hmm, hJo, hJ2, hJ0, hA9⟩ := hh
      cases hr9
      have a09 : c9.2.2.2 (2, 0) = c.2.2.2 (2, 0) := by
        rw [hA9 _ (by decide) (by decide)]
        show (if (2, 0) = er j then ad else c.2.2.2 (2, 0)) = _
        rw [if_neg (fun z => er_ne _ _ z.symm)]
      have aL : ∀ i, i ≠ 3 → i ≠ 4 → c9.2.2.2 (2, i) = c.2.2.2 (2, i) := fun i i3 i4 => by
        rw [hA9 _ (fun z => i3 (congrArg Prod.snd z)) (fun z => i4 (congrArg Prod.snd z))]
        show (if (2, i) = er j then ad else c.2.2.2 (2, i)) = _
        rw [if_neg (fun z => er_ne _ _ z.symm)]
      refine ⟨⟨?_, rfl⟩, ?_⟩
      · show [(0, Value.ref (c9.2.2.2 (2, 0))), (1, _), (2, _)] = [(0, Value.ref ((cAd c (er j) ad).2.2.2 (2, 0))), (1, _), (2, _)]
        rw [aL 0 (by decide) (by decide)]
        show _ = [(0, Value.ref (if (2, 0) = er j then ad else c.2.2.2 (2, 0))), (1, _), (2, _)]
        rw [if_neg (fun z => er_ne _ _ z.symm)]
        rfl
      refine rg_L_netOn_188 (mc := 200) (ms := 2000) hX hV hAL9.1 (by omega) (by omega) J _ _ _ ?_
      have er1 : ((r + 1 : Nat) : Int) + (-1) = (r : Int) := by omega
      rw [er1]
      have Jp : ∀ p : xP, p.1 ≠ 2 → J p = I22 p := fun p hp => hJo p (fun z => hp (by rw [z])) (fun z => hp (by rw [z])) (fun z => hp (by rw [z]))
      have hNC : NC X c9 b (j + 1) z mi a0 a9 := by
        refine ⟨hAL9, by rw [hc9]; exact hc1, ?_, ⟨by rw [aL 8 (by decide) (by decide)]; exact hA8, by rw [aL 7 (by decide) (by decide)]; exact hA7, by rw [aL 0 (by decide) (by decide)]; exact hA0, by rw [aL 9 (by decide) (by decide)]; exact hA99⟩, fun i hi => hf2 i (by omega) ((hfr i (by omega)).ad (er_inj (by omega)))⟩
        obtain ⟨bs, Ls, xs, g1, g2⟩ := hSC
        exact ⟨bs, Ls, xs, g1, by rw [aL 9 (by decide) (by decide)]; exact g2⟩
      have hNI : NI c9 J I0 (edT T s t lo hi (v3 - 3)) (j + 1) (B + 1) := by
        refine ⟨hNT, ?_, ⟨e1, ?_, e3, hJ2, ?_, ?_, fun k hk => ?_⟩, ?_, fun i hi => ?_⟩
        · have hg : ∀ p : xP, p.1 ≠ 1 → p.1 ≠ 2 → J p = K2 p := fun p p1 p2 => by rw [Jp p p2, o22 p (fun z => p1 (by rw [z]; rfl))]
          have r : ∀ i jj, J (i + 3, jj) = K2 (i + 3, jj) := fun i jj => hg _ (by show i + 3 ≠ 1; omega) (by show i + 3 ≠ 2; omega)
          have r0 : J (0, 0) = K2 (0, 0) := hg _ (by decide) (by decide)
          unfold CI CG at hCI ⊢
          simp only [r, r0]
          rw [show c9.1 = c.1 from hc9]
          exact hCI
        · show (T.G 0).m + 1 = j + 1
          rw [e2]
        · rw [hJ0, q2, e5]; omega
        · rw [hJo _ (by decide) (by decide) (by decide), q2]; exact e6
        · rw [Jp (er k) (show (1 : Nat) ≠ 2 by omega)]
          by_cases hkj : k = j
          · subst hkj
            rw [r0, r1, r2, r3, r4]
            have hk9 : k = (T.G 0).m := e2.symm
            refine ⟨⟨?_, ?_⟩, ?_, ?_, ?_⟩
            · show (s : Int) = (((if k = (T.G 0).m then s else (T.G 0).u k : Nat)) : Int)
              rw [if_pos hk9]
            · show (t : Int) = (((if k = (T.G 0).m then t else (T.G 0).v k : Nat)) : Int)
              rw [if_pos hk9]
            · show lo = upL (T.lo 0) (T.G 0).m lo k
              rw [← hk9, upL_s]
            · show hi = upL (T.hi 0) (T.G 0).m hi k
              rw [← hk9, upL_s]
            · show v3 - 3 = upL (T.co 0) (T.G 0).m (v3 - 3) k
              rw [← hk9, upL_s]
          · rw [o22 _ (er_inj hkj), kk (er k) (show (1 : Nat) < 3 by omega)]
            have hk9 : k ≠ (T.G 0).m := by rw [e2]; exact hkj
            obtain ⟨⟨q1, q2⟩, q3, q4, q5⟩ := e7 k (by omega)
            refine ⟨⟨?_, ?_⟩, ?_, ?_, ?_⟩
            · show _ = (((if k = (T.G 0).m then s else (T.G 0).u k : Nat)) : Int)
              rw [if_neg hk9]; exact q1
            · show _ = (((if k = (T.G 0).m then t else (T.G 0).v k : Nat)) : Int)
              rw [if_neg hk9]; exact q2
            · show _ = upL (T.lo 0) (T.G 0).m lo k
              rw [upL_n hk9]; exact q3
            · show _ = upL (T.hi 0) (T.G 0).m hi k
              rw [upL_n hk9]; exact q4
            · show _ = upL (T.co 0) (T.G 0).m (v3 - 3) k
              rw [upL_n hk9]; exact q5
        · unfold AtB
          rw [hJo _ (by decide) (by decide) (by decide), q2]
          exact hAt
        · rw [Jp _ (by show (0 : Nat) ≠ 2; omega), o22 _ (fun z => by cases congrArg Prod.fst z), kk _ (show (0 : Nat) < 3 by omega)]
          exact h0 i hi
      exact ih c9 J _ (B + 1) _ _ (j + 1) (by omega) (by omega) (by omega) (by omega) hNC hNI
    have s98 : ∀ (J : xIn) (B hi : Int), B ≤ A + 4 → NI c J I0 T j B → 0 ≤ hi ∧ hi ≤ 8 → V 98 [(0, xr (2, 0)), (1, xi (xbi l1)), (2, xi ((r + 1 : Nat) : Int)), (3, xi (s : Int)), (4, xi (t : Int))] [xi hi] (J, xst c) k n := by
      intro J B hi hB hJ hhi
      have s112 : ∀ (J : xIn) (B : Int), B ≤ A + 5 → NI c J I0 T j B → V 112 [(0, xr (2, 0)), (1, xi (xbi l1)), (2, xi ((r + 1 : Nat) : Int)), (3, xi (s : Int)), (4, xi (t : Int)), (5, xi hi)] [] (J, xst c) k n := fun J B hB hJ => rg_L_netOn_112 (mc := 200) (ms := 2000) hX hV hC.1.1 (by omega) (by omega) J _ _ _ _ _ (s124 J B hi 0 (by omega) hJ ⟨Int.le_refl _, hhi.1⟩ hhi.2)
      refine rg_L_netOn_98 (mc := 200) (ms := 2000) hX hV hC.1.1 (by omega) (by omega) J _ _ _ _ _ ⟨fun _ => s112 J B (by omega) hJ, fun _ => ⟨_, nd_dr hX d hC hJ (by omega) ⟨by decide, by decide⟩, ?_⟩⟩
      rintro v K1 ⟨hv, hK1⟩
      refine ⟨⟨by omega, by omega⟩, fun _ => ⟨_, nd_dr hX d hC hK1 (by omega) ⟨by omega, by omega⟩, ?_⟩, fun _ => s112 K1 _ (by omega) hK1⟩
      rintro v2 K2 ⟨hv2, hK2⟩
      exact s124 K2 _ hi v2 (by omega) hK2 ⟨hv2.1, by omega⟩ hhi.2
    refine ⟨_, nd_dr hX d hC hI2 (by omega) ⟨by decide, by decide⟩, ?_⟩
    rintro v16 J3 ⟨hv16, hI3⟩
    refine ⟨⟨by omega, by omega⟩, fun _ => ⟨_, nd_dr hX d hC hI3 (by omega) ⟨by decide, by decide⟩, ?_⟩, fun _ => s98 J3 _ 1 (by omega) hI3 ⟨by decide, by decide⟩⟩
    rintro v22 J4 ⟨hv22, hI4⟩
    exact s98 J4 _ v22 (by omega) hI4 ⟨hv22.1, by omega⟩
end NO
