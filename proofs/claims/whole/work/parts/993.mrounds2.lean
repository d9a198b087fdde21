/-! the reference goes a way, puts what goes, and does rounds -/
theorem kC_far {G : Gr} {hi f L : Nat → Int} {s t : Nat} (hG : GrOK G) (hs : s < G.n) (hst : s ≠ t) (hL : LVs G (fun _ => 0) hi f t (G.n : Int) L) (h : L s = FAR9) : kC G hi f s t = 0 := by
  have hF : FAR9 = 1000000000 := rfl
  have hn := hG.2.1
  refine Classical.byContradiction fun h0 => ?_
  obtain ⟨hw, hkn⟩ := wayC hG hs hst h0
  have key : ∀ j, j ≤ kC G hi f s t → L (pth G (fun _ => 0) hi f (lvK G hi f s t) (kC G hi f s t) s (kC G hi f s t - j)) ≠ FAR9 := by
    intro j
    induction j with
    | zero =>
      intro _
      rw [Nat.sub_zero, hw.2.2.1]
      have ht : t < G.n := by have := (hw.2.2.2.1 _ (Nat.le_refl _)).1; rw [hw.2.2.1] at this; exact this
      have := (hL.1.1 t ht).mpr rfl
      omega
    | succ j ih =>
      intro hj
      have hr := hw.rs (i := kC G hi f s t - (j + 1)) (by omega)
      rw [show kC G hi f s t - (j + 1) + 1 = kC G hi f s t - j by omega] at hr
      exact hL.closed (by omega) hG.in hs h hr (ih (by omega))
  have := key _ (Nat.le_refl _)
  rw [Nat.sub_self, hw.2.1] at this
  exact this h
theorem mw_1000 {g : Nat → Int} {k : Nat} (hk : 0 < k) (h0 : g 0 ≤ 1000) : mw 1000 g k = mw 1000000 g k := by
  have key : ∀ j, mw 1000 g (j + 1) = mw 1000000 g (j + 1) := by
    intro j
    induction j with
    | zero =>
      show (if g 0 < 1000 then g 0 else 1000) = (if g 0 < 1000000 then g 0 else 1000000)
      split <;> split <;> omega
    | succ j ih => rw [mw, ih]; rfl
  rw [show k = (k - 1) + 1 by omega]; exact key _
/-- what goes leaves -/
def Gone (I J : xIn) (G : Gr) (hi : Nat → Int) (s t : Nat) : Prop := kp [(1, 0), (1, 20), (1, 22)] I J ∧ (∀ k, k ≠ 27 → k ≠ 28 → J (1, 0) k = I (1, 0) k) ∧ J (1, 0) 27 = (kC G hi (I (1, 19)) s t : Int) ∧ (kC G hi (I (1, 19)) s t ≠ 0 → J (1, 0) 28 = aC G hi (I (1, 19)) s t ∧ ∀ x, x < kC G hi (I (1, 19)) s t → J (1, 22) x = (s16 (wC G hi (I (1, 19)) s t x) : Int))
section MRE
variable {X : xX} {c : xCx} {I : xIn} {i : Nat} {G : Gr} {lo hi : Nat → Int} {s t : Nat}
theorem ok_goes (hX : xBase X) (d : Nat) (hG : GrOK G) (hM : MG I i G) (hN : MN I i G.m lo hi) (hlo : ∀ e, e < G.m → lo e = 0) (hb : ∀ e, e < G.m → 0 ≤ hi e ∧ hi e ≤ 99) (hf : ∀ e, e < G.m → 0 ≤ I (1, 19) e ∧ I (1, 19) e ≤ hi e) (hs : s < G.n) (ht : t < G.n) (hst : s ≠ t) : xRet rU X m_X10_goes (d + 2) [xr (1, 0), xi (i : Int), xi (s : Int), xi (t : Int)] c I 0 0 (fun _ I9 => Gone I I9 G hi s t) xNo := by
  have hF : FAR9 = 1000000000 := rfl
  have hn := hG.2.1
  have hm := hG.2.2.1
  have h4 := hM.1
  refine xRet_of hX pl_X10_goes (LE1 rfl) fun V hV => rg_X10_goes_0 hV I _ _ _ ⟨_, ok_measures hX d hG hM hN ht, ?_⟩
  rintro _ J ⟨kJ, L, hL0, hfar⟩
  have hL : LVs G (fun _ => 0) hi (I (1, 19)) t (G.n : Int) L := LVs_cong hlo (fun _ _ => rfl) (fun _ _ => rfl) hL0
  have hfs := hfar s hs
  have hlt := L_ltn hL hn hs
  refine ⟨⟨by omega, by omega⟩, fun hc => ?_, fun hc => ?_⟩
  · -- there is a way
    rw [tnN] at hc
    have hne : L s ≠ FAR9 := fun h => by rw [hfs, if_pos h] at hc; omega
    rw [if_neg hne] at hfs
    have hls := hlt.resolve_left hne
    have hL0s : L s ≠ 0 := fun h => hst ((hL.1.1 s hs).mp h)
    obtain ⟨k, hk⟩ := Int.eq_ofNat_of_zero_le hls.1
    have hT := lvT_ok hL (k := k) (by omega) (by omega)
    have hTs : lvT L k s = (k : Int) := by unfold lvT; rw [if_pos (by omega)]; exact hk
    have hW := Way_of hG.in (by omega) hs hT (by omega) hTs
    generalize (fun i => sgs G (fun _ => 0) hi (I (1, 19)) (lvT L k) k (pth G (fun _ => 0) hi (I (1, 19)) (lvT L k) k s i) i) = w at hW
    generalize pth G (fun _ => 0) hi (I (1, 19)) (lvT L k) k s = p at hW
    obtain ⟨w1, w2, w3, w4⟩ := kC_way hG hs hst hW (by omega)
    have hkpos := hW.pos hst
    have hfp : ∀ x, x ≤ k → J (1, 20) (p x) = (k : Int) - x := fun x hx => by
      obtain ⟨a1, a2⟩ := hW.2.2.2.1 x hx
      have : L (p x) = (k : Int) - x := by
        unfold lvT at a2
        by_cases h9 : L (p x) ≤ (k : Int)
        · rw [if_pos h9] at a2; exact a2
        · rw [if_neg h9] at a2; omega
      rw [hfar _ a1, this, if_neg (by omega)]
    have hr0 : ∀ x, x < k → 0 < rsp (fun _ => 0) hi (I (1, 19)) (w x) ∧ rsp (fun _ => 0) hi (I (1, 19)) (w x) ≤ 99 := fun x hx => by
      obtain ⟨b1, b2, b3, b4, b5, b6⟩ := hW.2.2.2.2 x hx
      refine ⟨b6, ?_⟩
      by_cases h32 : w x < 32
      · simp only [eg, if_pos h32] at b3
        simp only [rsp, if_pos h32]
        have := hf _ b3
        have := hb _ b3
        omega
      · simp only [eg, if_neg h32] at b3
        simp only [rsp, if_neg h32]
        have := hf _ b3
        have := hb _ b3
        omega
    have hG9 : ∀ K, kp [(1, 0), (1, 20), (1, 22)] I K → (∀ j, j ≠ 27 → j ≠ 28 → K (1, 0) j = I (1, 0) j) → K (1, 0) 27 = (k : Int) → K (1, 0) 28 = mw 1000 (fun x => rsp (fun _ => 0) hi (I (1, 19)) (w x)) k → (∀ x, x < k → K (1, 22) x = (s16 (w x) : Int)) → Gone I K G hi s t := fun K g1 g2 g3 g4 g5 => by
      refine ⟨g1, g2, by rw [g3, w1], fun _ => ⟨?_, fun x hx => ?_⟩⟩
      · rw [g4, w3]
        exact mw_1000 hkpos (by have := hr0 0 hkpos; omega)
      · rw [w1] at hx
        rw [g5 x hx, w2 x hx]
    rintro J2 e2 J3 e3
    have k3 : kp [(1, 0), (1, 20), (1, 22)] I J3 := by
      rw [e3, e2]; exact ((kJ.mo (by simp)).xu (by simp)).xu (by simp)
    have q27 : J3 (1, 0) 27 = (k : Int) := by rw [e3, xu_k (by decide), e2, xu_same, tnN, hfs, hk]
    have q28 : J3 (1, 0) 28 = 1000 := by rw [e3, xu_same]
    have qo : ∀ j, j ≠ 27 → j ≠ 28 → J3 (1, 0) j = I (1, 0) j := fun j j1 j2 => by rw [e3, xu_k j2, e2, xu_k j1, kJ _ (by decide)]
    have qf : J3 (1, 20) = J (1, 20) := by rw [e3, xu_p (by decide), e2, xu_p (by decide)]
    clear e2 e3
    refine up_to0 (m := k) (W := fun x => ∀ K, kp [(1, 0), (1, 20), (1, 22)] I K → (∀ j, j ≠ 27 → j ≠ 28 → K (1, 0) j = I (1, 0) j) → K (1, 0) 27 = (k : Int) → K (1, 20) = J (1, 20) → K (1, 0) 28 = mw 1000 (fun x => rsp (fun _ => 0) hi (I (1, 19)) (w x)) x → (∀ y, y < x → K (1, 22) y = (s16 (w y) : Int)) → V 44 [(0, xr (1, 0)), (1, xi (i : Int)), (4, xi (p x : Int)), (5, xi (x : Int))] [] (K, xst c) 0 0) ?_ ?_ J3 k3 qo q27 qf q28 (fun y hy => absurd hy (Nat.not_lt_zero y)) |> fun z => by rw [hW.2.1] at z; exact z
    · intro K g1 g2 g3 g4 g5 g6
      exact rg_X10_goes_44 hV K _ _ _ ⟨⟨by omega, by omega⟩, fun _ => hG9 K g1 g2 g3 g5 g6, fun h => by omega⟩
    · intro x hx ih K g1 g2 g3 g4 g5 g6
      obtain ⟨b1, b2, b3, b4, b5, b6⟩ := hW.2.2.2.2 x hx
      obtain ⟨d1, d2, d3, d4⟩ := c32_s (show eg (w x) < 16 by omega)
      have hpx := hW.2.2.2.1 x (by omega)
      have hpy := hW.2.2.2.1 (x + 1) (by omega)
      have hfx := hfp x (by omega)
      have hfy := hfp (x + 1) (by omega)
      have hrx := hr0 x hx
      have hmw := mw_le (lim := 1000) (g := fun x => rsp (fun _ => 0) hi (I (1, 19)) (w x)) (k := x)
      have hmw0 := mw_ge (lim := 1000) (b := 0) (g := fun x => rsp (fun _ => 0) hi (I (1, 19)) (w x)) (k := x) (by decide) (fun y hy => by have := hr0 y (by omega); omega)
      have hmwS : mw 1000 (fun x => rsp (fun _ => 0) hi (I (1, 19)) (w x)) (x + 1) = min (mw 1000 (fun x => rsp (fun _ => 0) hi (I (1, 19)) (w x)) x) (rsp (fun _ => 0) hi (I (1, 19)) (w x)) := by
        show (if rsp (fun _ => 0) hi (I (1, 19)) (w x) < mw 1000 (fun x => rsp (fun _ => 0) hi (I (1, 19)) (w x)) x then rsp (fun _ => 0) hi (I (1, 19)) (w x) else mw 1000 (fun x => rsp (fun _ => 0) hi (I (1, 19)) (w x)) x) = _
        split <;> omega
      have hMK : MG K i G := hM.k9 g1 (by decide) (by decide) (by decide) (by decide)
      have hNK : MN K i G.m lo hi := hN.k9 g1 (by decide) (by decide)
      have h19 : K (1, 19) = I (1, 19) := g1 _ (by decide)
      have hop : ∀ σ, opB G lo hi (I (1, 19)) σ = true → eg (c32 σ) < G.m ∧ 0 < rsp (fun _ => 0) hi (I (1, 19)) (c32 σ) := fun σ h => by
        obtain ⟨a1, a2⟩ := of_decide_eq_true h
        exact ⟨a1, by rw [← rsp_cong (m := G.m) hlo (fun _ _ => rfl) (fun _ _ => rfl) a1]; exact a2⟩
      have hopw : opB G lo hi (I (1, 19)) (s16 (w x)) = true := by
        refine decide_eq_true ⟨by rw [d1]; exact b3, ?_⟩
        rw [d1, rsp_cong (m := G.m) hlo (fun _ _ => rfl) (fun _ _ => rfl) b3]; exact b6
      refine rg_X10_goes_44 hV K _ _ _ ⟨⟨by omega, by omega⟩, fun h => by omega, fun _ => ?_⟩
      refine up_to0 (m := s16 (w x)) (W := fun σ => V 56 [(0, xr (1, 0)), (1, xi (i : Int)), (4, xi (p x : Int)), (5, xi (x : Int)), (6, xi (σ : Int))] [] (K, xst c) 0 0) ?_ ?_
      · refine rg_X10_goes_56 hV K _ _ _ _ ⟨_, ok_isOpen hX (d + 1) hG hMK hNK d2, ?_⟩
        rintro v K ⟨hv, rfl⟩
        rw [h19, hopw] at hv
        refine ⟨fun z => (by rw [hv] at z; cases z), fun _ => ⟨_, ok_begin hX (d + 1) hG hMK d2 (by rw [d1]; exact b3), ?_⟩⟩
        rintro _ K ⟨rfl, rfl⟩
        rw [d1, ← b4]
        refine ⟨⟨by omega, by omega⟩, ⟨by omega, by omega⟩, fun z => absurd rfl z, fun _ => ⟨_, ok_end hX (d + 1) hG hMK d2 (by rw [d1]; exact b3), ?_⟩⟩
        rintro _ K ⟨rfl, rfl⟩
        rw [d1, ← b5, tnN, tnN, g4, hfx, hfy]
        refine ⟨⟨by omega, by omega⟩, ⟨by omega, by omega⟩, ⟨by omega, by omega⟩, fun _ => ⟨⟨by omega, by omega⟩, ⟨by omega, by omega⟩, ?_⟩, fun z => by omega⟩
        rintro K2 e2
        rw [tnN] at e2
        have k2 : kp [(1, 22)] K K2 := by rw [e2]; exact kp.rfl.xu (by simp)
        have hMK2 : MG K2 i G := hMK.k9 k2 (by decide) (by decide) (by decide) (by decide)
        have hNK2 : MN K2 i G.m lo hi := hNK.k9 k2 (by decide) (by decide)
        refine ⟨_, ok_end hX (d + 1) hG hMK2 d2 (by rw [d1]; exact b3), ?_⟩
        rintro _ K2 ⟨rfl, rfl⟩
        rw [d1, ← b5]
        have fin : ∀ z : Int, z = rsp (fun _ => 0) hi (I (1, 19)) (w x) → ∀ K3 : xIn, K3 = xu K2 (1, 0) 28 (min (K2 (1, 0) 28) z) → V 44 [(0, xr (1, 0)), (1, xi (i : Int)), (4, xi (p (x + 1) : Int)), (5, xi ((x : Int) + 1))] [] (K3, xst c) 0 0 := fun z hz K3 e3 => by
          have r0 : K2 (1, 0) = K (1, 0) := k2 _ (by decide)
          refine ih K3 ?_ ?_ ?_ ?_ ?_ ?_
          · rw [e3]; exact (g1.tr (k2.mo (by simp))).xu (by simp)
          · intro j j1 j2; rw [e3, xu_k j2, r0]; exact g2 j j1 j2
          · rw [e3, xu_k (by decide), r0]; exact g3
          · rw [e3, xu_p (by decide), k2 _ (by decide)]; exact g4
          · rw [e3, xu_same, hmwS, r0, g5, hz]
          · intro y hy
            rw [e3, xu_p (by decide), e2, xuL]
            by_cases hyx : y = x
            · rw [hyx, upL_s]
            · rw [upL_n hyx]; exact g6 y (by omega)
        have r28 : K2 (1, 0) 28 = mw 1000 (fun x => rsp (fun _ => 0) hi (I (1, 19)) (w x)) x := by rw [k2 _ (by decide)]; exact g5
        have r19 : K2 (1, 19) = I (1, 19) := by rw [k2 _ (by decide)]; exact h19
        refine ⟨fun h => ?_, fun h => ?_⟩
        · have h32 : ¬ w x < 32 := fun q => by have := d4.mpr q; omega
          have hz : K2 (1, 19) (Int.toNat ((s16 (w x) : Int) - 16)) = rsp (fun _ => 0) hi (I (1, 19)) (w x) := by
            rw [r19]
            simp only [rsp, if_neg h32, Int.sub_zero]
            congr 1
            unfold s16
            rw [if_neg h32]; omega
          refine ⟨⟨by omega, by omega⟩, _, ok_min hX (d + 1) ⟨by omega, by omega⟩ ⟨by omega, by omega⟩, ?_⟩
          rintro _ K2 ⟨rfl, rfl⟩
          exact ⟨⟨by omega, by omega⟩, fun K3 e3 => fin _ hz K3 e3⟩
        · have h32 : w x < 32 := d4.mp (by omega)
          have hz : K2 (1, 6) (16 * i + s16 (w x)) - K2 (1, 19) (s16 (w x)) = rsp (fun _ => 0) hi (I (1, 19)) (w x) := by
            have e16 : s16 (w x) = w x := by unfold s16; rw [if_pos h32]
            have hem : w x < G.m := by simp only [eg, if_pos h32] at b3; exact b3
            rw [r19, e16, (hNK2 _ hem).2]
            simp only [rsp, if_pos h32]
          rw [tn16, tnN]
          refine ⟨⟨by omega, by omega⟩, ⟨by omega, by omega⟩, _, ok_min hX (d + 1) ⟨by omega, by omega⟩ ⟨by omega, by omega⟩, ?_⟩
          rintro _ K2 ⟨rfl, rfl⟩
          exact ⟨⟨by omega, by omega⟩, fun K3 e3 => fin _ hz K3 e3⟩
      · intro σ hσ ih2
        refine rg_X10_goes_56 hV K _ _ _ _ ⟨_, ok_isOpen hX (d + 1) hG hMK hNK (by omega), ?_⟩
        rintro v K ⟨hv, rfl⟩
        rw [h19] at hv
        refine ⟨fun _ => ih2, fun z => ?_⟩
        rw [hv] at z
        obtain ⟨a1, a2⟩ := hop σ z
        have hbl := bgn_lt hG.in a1
        have hel := edn_lt hG.in a1
        refine ⟨_, ok_begin hX (d + 1) hG hMK (by omega) a1, ?_⟩
        rintro _ K ⟨rfl, rfl⟩
        refine ⟨⟨by omega, by omega⟩, ⟨by omega, by omega⟩, fun _ => ih2, fun y => ⟨_, ok_end hX (d + 1) hG hMK (by omega) a1, ?_⟩⟩
        rintro _ K ⟨rfl, rfl⟩
        rw [tnN, tnN, g4, hfx]
        refine ⟨⟨by omega, by omega⟩, ⟨by omega, by omega⟩, ⟨by omega, by omega⟩, fun q => ?_, fun _ => ih2⟩
        exfalso
        have hfe := hfar _ hel
        have hLe : lvT L k (edn G (c32 σ)) = (k : Int) - x - 1 := by
          rw [hfe] at q
          by_cases h9 : L (edn G (c32 σ)) = FAR9
          · rw [if_pos h9] at q; omega
          · rw [if_neg h9] at q
            unfold lvT
            rw [if_pos (by omega)]; exact q
        have := lsg_min hm b1.symm a1 (by omega) hLe a2
        omega
  · rw [tnN] at hc
    have hLs : L s = FAR9 := by
      refine Classical.byContradiction fun h9 => ?_
      rw [hfs, if_neg h9] at hc
      have := hlt.resolve_left h9
      omega
    have h0 := kC_far hG hs hst hL hLs
    rintro J2 e2 J3 e3
    have q27 : J3 (1, 0) 27 = 0 := by rw [e3, xu_k (by decide), e2, xu_same]
    refine rg_X10_goes_44 hV J3 _ _ _ ⟨⟨by decide, by decide⟩, fun _ => ⟨?_, ?_, ?_, fun h => absurd h0 h⟩, fun h => by omega⟩
    · rw [e3, e2]; exact ((kJ.mo (by simp)).xu (by simp)).xu (by simp)
    · intro j j1 j2; rw [e3, xu_k j2, e2, xu_k j1, kJ _ (by decide)]
    · rw [q27, h0]; rfl
theorem ok_puts (hX : xBase X) (d : Nat) {k : Nat} {w : Nat → Nat} {a : Int} (hk : k ≤ 8) (h27 : I (1, 0) 27 = (k : Int)) (h28 : I (1, 0) 28 = a) (ha : -1000000 ≤ a ∧ a ≤ 1000000) (hw : ∀ x, x < k → I (1, 22) x = (s16 (w x) : Int) ∧ eg (w x) < 16) (hb : ∀ e, e < 16 → -1000 ≤ I (1, 19) e ∧ I (1, 19) e ≤ 1000) : xRet rU X m_X10_puts d [xr (1, 0)] c I 0 0 (fun _ I9 => kp [(1, 19)] I I9 ∧ I9 (1, 19) = ap (I (1, 19)) w a k) xNo := by
  refine xRet_of hX pl_X10_puts (LE1 rfl) fun V hV => rg_X10_puts_0 hV I ?_
  refine up_to0 (m := k) (W := fun x => ∀ J, kp [(1, 19)] I J → J (1, 19) = ap (I (1, 19)) w a x → V 2 [(0, xr (1, 0)), (1, xi (x : Int))] [] (J, xst c) 0 0) ?_ ?_ I kp.rfl rfl
  · intro J kJ hJ
    exact rg_X10_puts_2 hV J _ ⟨⟨by omega, by omega⟩, fun _ => ⟨kJ, hJ⟩, fun h => by rw [kJ _ (by decide), h27] at h; omega⟩
  · intro x hx ih J kJ hJ
    obtain ⟨hwx, he⟩ := hw x hx
    obtain ⟨d1, d2, d3, d4⟩ := c32_s he
    have hbd := ap_bd (f := I (1, 19)) (w := w) (a := a) (A := 1000000) (B := 1000) (k := x) (m := 16) ⟨by omega, by omega⟩ (fun i hi => (hw i (by omega)).2) hb (eg (w x)) he
    have hxk : (x : Int) * 1000000 ≤ 8 * 1000000 := Int.mul_le_mul_of_nonneg_right (by omega) (by decide)
    have hm : Int.toNat ((s16 (w x) : Int) % 16) = eg (w x) := by omega
    have hap : ap (I (1, 19)) w a (x + 1) = upL (J (1, 19)) (eg (w x)) (J (1, 19) (eg (w x)) + sgn (w x) a) := by rw [ap, ← hJ]; rfl
    rw [← hJ] at hbd
    refine rg_X10_puts_2 hV J _ ⟨⟨by omega, by omega⟩, fun h => by rw [kJ _ (by decide), h27] at h; omega, fun _ => ⟨⟨by omega, by omega⟩, ?_⟩⟩
    rw [tnN, kJ (1, 22) (by decide), hwx, kJ (1, 0) (by decide), h28, hm]
    refine ⟨⟨by omega, by omega⟩, ⟨by omega, by omega⟩, fun h => ⟨⟨by omega, by omega⟩, ?_⟩, fun h => ⟨⟨by omega, by omega⟩, ?_⟩⟩
    · rintro K eK
      have h32 : ¬ w x < 32 := fun q => by have := d4.mpr q; omega
      refine ih K (by rw [eK]; exact kJ.xu (by simp)) ?_
      rw [eK, xuL, hap]
      unfold sgn
      rw [if_neg h32]
    · rintro K eK
      have h32 : w x < 32 := d4.mp (by omega)
      refine ih K (by rw [eK]; exact kJ.xu (by simp)) ?_
      rw [eK, xuL, hap]
      unfold sgn
      rw [if_pos h32]
/-- what roundsTo leaves -/
def kpR (I J : xIn) : Prop := kp [(1, 0), (1, 19), (1, 20), (1, 22)] I J ∧ ∀ k, k ≠ 27 → k ≠ 28 → J (1, 0) k = I (1, 0) k
theorem kpR.keep {J : xIn} (h : kpR I J) : keepM I J := ⟨fun p hp => h.1 p (by
  rcases hp with hp | hp
  · simp only [List.mem_cons, List.mem_nil_iff, or_false, not_or]
    refine ⟨?_, ?_, ?_, ?_⟩ <;> rintro rfl <;> exact hp rfl
  · simp only [List.mem_cons, List.mem_nil_iff, or_false, not_or]
    refine ⟨?_, ?_, ?_, ?_⟩ <;> rintro rfl <;> revert hp <;> decide), fun k k1 k2 _ => h.2 k k1 k2⟩
theorem kpR.tr {I J K : xIn} (h1 : kpR I J) (h2 : kpR J K) : kpR I K := ⟨h1.1.tr h2.1, fun k k1 k2 => (h2.2 k k1 k2).trans (h1.2 k k1 k2)⟩
def RdTo (M : Nat) (r : Int) : Nat := if 0 ≤ r ∧ r < (M : Int) then Int.toNat r else M
theorem ok_roundsTo (hX : xBase X) (d : Nat) (hG : GrOK G) (hM : MG I i G) (hN : MN I i G.m lo hi) (hlo : ∀ e, e < G.m → lo e = 0) (hb : ∀ e, e < G.m → 0 ≤ hi e ∧ hi e ≤ 99) (hs : s < G.n) (ht : t < G.n) (hst : s ≠ t) {r : Int} (hr : xin r) : xRet rI X m_X10_roundsTo (d + 4) [xr (1, 0), xi (i : Int), xi (s : Int), xi (t : Int), xi r] c I 0 0 (fun v I9 => kpR I I9 ∧ v = (RdTo (MC G hi s t) r : Int) ∧ I9 (1, 0) 27 = (kC G hi (FC G hi s t (RdTo (MC G hi s t) r)) s t : Int) ∧ (kC G hi (FC G hi s t (RdTo (MC G hi s t) r)) s t ≠ 0 → I9 (1, 0) 28 = aC G hi (FC G hi s t (RdTo (MC G hi s t) r)) s t ∧ ∀ x, x < kC G hi (FC G hi s t (RdTo (MC G hi s t) r)) s t → I9 (1, 22) x = (s16 (wC G hi (FC G hi s t (RdTo (MC G hi s t) r)) s t x) : Int))) xNo := by
  have hn := hG.2.1
  have hm := hG.2.2.1
  obtain ⟨M1, M2, M3⟩ := MC_ok hG hs ht hst hb
  refine xRet_of hX pl_X10_roundsTo (LE1 rfl) fun V hV => rg_X10_roundsTo_0 hV I _ _ _ _ ?_
  refine up_to0 (m := 16) (W := fun e => ∀ J, kp [(1, 19)] I J → (∀ x, x < e → J (1, 19) x = 0) → V 3 [(0, xr (1, 0)), (1, xi (i : Int)), (2, xi (s : Int)), (3, xi (t : Int)), (4, xi r), (5, xi (e : Int))] [] (J, xst c) 0 0) ?_ ?_ I kp.rfl (fun x hx => absurd hx (Nat.not_lt_zero x))
  · intro J kJ hJ
    have hMJ : MG J i G := hM.k9 kJ (by decide) (by decide) (by decide) (by decide)
    have hNJ : MN J i G.m lo hi := hN.k9 kJ (by decide) (by decide)
    refine rg_X10_roundsTo_3 hV J _ _ _ _ _ ⟨⟨by decide, by decide⟩, fun _ => ⟨_, ok_goes hX (d + 1) hG hMJ hNJ hlo hb (fun e he => by rw [hJ e (by omega)]; exact ⟨Int.le_refl _, (hb e he).1⟩) hs ht hst, ?_⟩, fun h => absurd h (by decide)⟩
    rintro _ K hGo
    have hb0 : ∀ e, e < 16 → K (1, 19) e = FC G hi s t 0 e := fun e he => by rw [hGo.1 _ (by decide)]; exact hJ e he
    have kK : kpR I K := ⟨(kJ.mo (by simp)).tr (hGo.1.mo (by simp)), fun k k1 k2 => by rw [hGo.2.1 k k1 k2, kJ _ (by decide)]⟩
    refine up_to0 (m := 1601) (W := fun j => ∀ J K, kpR I K → Gone J K G hi s t → (∀ e, e < G.m → J (1, 19) e = FC G hi s t j e) → (∀ e, e < 16 → -1000 ≤ K (1, 19) e ∧ K (1, 19) e ≤ 1000) → (∀ i, i < j → kC G hi (FC G hi s t i) s t ≠ 0) → ¬ (0 ≤ r ∧ r < (j : Int)) → V 34 [(0, xr (1, 0)), (1, xi (i : Int)), (2, xi (s : Int)), (3, xi (t : Int)), (4, xi r), (5, xi (j : Int))] [] (K, xst c) 0 0) ?_ ?_ J K kK hGo (fun e he => hJ e (by omega)) (fun e he => by rw [hb0 e he]; show -1000 ≤ (0 : Int) ∧ (0 : Int) ≤ 1000; decide) (fun i hi => absurd hi (Nat.not_lt_zero i)) (by omega)
    · intro J K _ _ _ _ hnz _
      have a1 := AC_ge hG hs hst hnz
      have a2 := AC_bd hG hs ht hst hb 1601
      omega
    · clear hJ kJ hMJ hNJ hGo kK hb0
      intro j hj ih J K kK hGo hJ hK16 hnz hask
      obtain ⟨sc1, sc2, sc3, sc4⟩ := step_cong hG (hi := hi) (hi9 := hi) (f := J (1, 19)) (f9 := FC G hi s t j) hs hst (fun _ _ => rfl) hJ
      obtain ⟨G1, G2, G3, G4⟩ := hGo
      rw [sc1] at G3
      have h19 : K (1, 19) = J (1, 19) := G1 _ (by decide)
      -- what is left at the end
      have fin : RdTo (MC G hi s t) r = j → kpR I K ∧ (j : Int) = (RdTo (MC G hi s t) r : Int) ∧ K (1, 0) 27 = (kC G hi (FC G hi s t (RdTo (MC G hi s t) r)) s t : Int) ∧ (kC G hi (FC G hi s t (RdTo (MC G hi s t) r)) s t ≠ 0 → K (1, 0) 28 = aC G hi (FC G hi s t (RdTo (MC G hi s t) r)) s t ∧ ∀ x, x < kC G hi (FC G hi s t (RdTo (MC G hi s t) r)) s t → K (1, 22) x = (s16 (wC G hi (FC G hi s t (RdTo (MC G hi s t) r)) s t x) : Int)) := fun hR => by
        rw [hR]
        refine ⟨kK, rfl, G3, fun hk => ?_⟩
        obtain ⟨g1, g2⟩ := G4 (by rw [sc1]; exact hk)
        refine ⟨by rw [g1, sc2], fun x hx => ?_⟩
        rw [g2 x (by rw [sc1]; exact hx), sc3 x (by rw [sc1]; exact hx)]
      refine rg_X10_roundsTo_34 hV K _ _ _ _ _ ⟨fun h => ?_, fun h => ⟨⟨by omega, by omega⟩, hr, fun heq => ?_, fun hne => ?_⟩⟩
      · have h0 : kC G hi (FC G hi s t j) s t = 0 := by omega
        have hMj := MC_at hG hs ht hst hb hnz h0
        exact fin (by unfold RdTo; rw [hMj, if_neg hask])
      · have hk : kC G hi (FC G hi s t j) s t ≠ 0 := fun h0 => by rw [G3, h0] at h; exact absurd h (by decide)
        have hlt : j < MC G hi s t := by
          refine Classical.byContradiction fun hge => ?_
          rcases Nat.lt_or_ge (MC G hi s t) j with h9 | h9
          · exact hnz _ h9 M2
          · have : MC G hi s t = j := by omega
            rw [this] at M2; exact hk M2
        exact fin (by unfold RdTo; rw [if_pos (by omega)]; omega)
      · have hk : kC G hi (FC G hi s t j) s t ≠ 0 := fun h0 => by rw [G3, h0] at h; exact absurd h (by decide)
        have hk9 : kC G hi (J (1, 19)) s t ≠ 0 := by rw [sc1]; exact hk
        obtain ⟨g1, g2⟩ := G4 hk9
        obtain ⟨hw, hkn⟩ := wayC hG hs hst hk9
        have hap := aC_pos hG hs hst hk9
        have hF1 := FC_ok hG hs ht hst hb (j + 1)
        have ha99 : aC G hi (J (1, 19)) s t ≤ 1000000 := by
          unfold aC; rw [if_neg hk9]; exact (mw_le).1
        refine ⟨_, ok_puts hX (d + 3) (k := kC G hi (J (1, 19)) s t) (w := wC G hi (J (1, 19)) s t) (a := aC G hi (J (1, 19)) s t) (by omega) (by rw [G3, sc1]) g1 ⟨by omega, by omega⟩ (fun x hx => ⟨g2 x hx, by have := (hw.2.2.2.2 x hx).2.2.1; omega⟩) hK16, ?_⟩
        rintro _ K2 ⟨k2, e2⟩
        have hK2 : K2 (1, 19) = nC G hi (J (1, 19)) s t := by rw [e2, h19]; rfl
        have hK2F : ∀ e, e < G.m → K2 (1, 19) e = FC G hi s t (j + 1) e := fun e he => by rw [hK2]; exact sc4 e he
        have hMK : MG K2 i G := (hM.k9 kK.1 (by decide) (by decide) (by decide) (by decide)).k9 k2 (by decide) (by decide) (by decide) (by decide)
        have hNK : MN K2 i G.m lo hi := (hN.k9 kK.1 (by decide) (by decide)).k9 k2 (by decide) (by decide)
        refine ⟨_, ok_goes hX (d + 1) hG hMK hNK hlo hb (fun e he => by rw [hK2F e he]; exact hF1.1 e he) hs ht hst, ?_⟩
        rintro _ K3 hGo3
        refine ih K2 K3 ?_ hGo3 hK2F (fun e he => ?_) (fun x hx => ?_) (by omega)
        · exact ⟨(kK.1.tr (k2.mo (by simp))).tr (hGo3.1.mo (by simp)), fun k k1 k2' => by rw [hGo3.2.1 k k1 k2', k2 _ (by decide)]; exact kK.2 k k1 k2'⟩
        · rw [hGo3.1 _ (by decide)]
          by_cases hem : e < G.m
          · rw [hK2F e hem]
            have := hF1.1 e hem
            have := hb e hem
            omega
          · rw [hK2]
            unfold nC
            rw [ap_off (fun x hx => by have := (hw.2.2.2.2 x hx).2.2.1; omega), ← h19]
            exact hK16 e he
        · by_cases hxj : x = j
          · rw [hxj]; exact hk
          · exact hnz x (by omega)
  · intro e he ih J kJ hJ
    refine rg_X10_roundsTo_3 hV J _ _ _ _ _ ⟨⟨by omega, by omega⟩, fun h => by omega, fun _ => ⟨⟨by omega, by omega⟩, ?_⟩⟩
    rintro K eK
    rw [tnN] at eK
    refine ih K (by rw [eK]; exact kJ.xu (by simp)) fun x hx => ?_
    rw [eK, xuL]
    by_cases hxe : x = e
    · rw [hxe, upL_s]
    · rw [upL_n hxe]; exact hJ x (by omega)
end MRE
