/-! the reference changes nets -/
section MNM
variable {X : xX} {c : xCx} {I : xIn} {T : NT} {a s t e lo hi co : Int}
theorem ok_areBounds (hX : xBase X) (d : Nat) (h1 : xin lo) (h2 : xin hi) (h3 : xin co) : xRet rB X m_X10_areBounds (d + 1) [xi lo, xi hi, xi co] c I 0 0 (pv (okB lo hi co) I) xNo := by
  refine xRet_of hX pl_X10_areBounds (LE1 rfl) fun V hV => rg_X10_areBounds_0 hV I _ _ _ ⟨_, ok_in hX d h1 ⟨by decide, by decide⟩ ⟨by decide, by decide⟩, ?_⟩
  rintro _ I ⟨rfl, rfl⟩
  refine ⟨fun z => pvI ?_, fun z => ⟨_, ok_in hX d h2 h1 ⟨by decide, by decide⟩, ?_⟩⟩
  · have z := of_decide_eq_false z
    exact (decide_eq_false (by omega)).symm
  rintro _ I ⟨rfl, rfl⟩
  refine ⟨fun w => pvI ?_, fun w => ⟨_, ok_in hX d h3 ⟨by decide, by decide⟩ ⟨by decide, by decide⟩, ?_⟩⟩
  · have w := of_decide_eq_false w
    exact (decide_eq_false (by omega)).symm
  rintro _ I ⟨rfl, rfl⟩
  have z := of_decide_eq_true z
  have w := of_decide_eq_true w
  refine ⟨fun y => pvI ?_, fun y => pvI ?_⟩
  · have y := of_decide_eq_false y
    exact (decide_eq_false (by omega)).symm
  · have y := of_decide_eq_true y
    exact (decide_eq_true (by omega)).symm
theorem sameBut.w {I J : xIn} {i : Nat} (h : sameBut I J i) {q : xP} {k : Nat} {v : Int} (hq : ((q = (1, 1) ∨ q = (1, 2)) ∧ k = i) ∨ ((q = (1, 3) ∨ q = (1, 4) ∨ q = (1, 5) ∨ q = (1, 6) ∨ q = (1, 7)) ∧ ∃ e, e < 16 ∧ k = 16 * i + e) ∨ (q = (1, 8) ∧ ∃ x, x < 8 ∧ k = 8 * i + x) ∨ (q = (1, 0) ∧ k = 32)) : sameBut I (xu J q k v) i := by
  have r : ∀ (p : xP) (j : Nat), ¬ (p = q ∧ j = k) → xu J q k v p j = J p j := fun p j hn => by
    by_cases hp : p = q
    · subst hp
      exact xu_k fun z => hn ⟨rfl, z⟩
    · rw [xu_p hp]
  obtain ⟨h0, h1⟩ := h
  refine ⟨?_, fun j hj hji => ?_⟩
  · rw [r _ _ ?_]
    · exact h0
    · rintro ⟨rfl, hk⟩
      rcases hq with ⟨z, -⟩ | ⟨z, -⟩ | ⟨z, -⟩ | ⟨-, z⟩
      · rcases z with z | z <;> cases z
      · rcases z with z | z | z | z | z <;> cases z
      · cases z
      · omega
  · obtain ⟨b1, b2, b3, b4⟩ := h1 j hj hji
    have rr : ∀ (p : xP), (p = (1, 3) ∨ p = (1, 4) ∨ p = (1, 5) ∨ p = (1, 6) ∨ p = (1, 7)) → ∀ e, e < 16 → xu J q k v p (16 * j + e) = J p (16 * j + e) := fun p hp e he => r _ _ (by
      rintro ⟨rfl, hk⟩
      rcases hq with ⟨z, -⟩ | ⟨-, e2, he2, hk2⟩ | ⟨z, -⟩ | ⟨z, -⟩
      · rcases z with rfl | rfl <;> rcases hp with z | z | z | z | z <;> cases z
      · omega
      · subst z; rcases hp with z | z | z | z | z <;> cases z
      · subst z; rcases hp with z | z | z | z | z <;> cases z)
    refine ⟨?_, ?_, fun e he => ?_, fun x hx => ?_⟩
    · rw [r _ _ ?_]
      · exact b1
      · rintro ⟨rfl, hk⟩
        rcases hq with ⟨-, z⟩ | ⟨z, -⟩ | ⟨z, -⟩ | ⟨z, -⟩
        · omega
        · rcases z with z | z | z | z | z <;> cases z
        · cases z
        · cases z
    · rw [r _ _ ?_]
      · exact b2
      · rintro ⟨rfl, hk⟩
        rcases hq with ⟨-, z⟩ | ⟨z, -⟩ | ⟨z, -⟩ | ⟨z, -⟩
        · omega
        · rcases z with z | z | z | z | z <;> cases z
        · cases z
        · cases z
    · rw [rr (1, 3) (Or.inl rfl) e he, rr (1, 4) (Or.inr (Or.inl rfl)) e he, rr (1, 5) (Or.inr (Or.inr (Or.inl rfl))) e he, rr (1, 6) (Or.inr (Or.inr (Or.inr (Or.inl rfl)))) e he, rr (1, 7) (Or.inr (Or.inr (Or.inr (Or.inr rfl)))) e he]
      exact b3 e he
    · rw [r _ _ ?_]
      · exact b4 x hx
      · rintro ⟨rfl, hk⟩
        rcases hq with ⟨z, -⟩ | ⟨z, -⟩ | ⟨-, x2, hx2, hk2⟩ | ⟨z, -⟩
        · rcases z with z | z <;> cases z
        · rcases z with z | z | z | z | z <;> cases z
        · omega
        · cases z
theorem sameBut.rfl {I : xIn} {i : Nat} : sameBut I I i := ⟨Eq.refl _, fun _ _ _ => ⟨Eq.refl _, Eq.refl _, fun _ _ => ⟨Eq.refl _, Eq.refl _, Eq.refl _, Eq.refl _, Eq.refl _⟩, fun _ _ => Eq.refl _⟩⟩
theorem MI.net {I : xIn} {T : NT} (h : MI I T) {i : Nat} (hi : i < T.N) : MNet I i (T.G i) (T.lo i) (T.hi i) (T.co i) (T.su i) := h.2.2 i hi
theorem ok_edge (hX : xBase X) (d : Nat) (hT : NTok T) (hI : MI I T) (ha : xin a) (hs : xin s) (ht : xin t) (h1 : xin lo) (h2 : xin hi) (h3 : xin co) : xRet rI X m_X10_edge (d + 4) [xr (1, 0), xi a, xi s, xi t, xi lo, xi hi, xi co] c I 0 0 (fun v I9 => keepR I I9 ∧ MI I9 (edgeA T a s t lo hi co).2 ∧ (v, I9 (1, 0) 32) = (edgeA T a s t lo hi co).1) xNo := by
  have hwc := wrong_c T a s t
  have hW := hI.W hT
  refine xRet_of hX pl_X10_edge (LE1 rfl) fun V hV => ?_
  have bad : ∀ w : Int, 0 < w → w ≤ 3 → edgeA T a s t lo hi co = ((0, w), T) → V 55 [(0, xr (1, 0)), (1, xi a), (2, xi s), (3, xi t), (4, xi lo), (5, xi hi), (6, xi co)] [xi w, xr (1, 0)] (I, xst c) 0 0 := fun w w0 w3 hA => rg_X10_edge_55 hV I _ _ _ _ _ _ _ ⟨⟨by omega, by omega⟩, by
    rintro J rfl
    rw [xu_same]
    exact ⟨fun h => by omega, fun _ => ⟨(keepM.thrown _).R, by rw [hA]; exact hI.keep (keepM.thrown _), by rw [hA]⟩⟩⟩
  refine rg_X10_edge_0 hV I _ _ _ _ _ _ ⟨_, ok_isNet hX (d + 2) hW ha, ?_⟩
  rintro _ I ⟨rfl, rfl⟩
  have hN : I (1, 0) 0 = (T.N : Int) := hI.1
  rw [hN]
  refine ⟨fun z => ?_, fun z => bad 1 (by decide) (by decide) (by unfold edgeA wrongT; rw [z]; rfl)⟩
  have hz := inB_t z
  obtain ⟨i, rfl⟩ := Int.eq_ofNat_of_zero_le hz.1
  have hiN : i < T.N := by omega
  have hN4 := hT.1
  obtain ⟨hM, hMN, hco, hsu⟩ := hI.net hiN
  obtain ⟨hG, hB, hS⟩ := hT.2 i hiN
  refine ⟨_, ok_areTwo hX (d + 1) hW ⟨by omega, by omega⟩ hs ht, ?_⟩
  rintro _ I ⟨rfl, rfl⟩
  rw [tnN, hM.2.1]
  refine ⟨fun y => rg_X10_edge_35 hV I _ _ _ _ _ _ (bad 2 (by decide) (by decide) (by unfold edgeA wrongT; rw [z, tnN, y]; rfl)), fun y => ?_⟩
  have hw : wrongT T (i : Int) s t = 0 := by unfold wrongT; rw [z, tnN, y]; rfl
  obtain ⟨i9, s, t, e1, rfl, rfl, -, hs9, ht9, hst⟩ := wrong_0 (show wrongT T (i : Int) s t ≤ 0 by omega)
  obtain rfl : i9 = i := by omega
  have hA : edgeA T (i9 : Int) (s : Int) (t : Int) lo hi co = if okB lo hi co then (if (T.G i9).m = 16 then ((0, 3), T) else ((((T.G i9).m : Int), 0), T.put i9 (bk (T.G i9) t s) (upL (T.lo i9) (T.G i9).m lo) (upL (T.hi i9) (T.G i9).m hi) (upL (T.co i9) (T.G i9).m co) (T.su i9))) else ((0, 2), T) := by
    unfold edgeA
    rw [if_neg (by omega), tnN, tnN, tnN]
  have hn := hG.2.1
  have hm := hG.2.2.1
  refine ⟨_, ok_areBounds hX (d + 2) h1 h2 h3, ?_⟩
  rintro _ I ⟨rfl, rfl⟩
  refine ⟨fun x => ⟨⟨by omega, by omega⟩, fun h => ?_, fun h => ?_⟩, fun x => rg_X10_edge_35 hV I _ _ _ _ _ _ (bad 2 (by decide) (by decide) (by rw [hA, if_neg (by rw [x]; decide)]))⟩
  · rw [hM.2.2.1] at h
    rw [if_pos x, if_neg (by omega)] at hA
    refine rg_X10_edge_55 hV I _ _ _ _ _ _ _ ⟨⟨by decide, by decide⟩, ?_⟩
    rintro J1 rfl
    rw [xu_same]
    refine ⟨fun _ => ⟨⟨by omega, by omega⟩, ?_⟩, fun w => absurd w (by decide)⟩
    rw [tnN, xu_p (by decide), hM.2.2.1]
    rintro x rfl
    rw [tn16]
    refine ⟨⟨by omega, by omega⟩, ⟨by omega, by omega⟩, ?_⟩
    rintro J2 h22
    refine ⟨⟨by omega, by omega⟩, ?_⟩
    rintro J3 h33
    refine ⟨h1, ?_⟩
    rintro J4 h44
    refine ⟨h2, ?_⟩
    rintro J5 h55
    refine ⟨h3, ?_⟩
    rintro J6 h66
    have c6 : J6 (1, 2) i9 = ((T.G i9).m : Int) := by rw [h66, xu_p (by decide), h55, xu_p (by decide), h44, xu_p (by decide), h33, xu_p (by decide), h22, xu_p (by decide), xu_p (by decide)]; exact hM.2.2.1
    rw [c6]
    refine ⟨⟨by omega, by omega⟩, ?_⟩
    rintro J7 h77
    have hsb : sameBut I J7 i9 := by
      rw [h77, h66, h55, h44, h33, h22]
      exact (((((((sameBut.rfl.w (by simp)).w (Or.inr (Or.inl ⟨by simp, _, by omega, rfl⟩))).w (Or.inr (Or.inl ⟨by simp, _, by omega, rfl⟩))).w (Or.inr (Or.inl ⟨by simp, _, by omega, rfl⟩))).w (Or.inr (Or.inl ⟨by simp, _, by omega, rfl⟩))).w (Or.inr (Or.inl ⟨by simp, _, by omega, rfl⟩))).w (by simp))
    have r1 : J7 (1, 1) = I (1, 1) := by rw [h77, xu_p (by decide), h66, xu_p (by decide), h55, xu_p (by decide), h44, xu_p (by decide), h33, xu_p (by decide), h22, xu_p (by decide), xu_p (by decide)]
    have r2 : J7 (1, 2) i9 = ((T.G i9).m : Int) + 1 := by rw [h77, xu_same]
    have r3 : J7 (1, 3) = upL (I (1, 3)) (16 * i9 + (T.G i9).m) s := by rw [h77, xu_p (by decide), h66, xu_p (by decide), h55, xu_p (by decide), h44, xu_p (by decide), h33, xu_p (by decide), h22, xuL, xu_p (by decide)]
    have r4 : J7 (1, 4) = upL (I (1, 4)) (16 * i9 + (T.G i9).m) t := by rw [h77, xu_p (by decide), h66, xu_p (by decide), h55, xu_p (by decide), h44, xu_p (by decide), h33, xuL, h22, xu_p (by decide), xu_p (by decide)]
    have r5 : J7 (1, 5) = upL (I (1, 5)) (16 * i9 + (T.G i9).m) lo := by rw [h77, xu_p (by decide), h66, xu_p (by decide), h55, xu_p (by decide), h44, xuL, h33, xu_p (by decide), h22, xu_p (by decide), xu_p (by decide)]
    have r6 : J7 (1, 6) = upL (I (1, 6)) (16 * i9 + (T.G i9).m) hi := by rw [h77, xu_p (by decide), h66, xu_p (by decide), h55, xuL, h44, xu_p (by decide), h33, xu_p (by decide), h22, xu_p (by decide), xu_p (by decide)]
    have r7 : J7 (1, 7) = upL (I (1, 7)) (16 * i9 + (T.G i9).m) co := by rw [h77, xu_p (by decide), h66, xuL, h55, xu_p (by decide), h44, xu_p (by decide), h33, xu_p (by decide), h22, xu_p (by decide), xu_p (by decide)]
    have r8 : J7 (1, 8) = I (1, 8) := by rw [h77, xu_p (by decide), h66, xu_p (by decide), h55, xu_p (by decide), h44, xu_p (by decide), h33, xu_p (by decide), h22, xu_p (by decide), xu_p (by decide)]
    have r32 : J7 (1, 0) 32 = 0 := by rw [h77, xu_p (by decide), h66, xu_p (by decide), h55, xu_p (by decide), h44, xu_p (by decide), h33, xu_p (by decide), h22, xu_p (by decide), xu_same]
    have kR : keepR I J7 := (keepM.thrown 0).R.tr (kp.R (by
      rw [h77, h66, h55, h44, h33, h22]
      exact (((((kp.rfl.xu (by simp [netP])).xu (by simp [netP])).xu (by simp [netP])).xu (by simp [netP])).xu (by simp [netP])).xu (by simp [netP])))
    refine ⟨kR, ?_, by rw [hA, r32, r2, show ((T.G i9).m : Int) + 1 - 1 = ((T.G i9).m : Int) by omega]⟩
    rw [hA]
    refine hI.put hT hiN hsb ⟨⟨hM.1, by rw [r1]; exact hM.2.1, by rw [r2]; rfl, fun e he => ?_⟩, fun e he => ?_, fun e he => ?_, fun x hx => by rw [r8]; exact hsu x hx⟩
    · have he : e < (T.G i9).m + 1 := he
      show J7 (1, 3) (16 * i9 + e) = (((if e = (T.G i9).m then s else (T.G i9).u e) : Nat) : Int) ∧ J7 (1, 4) (16 * i9 + e) = (((if e = (T.G i9).m then t else (T.G i9).v e) : Nat) : Int)
      rw [r3, r4]
      by_cases hem : e = (T.G i9).m
      · rw [if_pos hem, if_pos hem, hem, upL_s, upL_s]; exact ⟨rfl, rfl⟩
      · rw [if_neg hem, if_neg hem, upL_n (by omega), upL_n (by omega)]; exact hM.2.2.2 e (by omega)
    · have he : e < (T.G i9).m + 1 := he
      rw [r5, r6]
      by_cases hem : e = (T.G i9).m
      · rw [hem, upL_s, upL_s, upL_s, upL_s]; exact ⟨rfl, rfl⟩
      · rw [upL_n hem, upL_n hem, upL_n (by omega), upL_n (by omega)]; exact hMN e (by omega)
    · have he : e < (T.G i9).m + 1 := he
      rw [r7]
      by_cases hem : e = (T.G i9).m
      · rw [hem, upL_s, upL_s]
      · rw [upL_n hem, upL_n (by omega)]; exact hco e (by omega)
  · rw [hM.2.2.1] at h
    exact bad 3 (by decide) (by decide) (by rw [hA, if_pos x, if_pos (by omega)])
theorem ok_change (hX : xBase X) (d : Nat) (hT : NTok T) (hI : MI I T) (ha : xin a) (he : xin e) (h1 : xin lo) (h2 : xin hi) (h3 : xin co) : xRet rI X m_X10_change (d + 3) [xr (1, 0), xi a, xi e, xi lo, xi hi, xi co] c I 0 0 (fun v I9 => keepR I I9 ∧ MI I9 (changeA T a e lo hi co).2 ∧ (v, I9 (1, 0) 32) = (changeA T a e lo hi co).1) xNo := by
  have hW := hI.W hT
  refine xRet_of hX pl_X10_change (LE1 rfl) fun V hV => ?_
  have bad : ∀ w : Int, 0 < w → w ≤ 3 → changeA T a e lo hi co = ((0, w), T) → V 38 [(0, xr (1, 0)), (1, xi a), (2, xi e), (3, xi lo), (4, xi hi), (5, xi co)] [xi w, xr (1, 0)] (I, xst c) 0 0 := fun w w0 w3 hA => rg_X10_change_38 hV I _ _ _ _ _ _ ⟨⟨by omega, by omega⟩, by
    rintro J rfl
    rw [xu_same]
    exact ⟨fun h => by omega, fun _ => ⟨(keepM.thrown _).R, by rw [hA]; exact hI.keep (keepM.thrown _), by rw [hA]⟩⟩⟩
  refine rg_X10_change_0 hV I _ _ _ _ _ ⟨_, ok_isNet hX (d + 1) hW ha, ?_⟩
  rintro _ I ⟨rfl, rfl⟩
  have hN : I (1, 0) 0 = (T.N : Int) := hI.1
  rw [hN]
  refine ⟨fun z => rg_X10_change_18 hV I _ _ _ _ _ (bad 1 (by decide) (by decide) (by unfold changeA wrong1E; rw [z]; rfl)), fun z => ?_⟩
  have hz := inB_t z
  obtain ⟨i, rfl⟩ := Int.eq_ofNat_of_zero_le hz.1
  have hiN : i < T.N := by omega
  have hN4 := hT.1
  obtain ⟨hM, hMN, hco, hsu⟩ := hI.net hiN
  obtain ⟨hG, hB, hS⟩ := hT.2 i hiN
  refine ⟨_, ok_isEdge hX (d + 1) hW ⟨by omega, by omega⟩ he, ?_⟩
  rintro _ I ⟨rfl, rfl⟩
  rw [tnN, hM.2.2.1]
  refine ⟨fun y => ?_, fun y => rg_X10_change_18 hV I _ _ _ _ _ (bad 1 (by decide) (by decide) (by unfold changeA wrong1E; rw [z, tnN, y]; rfl))⟩
  have hw : wrong1E T (i : Int) e = 0 := by unfold wrong1E; rw [z, tnN, y]; rfl
  have hy := inB_t y
  obtain ⟨e, rfl⟩ := Int.eq_ofNat_of_zero_le hy.1
  have hA : changeA T (i : Int) (e : Int) lo hi co = if okB lo hi co then ((T.hi i e, 0), T.put i (T.G i) (upL (T.lo i) e lo) (upL (T.hi i) e hi) (upL (T.co i) e co) (T.su i)) else ((0, 2), T) := by
    unfold changeA
    rw [if_neg (by omega), tnN, tnN]
  have hm := hG.2.2.1
  have he9 : e < (T.G i).m := by omega
  refine ⟨_, ok_areBounds hX (d + 1) h1 h2 h3, ?_⟩
  rintro _ I ⟨rfl, rfl⟩
  refine ⟨fun x => ?_, fun x => bad 2 (by decide) (by decide) (by rw [hA, if_neg (by rw [x]; decide)])⟩
  rw [if_pos x] at hA
  refine rg_X10_change_38 hV I _ _ _ _ _ _ ⟨⟨by decide, by decide⟩, ?_⟩
  rintro J1 rfl
  rw [xu_same]
  refine ⟨fun _ => ?_, fun w => absurd w (by decide)⟩
  rintro x rfl
  rw [tn16]
  refine ⟨⟨by omega, by omega⟩, ?_⟩
  rintro v hv
  refine ⟨h1, ?_⟩
  rintro J4 h44
  refine ⟨h2, ?_⟩
  rintro J5 h55
  refine ⟨h3, ?_⟩
  rintro J6 h66
  have hsb : sameBut I J6 i := by
    rw [h66, h55, h44]
    exact (((sameBut.rfl.w (by simp)).w (Or.inr (Or.inl ⟨by simp, _, by omega, rfl⟩))).w (Or.inr (Or.inl ⟨by simp, _, by omega, rfl⟩))).w (Or.inr (Or.inl ⟨by simp, _, by omega, rfl⟩))
  have r : ∀ j, 1 ≤ j → (j ≤ 4 ∨ j = 8) → J6 (1, j) = I (1, j) := fun j a b => by rw [h66, xu_p (by simp; omega), h55, xu_p (by simp; omega), h44, xu_p (by simp; omega), xu_p (by simp; omega)]
  have r5 : J6 (1, 5) = upL (I (1, 5)) (16 * i + e) lo := by rw [h66, xu_p (by decide), h55, xu_p (by decide), h44, xuL, xu_p (by decide)]
  have r6 : J6 (1, 6) = upL (I (1, 6)) (16 * i + e) hi := by rw [h66, xu_p (by decide), h55, xuL, h44, xu_p (by decide), xu_p (by decide)]
  have r7 : J6 (1, 7) = upL (I (1, 7)) (16 * i + e) co := by rw [h66, xuL, h55, xu_p (by decide), h44, xu_p (by decide), xu_p (by decide)]
  have r32 : J6 (1, 0) 32 = 0 := by rw [h66, xu_p (by decide), h55, xu_p (by decide), h44, xu_p (by decide), xu_same]
  have kR : keepR I J6 := (keepM.thrown 0).R.tr (kp.R (by
    rw [h66, h55, h44]
    exact ((kp.rfl.xu (by simp [netP])).xu (by simp [netP])).xu (by simp [netP])))
  refine ⟨kR, ?_, by rw [hA, r32, hv, xu_p (by decide), (hMN e he9).2]⟩
  rw [hA]
  refine hI.put hT hiN hsb ⟨⟨hM.1, by rw [r 1 (by decide) (by decide)]; exact hM.2.1, by rw [r 2 (by decide) (by decide)]; exact hM.2.2.1, fun k hk => by rw [r 3 (by decide) (by decide), r 4 (by decide) (by decide)]; exact hM.2.2.2 k hk⟩, fun k hk => ?_, fun k hk => ?_, fun x hx => by rw [r 8 (by decide) (by decide)]; exact hsu x hx⟩
  · rw [r5, r6]
    by_cases hke : k = e
    · rw [hke, upL_s, upL_s, upL_s, upL_s]; exact ⟨rfl, rfl⟩
    · rw [upL_n hke, upL_n hke, upL_n (by omega), upL_n (by omega)]; exact hMN k hk
  · rw [r7]
    by_cases hke : k = e
    · rw [hke, upL_s, upL_s]
    · rw [upL_n hke, upL_n (by omega)]; exact hco k hk
theorem ok_edges (hX : xBase X) (d : Nat) (hT : NTok T) (hI : MI I T) (ha : xin a) : xRet rI X m_X10_edges (d + 2) [xr (1, 0), xi a] c I 0 0 (fun v I9 => keepM I I9 ∧ (v, I9 (1, 0) 32) = edgesA T a) xNo := by
  have hW := hI.W hT
  have hN : I (1, 0) 0 = (T.N : Int) := hI.1
  refine xRet_of hX pl_X10_edges (LE1 rfl) fun V hV => rg_X10_edges_0 hV I _ ⟨_, ok_isNet hX d hW ha, ?_⟩
  rintro _ I ⟨rfl, rfl⟩
  rw [hN]
  refine ⟨fun z => ?_, fun z => ?_⟩
  · have hz := inB_t z
    obtain ⟨i, rfl⟩ := Int.eq_ofNat_of_zero_le hz.1
    have hiN : i < T.N := by omega
    have hN4 := hT.1
    refine rg_X10_edges_14 hV I _ _ ⟨⟨by decide, by decide⟩, ?_⟩
    rintro J rfl
    rw [xu_same]
    refine ⟨fun _ => ⟨⟨by omega, by omega⟩, keepM.thrown _, ?_⟩, fun w => absurd w (by decide)⟩
    unfold edgesA
    rw [wE_0 (by unfold wrong1; rw [z]; rfl), xu_p (by decide), tnN, (hI.net hiN).1.2.2.1]
  · refine rg_X10_edges_14 hV I _ _ ⟨⟨by decide, by decide⟩, ?_⟩
    rintro J rfl
    rw [xu_same]
    refine ⟨fun w => absurd w (by decide), fun _ => ⟨keepM.thrown _, ?_⟩⟩
    have hw : wrong1 T a = 1 := by unfold wrong1; rw [z]; rfl
    unfold edgesA
    rw [wE_p (by omega), hw]
theorem ok_supply (hX : xBase X) (d : Nat) (hT : NTok T) (hI : MI I T) (ha : xin a) (he : xin e) {v : Int} (h1 : xin v) : xRet rI X m_X10_supply (d + 3) [xr (1, 0), xi a, xi e, xi v] c I 0 0 (fun w I9 => keepR I I9 ∧ MI I9 (supplyA T a e v).2 ∧ (w, I9 (1, 0) 32) = (supplyA T a e v).1) xNo := by
  have hW := hI.W hT
  refine xRet_of hX pl_X10_supply (LE1 rfl) fun V hV => ?_
  have bad : ∀ w : Int, 0 < w → w ≤ 3 → supplyA T a e v = ((0, w), T) → V 38 [(0, xr (1, 0)), (1, xi a), (2, xi e), (3, xi v)] [xi w, xr (1, 0)] (I, xst c) 0 0 := fun w w0 w3 hA => rg_X10_supply_38 hV I _ _ _ _ ⟨⟨by omega, by omega⟩, by
    rintro J rfl
    rw [xu_same]
    exact ⟨fun h => by omega, fun _ => ⟨(keepM.thrown _).R, by rw [hA]; exact hI.keep (keepM.thrown _), by rw [hA]⟩⟩⟩
  refine rg_X10_supply_0 hV I _ _ _ ⟨_, ok_isNet hX (d + 1) hW ha, ?_⟩
  rintro _ I ⟨rfl, rfl⟩
  have hN : I (1, 0) 0 = (T.N : Int) := hI.1
  rw [hN]
  refine ⟨fun z => rg_X10_supply_18 hV I _ _ _ (bad 1 (by decide) (by decide) (by unfold supplyA wrong1C; rw [z]; rfl)), fun z => ?_⟩
  have hz := inB_t z
  obtain ⟨i, rfl⟩ := Int.eq_ofNat_of_zero_le hz.1
  have hiN : i < T.N := by omega
  have hN4 := hT.1
  obtain ⟨hM, hMN, hco, hsu⟩ := hI.net hiN
  obtain ⟨hG, hB, hS⟩ := hT.2 i hiN
  refine ⟨_, ok_isCorner hX (d + 1) hW ⟨by omega, by omega⟩ he, ?_⟩
  rintro _ I ⟨rfl, rfl⟩
  rw [tnN, hM.2.1]
  refine ⟨fun y => ?_, fun y => rg_X10_supply_18 hV I _ _ _ (bad 1 (by decide) (by decide) (by unfold supplyA wrong1C; rw [z, tnN, y]; rfl))⟩
  have hw : wrong1C T (i : Int) e = 0 := by unfold wrong1C; rw [z, tnN, y]; rfl
  have hy := inB_t y
  obtain ⟨x, rfl⟩ := Int.eq_ofNat_of_zero_le hy.1
  have hA : supplyA T (i : Int) (x : Int) v = if -99 ≤ v ∧ v ≤ 99 then ((T.su i x, 0), T.put i (T.G i) (T.lo i) (T.hi i) (T.co i) (upL (T.su i) x v)) else ((0, 2), T) := by
    unfold supplyA
    rw [if_neg (by omega), tnN, tnN]
  have hn := hG.2.1
  have hx9 : x < (T.G i).n := by omega
  refine ⟨_, ok_in hX (d + 2) h1 ⟨by decide, by decide⟩ ⟨by decide, by decide⟩, ?_⟩
  rintro _ I ⟨rfl, rfl⟩
  refine ⟨fun w => ?_, fun w => bad 2 (by decide) (by decide) (by rw [hA, if_neg (of_decide_eq_false w)])⟩
  rw [if_pos (of_decide_eq_true w)] at hA
  have tn8 : Int.toNat (8 * (i : Int) + (x : Int)) = 8 * i + x := by omega
  refine rg_X10_supply_38 hV I _ _ _ _ ⟨⟨by decide, by decide⟩, ?_⟩
  rintro J1 rfl
  rw [xu_same, tn8]
  refine ⟨fun _ => ⟨⟨by omega, by omega⟩, ?_⟩, fun w => absurd w (by decide)⟩
  rintro w2 hw2
  refine ⟨h1, ?_⟩
  rintro J6 h66
  have hsb : sameBut I J6 i := by
    rw [h66]
    exact (sameBut.rfl.w (by simp)).w (Or.inr (Or.inr (Or.inl ⟨rfl, _, by omega, rfl⟩)))
  have r : ∀ j, 1 ≤ j → j ≤ 7 → J6 (1, j) = I (1, j) := fun j a b => by rw [h66, xu_p (by simp; omega), xu_p (by simp; omega)]
  have r8 : J6 (1, 8) = upL (I (1, 8)) (8 * i + x) v := by rw [h66, xuL, xu_p (by decide)]
  have r32 : J6 (1, 0) 32 = 0 := by rw [h66, xu_p (by decide), xu_same]
  have kR : keepR I J6 := (keepM.thrown 0).R.tr (kp.R (by
    rw [h66]
    exact kp.rfl.xu (by simp [netP])))
  refine ⟨kR, ?_, by rw [hA, r32, hw2, xu_p (by decide), hsu x hx9]⟩
  rw [hA]
  refine hI.put hT hiN hsb ⟨⟨hM.1, by rw [r 1 (by decide) (by decide)]; exact hM.2.1, by rw [r 2 (by decide) (by decide)]; exact hM.2.2.1, fun k hk => by rw [r 3 (by decide) (by decide), r 4 (by decide) (by decide)]; exact hM.2.2.2 k hk⟩, fun k hk => by rw [r 5 (by decide) (by decide), r 6 (by decide) (by decide)]; exact hMN k hk, fun k hk => by rw [r 7 (by decide) (by decide)]; exact hco k hk, fun y hy => ?_⟩
  rw [r8]
  by_cases hyx : y = x
  · rw [hyx, upL_s, upL_s]
  · rw [upL_n hyx, upL_n (by omega)]; exact hsu y hy
end MNM
