/-! the reference drops an edge; sums of all -/
theorem mvL_off (f : Nat → Int) (b e m k : Nat) : mvL f (b + e) (b + m) (b + k) = mvL (fun j => f (b + j)) e m k := by
  unfold mvL
  by_cases h : e ≤ k ∧ k + 1 < m
  · rw [if_pos h, if_pos (by omega)]; rfl
  · rw [if_neg h, if_neg (by omega)]
section MND
variable {X : xX} {c : xCx} {I : xIn} {T : NT} {a e : Int}
theorem ok_drop (hX : xBase X) (d : Nat) (hT : NTok T) (hI : MI I T) (ha : xin a) (he : xin e) : xRet rI X m_X10_drop (d + 2) [xr (1, 0), xi a, xi e] c I 0 0 (fun v I9 => keepR I I9 ∧ MI I9 (dropA T a e).2 ∧ (v, I9 (1, 0) 32) = (dropA T a e).1) xNo := by
  have hW := hI.W hT
  refine xRet_of hX pl_X10_drop (LE1 rfl) fun V hV => ?_
  have bad : ∀ w : Int, 0 < w → w ≤ 3 → dropA T a e = ((0, w), T) → V 23 [(0, xr (1, 0)), (1, xi a), (2, xi e)] [xi w, xr (1, 0)] (I, xst c) 0 0 := fun w w0 w3 hA => rg_X10_drop_23 hV I _ _ _ ⟨⟨by omega, by omega⟩, by
    rintro J rfl
    rw [xu_same]
    exact ⟨fun h => by omega, fun _ => ⟨(keepM.thrown _).R, by rw [hA]; exact hI.keep (keepM.thrown _), by rw [hA]⟩⟩⟩
  refine rg_X10_drop_0 hV I _ _ ⟨_, ok_isNet hX d hW ha, ?_⟩
  rintro _ I ⟨rfl, rfl⟩
  have hN : I (1, 0) 0 = (T.N : Int) := hI.1
  rw [hN]
  refine ⟨fun z => rg_X10_drop_18 hV I _ _ (bad 1 (by decide) (by decide) (by unfold dropA wrong1E; rw [z]; rfl)), fun z => ?_⟩
  have hz := inB_t z
  obtain ⟨i, rfl⟩ := Int.eq_ofNat_of_zero_le hz.1
  have hiN : i < T.N := by omega
  have hN4 := hT.1
  obtain ⟨hM, hMN, hco, hsu⟩ := hI.net hiN
  obtain ⟨hG, hB, hS⟩ := hT.2 i hiN
  refine ⟨_, ok_isEdge hX d hW ⟨by omega, by omega⟩ he, ?_⟩
  rintro _ I ⟨rfl, rfl⟩
  rw [tnN, hM.2.2.1]
  refine ⟨fun y => ?_, fun y => rg_X10_drop_18 hV I _ _ (bad 1 (by decide) (by decide) (by unfold dropA wrong1E; rw [z, tnN, y]; rfl))⟩
  have hw : wrong1E T (i : Int) e = 0 := by unfold wrong1E; rw [z, tnN, y]; rfl
  have hy := inB_t y
  obtain ⟨e, rfl⟩ := Int.eq_ofNat_of_zero_le hy.1
  have hA : dropA T (i : Int) (e : Int) = ((((T.G i).m : Int) - 1, 0), T.put i (dropG (T.G i) e) (outN (T.lo i) e) (outN (T.hi i) e) (outN (T.co i) e) (T.su i)) := by
    unfold dropA
    rw [if_neg (by omega), tnN, tnN]
  have hm := hG.2.2.1
  have he9 : e < (T.G i).m := by omega
  refine rg_X10_drop_23 hV I _ _ _ ⟨⟨by decide, by decide⟩, ?_⟩
  rintro J1 h1
  have j32 : J1 (1, 0) 32 = 0 := by rw [h1, xu_same]
  have k1 : keepM I J1 := by rw [h1]; exact keepM.thrown _
  clear h1
  rw [j32]
  refine ⟨fun _ => ?_, fun w => absurd w (by decide)⟩
  rintro x rfl
  have hJ := hI.keep k1
  obtain ⟨hM1, hMN1, hco1, hsu1⟩ := hJ.net hiN
  have loop := up_to (m := (T.G i).m) (W := fun k => e < k → ∀ J : xIn, kp [(1, 3), (1, 4), (1, 5), (1, 6), (1, 7)] J1 J → (∀ j, 3 ≤ j → j ≤ 7 → J (1, j) = mvL (J1 (1, j)) (16 * i + e) (16 * i + k)) → V 42 [(0, xr (1, 0)), (1, xi (i : Int)), (3, xi (16 * (i : Int) + (k : Int) - 1))] [] (J, xst c) 0 0) ?_ ?_ (e + 1) (by omega) (by omega) J1 kp.rfl (fun j _ _ => (mvL_0 _ _).symm)
  · rw [show 16 * (i : Int) + ((e + 1 : Nat) : Int) - 1 = 16 * (i : Int) + (e : Int) by omega] at loop
    exact loop
  · intro hem J kk k2
    have q2 : J (1, 2) i = ((T.G i).m : Int) := by rw [kk _ (by decide)]; exact hM1.2.2.1
    refine rg_X10_drop_42 hV J _ _ ⟨⟨by omega, by omega⟩, ⟨by omega, by omega⟩, ?_⟩
    rw [tnN, q2]
    refine ⟨⟨by omega, by omega⟩, fun _ => ⟨⟨by omega, by omega⟩, ?_⟩, fun h => by omega⟩
    rintro J2 h2
    have r : ∀ j, 3 ≤ j → j ≤ 7 → J2 (1, j) = mvL (J1 (1, j)) (16 * i + e) (16 * i + (T.G i).m) := fun j a b => by rw [h2, xu_p (by simp; omega)]; exact k2 j a b
    have r2 : J2 (1, 2) = upL (J1 (1, 2)) i (((T.G i).m : Int) - 1) := by rw [h2, xuL, kk _ (by decide)]
    have r1 : J2 (1, 1) = J1 (1, 1) := by rw [h2, xu_p (by decide), kk _ (by decide)]
    have r8 : J2 (1, 8) = J1 (1, 8) := by rw [h2, xu_p (by decide), kk _ (by decide)]
    have r0 : J2 (1, 0) = J1 (1, 0) := by rw [h2, xu_p (by decide), kk _ (by decide)]
    have kN : kp netP J1 J2 := by rw [h2]; exact (kk.mo (by simp [netP])).xu (by simp [netP])
    have hsb : sameBut J1 J2 i := by
      refine ⟨by rw [r0], fun j hj hji => ⟨by rw [r1], by rw [r2, upL_n hji], fun k hk => ?_, fun x _ => by rw [r8]⟩⟩
      have hm9 : ∀ f : Nat → Int, mvL f (16 * i + e) (16 * i + (T.G i).m) (16 * j + k) = f (16 * j + k) := fun f => if_neg (by omega)
      rw [r 3 (by decide) (by decide), r 4 (by decide) (by decide), r 5 (by decide) (by decide), r 6 (by decide) (by decide), r 7 (by decide) (by decide), hm9, hm9, hm9, hm9, hm9]
      exact ⟨rfl, rfl, rfl, rfl, rfl⟩
    refine ⟨k1.R.tr (kp.R kN), ?_, by rw [hA, r0, j32, r2, upL_s]⟩
    rw [hA]
    refine hJ.put hT hiN hsb ⟨⟨hM1.1, by rw [r1]; exact hM1.2.1, by rw [r2, upL_s]; show ((T.G i).m : Int) - 1 = (((T.G i).m - 1 : Nat) : Int); omega, fun k hk => ?_⟩, fun k hk => ?_, fun k hk => ?_, fun x hx => by rw [r8]; exact hsu1 x hx⟩
    · have hk : k < (T.G i).m - 1 := hk
      rw [r 3 (by decide) (by decide), r 4 (by decide) (by decide), mvL_off, mvL_off]
      exact ⟨mvL_out (fun x : Nat => (x : Int)) (T.G i).u _ e _ k (fun j hj => (hM1.2.2.2 j hj).1) hk, mvL_out (fun x : Nat => (x : Int)) (T.G i).v _ e _ k (fun j hj => (hM1.2.2.2 j hj).2) hk⟩
    · have hk : k < (T.G i).m - 1 := hk
      rw [r 5 (by decide) (by decide), r 6 (by decide) (by decide), mvL_off, mvL_off]
      exact ⟨mvL_out (fun x : Int => x) (T.lo i) _ e _ k (fun j hj => (hMN1 j hj).1) hk, mvL_out (fun x : Int => x) (T.hi i) _ e _ k (fun j hj => (hMN1 j hj).2) hk⟩
    · have hk : k < (T.G i).m - 1 := hk
      rw [r 7 (by decide) (by decide), mvL_off]
      exact mvL_out (fun x : Int => x) (T.co i) _ e _ k (fun j hj => hco1 j hj) hk
  · intro k hk ih hek J kk k2
    have q2 : J (1, 2) i = ((T.G i).m : Int) := by rw [kk _ (by decide)]; exact hM1.2.2.1
    refine rg_X10_drop_42 hV J _ _ ⟨⟨by omega, by omega⟩, ⟨by omega, by omega⟩, ?_⟩
    rw [tnN, q2]
    refine ⟨⟨by omega, by omega⟩, fun h => by omega, fun _ => ⟨⟨by omega, by omega⟩, ⟨by omega, by omega⟩, ?_⟩⟩
    rw [show 16 * (i : Int) + (k : Int) - 1 + 1 = 16 * (i : Int) + (k : Int) by omega, tn16, show Int.toNat (16 * (i : Int) + (k : Int) - 1) = 16 * i + k - 1 by omega]
    rintro A3 h3 A4 h4 A5 h5 A6 h6 A7 h7
    have e3 : A7 (1, 3) = mvL (J1 (1, 3)) (16 * i + e) (16 * i + k + 1) := by rw [h7, xu_p (by decide), h6, xu_p (by decide), h5, xu_p (by decide), h4, xu_p (by decide), h3, xuL, k2 3 (by decide) (by decide), mvL_s _ _ _ (by omega)]
    have e4 : A7 (1, 4) = mvL (J1 (1, 4)) (16 * i + e) (16 * i + k + 1) := by rw [h7, xu_p (by decide), h6, xu_p (by decide), h5, xu_p (by decide), h4, xuL, h3, xu_p (by decide), k2 4 (by decide) (by decide), mvL_s _ _ _ (by omega)]
    have e5 : A7 (1, 5) = mvL (J1 (1, 5)) (16 * i + e) (16 * i + k + 1) := by rw [h7, xu_p (by decide), h6, xu_p (by decide), h5, xuL, h4, xu_p (by decide), h3, xu_p (by decide), k2 5 (by decide) (by decide), mvL_s _ _ _ (by omega)]
    have e6 : A7 (1, 6) = mvL (J1 (1, 6)) (16 * i + e) (16 * i + k + 1) := by rw [h7, xu_p (by decide), h6, xuL, h5, xu_p (by decide), h4, xu_p (by decide), h3, xu_p (by decide), k2 6 (by decide) (by decide), mvL_s _ _ _ (by omega)]
    have e7 : A7 (1, 7) = mvL (J1 (1, 7)) (16 * i + e) (16 * i + k + 1) := by rw [h7, xuL, h6, xu_p (by decide), h5, xu_p (by decide), h4, xu_p (by decide), h3, xu_p (by decide), k2 7 (by decide) (by decide), mvL_s _ _ _ (by omega)]
    have kA : kp [(1, 3), (1, 4), (1, 5), (1, 6), (1, 7)] J1 A7 := by rw [h7, h6, h5, h4, h3]; exact ((((kk.xu (by simp)).xu (by simp)).xu (by simp)).xu (by simp)).xu (by simp)
    clear h3 h4 h5 h6 h7
    have ih := ih (by omega) A7 kA (fun j a b => by
      have hj : j = 3 ∨ j = 4 ∨ j = 5 ∨ j = 6 ∨ j = 7 := by omega
      rcases hj with rfl | rfl | rfl | rfl | rfl
      · exact e3
      · exact e4
      · exact e5
      · exact e6
      · exact e7)
    rw [show 16 * (i : Int) + ((k + 1 : Nat) : Int) - 1 = 16 * (i : Int) + (k : Int) by omega] at ih
    exact ih
end MND
/-! sums of all -/
def ckE (u v : Nat → Nat) (lo hi co : Nat → Int) : Nat → Int64
  | 0 => 7
  | k + 1 => ((((ckE u v lo hi co k * 31 + (Int32.ofInt (u k : Int)).toInt64) * 31 + (Int32.ofInt (v k : Int)).toInt64) * 31 + (Int32.ofInt (lo k)).toInt64) * 31 + (Int32.ofInt (hi k)).toInt64) * 31 + (Int32.ofInt (co k)).toInt64
def ckS (z : Int64) (su : Nat → Int) : Nat → Int64
  | 0 => z
  | k + 1 => ckS z su k * 31 + (Int32.ofInt (su k)).toInt64
def sumA (T : NT) (a : Int) : Int64 × Int := wE 0 (wrong1 T a) (ckS (ckE (T.G (Int.toNat a)).u (T.G (Int.toNat a)).v (T.lo (Int.toNat a)) (T.hi (Int.toNat a)) (T.co (Int.toNat a)) (T.G (Int.toNat a)).m) (T.su (Int.toNat a)) (T.G (Int.toNat a)).n, 0)
section CKS
variable {X : xX} {c : xCx} {I : xIn} {T : NT} {a : Int}
theorem cn_checksum (hX : xBase X) (d : Nat) (hT : NTok T) (hI : CI I c T) (ha : xin a) : xRet rL X m_X9_checksum (d + 8) [xr (0, 0), xi a] c I 1 6 (fun v I9 => I9 = I ∧ (v, 0) = sumA T a) (fun x I9 => I9 = I ∧ exL [xIOB] x (sumA T a).2) := by
  have hwc := wrong1_c T a
  unfold sumA
  refine xRet_of hX pl_X9_checksum (LE1 rfl) fun V hV => rg_X9_checksum_0 hV I _ (go_net hX d hT hI ha (fun x hx hw => ⟨rfl, by rw [wE_p hw]; exact hx.l1 (by omega)⟩) ?_)
  rintro i rfl hi9 hC hw
  rw [wE_0 hw, tnN]
  obtain ⟨-, n2, n3⟩ := hI.net hi9
  have hG := hC.2.2.2.1
  have hn := hG.2.1
  have hm := hG.2.2.1
  refine ⟨pv (ckS (ckE (T.G i).u (T.G i).v (T.lo i) (T.hi i) (T.co i) (T.G i).m) (T.su i) (T.G i).n) I, ?_, ?_⟩
  · refine xRet_of hX pl_X3_sumOfAll (LE1 rfl) fun V hV => rg_X3_sumOfAll_0 hV I _ hC.1 ?_
    refine up_to0 (m := (T.G i).m) (W := fun k => V 6 [(0, xr (i + 3, 0)), (1, xl (ckE (T.G i).u (T.G i).v (T.lo i) (T.hi i) (T.co i) k)), (3, xi (k : Int))] [] (I, xst c) 0 0) ?_ ?_
    · refine rg_X3_sumOfAll_6 hV I _ hC.1 _ _ ⟨⟨by omega, by omega⟩, fun _ => ?_, fun h => by rw [hC.2.2.1] at h; omega⟩
      refine up_to0 (m := (T.G i).n) (W := fun k => V 92 [(0, xr (i + 3, 0)), (1, xl (ckS (ckE (T.G i).u (T.G i).v (T.lo i) (T.hi i) (T.co i) (T.G i).m) (T.su i) k)), (3, xi (k : Int))] [] (I, xst c) 0 0) ?_ ?_
      · exact rg_X3_sumOfAll_92 hV I _ hC.1 _ _ ⟨⟨by omega, by omega⟩, fun _ => pvI rfl, fun h => by rw [hC.2.1] at h; omega⟩
      · intro k hk ih
        refine rg_X3_sumOfAll_92 hV I _ hC.1 _ _ ⟨⟨by omega, by omega⟩, fun h => by rw [hC.2.1] at h; omega, fun _ => ⟨⟨by omega, by omega⟩, ?_⟩⟩
        rw [tnN, n3 k hk]
        exact ih
    · intro k hk ih
      refine rg_X3_sumOfAll_6 hV I _ hC.1 _ _ ⟨⟨by omega, by omega⟩, fun h => by rw [hC.2.2.1] at h; omega, fun _ => ⟨⟨by omega, by omega⟩, ?_⟩⟩
      rw [tnN, (hC.2.2.2.2 k hk).1, (hC.2.2.2.2 k hk).2, (n2 k hk).1, (n2 k hk).2.1, (n2 k hk).2.2]
      exact ih
  · rintro v J ⟨rfl, rfl⟩
    exact ⟨rfl, rfl⟩
theorem ok_checksum (hX : xBase X) (d : Nat) (hT : NTok T) (hI : MI I T) (ha : xin a) : xRet rL X m_X10_checksum (d + 2) [xr (1, 0), xi a] c I 0 0 (fun v I9 => keepM I I9 ∧ (v, I9 (1, 0) 32) = sumA T a) xNo := by
  have hW := hI.W hT
  have hN : I (1, 0) 0 = (T.N : Int) := hI.1
  refine xRet_of hX pl_X10_checksum (LE1 rfl) fun V hV => rg_X10_checksum_0 hV I _ ⟨_, ok_isNet hX d hW ha, ?_⟩
  rintro _ I ⟨rfl, rfl⟩
  rw [hN]
  refine ⟨fun z => ?_, fun z => ?_⟩
  · have hz := inB_t z
    obtain ⟨i, rfl⟩ := Int.eq_ofNat_of_zero_le hz.1
    have hiN : i < T.N := by omega
    have hN4 := hT.1
    refine rg_X10_checksum_14 hV I _ _ ⟨⟨by decide, by decide⟩, ?_⟩
    rintro J h1
    have j32 : J (1, 0) 32 = 0 := by rw [h1, xu_same]
    have k1 : keepM I J := by rw [h1]; exact keepM.thrown _
    clear h1
    rw [j32]
    refine ⟨fun _ => ?_, fun w => absurd w (by decide)⟩
    obtain ⟨hM, hMN, hco, hsu⟩ := (hI.keep k1).net hiN
    have hG := (hT.2 i hiN).1
    have hn := hG.2.1
    have hm := hG.2.2.1
    have hA : sumA T (i : Int) = (ckS (ckE (T.G i).u (T.G i).v (T.lo i) (T.hi i) (T.co i) (T.G i).m) (T.su i) (T.G i).n, 0) := by
      unfold sumA
      rw [wE_0 (by unfold wrong1; rw [z]; rfl), tnN]
    refine up_to0 (m := (T.G i).m) (W := fun k => V 36 [(0, xr (1, 0)), (1, xi (i : Int)), (2, xl (ckE (T.G i).u (T.G i).v (T.lo i) (T.hi i) (T.co i) k)), (4, xi (16 * (i : Int) + (k : Int)))] [] (J, xst c) 0 0) ?_ ?_ |> fun w => by rw [show 16 * (i : Int) + ((0 : Nat) : Int) = 16 * (i : Int) by omega] at w; exact w
    · refine rg_X10_checksum_36 hV J _ _ _ ⟨⟨by omega, by omega⟩, ⟨by omega, by omega⟩, ?_⟩
      rw [tnN, hM.2.2.1]
      refine ⟨⟨by omega, by omega⟩, fun _ => ?_, fun h => by omega⟩
      refine up_to0 (m := (T.G i).n) (W := fun k => V 136 [(0, xr (1, 0)), (1, xi (i : Int)), (2, xl (ckS (ckE (T.G i).u (T.G i).v (T.lo i) (T.hi i) (T.co i) (T.G i).m) (T.su i) k)), (4, xi (k : Int))] [] (J, xst c) 0 0) ?_ ?_
      · refine rg_X10_checksum_136 hV J _ _ _ ⟨⟨by omega, by omega⟩, ⟨by omega, by omega⟩, fun _ => ⟨k1, by rw [hA, j32]⟩, fun h => ?_⟩
        rw [tnN, hM.2.1] at h; omega
      · intro k hk ih
        have tn8 : Int.toNat (8 * (i : Int) + (k : Int)) = 8 * i + k := by omega
        refine rg_X10_checksum_136 hV J _ _ _ ⟨⟨by omega, by omega⟩, ⟨by omega, by omega⟩, fun h => ?_, fun _ => ⟨⟨by omega, by omega⟩, ?_⟩⟩
        · rw [tnN, hM.2.1] at h; omega
        · rw [ckS] at ih
          rw [tn8, hsu k hk, Int64.mul_comm]
          exact ih
    · intro k hk ih
      refine rg_X10_checksum_36 hV J _ _ _ ⟨⟨by omega, by omega⟩, ⟨by omega, by omega⟩, ?_⟩
      rw [tnN, hM.2.2.1]
      refine ⟨⟨by omega, by omega⟩, fun h => by omega, fun _ => ⟨⟨by omega, by omega⟩, ?_⟩⟩
      rw [ckE, show 16 * (i : Int) + ((k + 1 : Nat) : Int) = 16 * (i : Int) + (k : Int) + 1 by omega] at ih
      have hu := hM.2.2.2 k hk
      have hl := hMN k hk
      have hc := hco k hk
      rw [tn16, hu.1, hu.2, hl.1, hl.2, hc, Int64.mul_comm 31, Int64.mul_comm 31, Int64.mul_comm 31, Int64.mul_comm 31, Int64.mul_comm 31]
      exact ih
  · refine rg_X10_checksum_14 hV I _ _ ⟨⟨by decide, by decide⟩, ?_⟩
    rintro J rfl
    rw [xu_same]
    refine ⟨fun w => absurd w (by decide), fun _ => ⟨keepM.thrown _, ?_⟩⟩
    have hw : wrong1 T a = 1 := by unfold wrong1; rw [z]; rfl
    unfold sumA
    rw [wE_p (by omega), hw]
    rfl
end CKS
