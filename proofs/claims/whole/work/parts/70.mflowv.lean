/-! the reference's flow -/
def wrongET (T : NT) (a s t e : Int) : Int := if inB a T.N then (if inB e (T.G (Int.toNat a)).m then (if twoB (T.G (Int.toNat a)).n s t then 0 else 2) else 1) else 1
theorem wrongE_T {I : xIn} {T : NT} (h : MI I T) (a s t e : Int) : wrongEV I a s t e = wrongET T a s t e := by
  unfold wrongEV wrongET
  rw [h.1]
  by_cases ha : inB a (T.N : Int) = true
  · have := inB_t ha
    obtain ⟨⟨-, a1, a2, -⟩, -⟩ := h.2.2 (Int.toNat a) (by omega)
    rw [if_pos ha, if_pos ha, a1, a2]
  · rw [if_neg ha, if_neg ha]
theorem wrongE_c (T : NT) (a s t e : Int) : wrongET T a s t e = 0 ∨ wrongET T a s t e = 1 ∨ wrongET T a s t e = 2 := by
  unfold wrongET
  split
  · split
    · split
      · exact Or.inl rfl
      · exact Or.inr (Or.inr rfl)
    · exact Or.inr (Or.inl rfl)
  · exact Or.inr (Or.inl rfl)
theorem wrongE_0 {T : NT} {a s t e : Int} (h : wrongET T a s t e ≤ 0) : ∃ i s9 t9 e9 : Nat, a = i ∧ s = s9 ∧ t = t9 ∧ e = e9 ∧ i < T.N ∧ s9 < (T.G i).n ∧ t9 < (T.G i).n ∧ s9 ≠ t9 ∧ e9 < (T.G i).m := by
  unfold wrongET at h
  by_cases ha : inB a (T.N : Int) = true
  · rw [if_pos ha] at h
    by_cases hb : inB e ((T.G (Int.toNat a)).m : Int) = true
    · rw [if_pos hb] at h
      obtain ⟨i, s9, t9, rfl, rfl, rfl, h1, h2, h3, h4⟩ := wrong_0 (T := T) (a := a) (s := s) (t := t) (by unfold wrongT; rw [if_pos ha]; exact h)
      have hb := inB_t hb
      rw [tnN] at hb
      obtain ⟨e9, rfl⟩ := Int.eq_ofNat_of_zero_le hb.1
      exact ⟨i, s9, t9, e9, rfl, rfl, rfl, rfl, h1, h2, h3, h4, by omega⟩
    · rw [if_neg hb] at h; omega
  · rw [if_neg ha] at h; omega
def flowV (T : NT) (a s t e : Int) : Int × Int := if 0 < wrongET T a s t e then (0, wrongET T a s t e) else if amountF (T.G (Int.toNat a)) (T.lo (Int.toNat a)) (T.hi (Int.toNat a)) (Int.toNat s) (Int.toNat t) = NONE9 then (0, 3) else ((lxF (T.G (Int.toNat a)) (T.lo (Int.toNat a)) (T.hi (Int.toNat a)) (Int.toNat s) (Int.toNat t) (amountF (T.G (Int.toNat a)) (T.lo (Int.toNat a)) (T.hi (Int.toNat a)) (Int.toNat s) (Int.toNat t)) (T.G (Int.toNat a)).m).1 (Int.toNat e), 0)
section MV
variable {X : xX} {c : xCx} {I : xIn} {T : NT}
theorem ok_flow (hX : xBase X) (d : Nat) (hT : NTok T) (hI : MI I T) {a s t e : Int} (ha : xin a) (hs : xin s) (ht : xin t) (he : xin e) : xRet rI X m_X10_flow (d + 6) [xr (1, 0), xi a, xi s, xi t, xi e] c I 0 0 (fun v I9 => keepM I I9 ∧ (v, I9 (1, 0) 32) = flowV T a s t e) xNo := by
  refine xRet_of hX pl_X10_flow (LE1 rfl) fun V hV => rg_X10_flow_0 hV I _ _ _ _ ⟨_, ok_wrongEdge hX (d + 2) (hI.W hT) ha hs ht he, ?_⟩
  rintro _ I ⟨rfl, rfl⟩
  rw [wrongE_T hI]
  have hwc := wrongE_c T a s t e
  refine ⟨⟨by omega, by omega⟩, ?_⟩
  rintro J hJ
  have e32 : J (1, 0) 32 = wrongET T a s t e := by rw [hJ, xu_same]
  have k1 : keepM I J := by rw [hJ]; exact keepM.thrown _
  clear hJ
  rw [e32]
  refine ⟨fun h => ?_, fun h => rg_X10_flow_43 hV J _ _ ⟨⟨by omega, by omega⟩, ?_⟩⟩
  rotate_left
  · rintro J3 h3
    have e3 : J3 (1, 0) 32 = wrongET T a s t e := by rw [h3, xu_same]
    rw [e3]
    refine ⟨fun z => by omega, fun _ => ⟨k1.tr (by rw [h3]; exact keepM.thrown _), ?_⟩⟩
    unfold flowV
    rw [if_pos h]
  · obtain ⟨i, s9, t9, e9, rfl, rfl, rfl, rfl, hi, hs9, ht9, hst, he9⟩ := wrongE_0 h
    obtain ⟨hG, hB, -⟩ := hT.2 i hi
    obtain ⟨hM, hN, -⟩ := (hI.keep k1).2.2 i hi
    have hm := hG.2.2.1
    have hv : flowV T (i : Int) (s9 : Int) (t9 : Int) (e9 : Int) = if amountF (T.G i) (T.lo i) (T.hi i) s9 t9 = NONE9 then (0, 3) else ((lxF (T.G i) (T.lo i) (T.hi i) s9 t9 (amountF (T.G i) (T.lo i) (T.hi i) s9 t9) (T.G i).m).1 e9, 0) := by
      unfold flowV
      rw [if_neg (by omega), tnN, tnN, tnN, tnN]
    refine ⟨_, ok_finds hX d hG hM hN (fun e he => by have := (hB e he).1; omega) hs9 ht9 hst, ?_⟩
    rintro v J2 ⟨a1, ⟨rfl, b1, b2⟩ | ⟨rfl, b1⟩⟩
    · have k2 := k1.tr a1.keep
      refine ⟨fun z => (by cases z), fun _ => rg_X10_flow_43 hV J2 _ _ ⟨⟨by decide, by decide⟩, ?_⟩⟩
      rintro J3 h3
      have e3 : J3 (1, 0) 32 = 0 := by rw [h3, xu_same]
      have e17 : J3 (1, 17) = J2 (1, 17) := by rw [h3, xu_p (by decide)]
      rw [e3]
      refine ⟨fun _ => ⟨⟨by omega, by omega⟩, k2.tr (by rw [h3]; exact keepM.thrown _), ?_⟩, fun z => absurd z (by decide)⟩
      rw [hv, if_neg b1, e17, tnN, (b2 e9 he9).1]
    · have k2 := k1.tr a1.keep
      refine ⟨fun _ => rg_X10_flow_43 hV J2 _ _ ⟨⟨by decide, by decide⟩, ?_⟩, fun z => (by cases z)⟩
      rintro J3 h3
      have e3 : J3 (1, 0) 32 = 3 := by rw [h3, xu_same]
      rw [e3]
      refine ⟨fun z => absurd z (by decide), fun _ => ⟨k2.tr (by rw [h3]; exact keepM.thrown _), ?_⟩⟩
      rw [hv, if_pos b1]
end MV
