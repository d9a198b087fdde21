/-! the reference's crowd -/
def crowdV (T : NT) (a s t : Int) : Int × Int := if 0 < wrongT T a s t then (0, wrongT T a s t) else if ff (crowdP (T.G (Int.toNat a)) (T.lo (Int.toNat a)) (T.hi (Int.toNat a)) (Int.toNat s) (Int.toNat t)) (2 ^ (T.G (Int.toNat a)).n) = -1 then (0, 3) else (ff (crowdP (T.G (Int.toNat a)) (T.lo (Int.toNat a)) (T.hi (Int.toNat a)) (Int.toNat s) (Int.toNat t)) (2 ^ (T.G (Int.toNat a)).n), 0)
section MR
variable {X : xX} {c : xCx} {I : xIn} {T : NT}
theorem ok_crowd (hX : xBase X) (d : Nat) (hT : NTok T) (hI : MI I T) {a s t : Int} (ha : xin a) (hs : xin s) (ht : xin t) : xRet rI X m_X10_crowd (d + 4) [xr (1, 0), xi a, xi s, xi t] c I 0 0 (fun v I9 => keepM I I9 ∧ (v, I9 (1, 0) 32) = crowdV T a s t) xNo := by
  refine xRet_of hX pl_X10_crowd (LE1 rfl) fun V hV => rg_X10_crowd_0 hV I _ _ _ ⟨_, ok_wrong hX d (hI.W hT) ha hs ht, ?_⟩
  rintro _ I ⟨rfl, rfl⟩
  rw [wrong_T hI]
  have hwc := wrong_c T a s t
  refine ⟨⟨by omega, by omega⟩, ?_⟩
  rintro J hJ
  have e32 : J (1, 0) 32 = wrongT T a s t := by rw [hJ, xu_same]
  have k1 : keepM I J := by rw [hJ]; exact keepM.thrown _
  clear hJ
  rw [e32]
  refine ⟨fun h => ?_, fun h => ⟨k1, by unfold crowdV; rw [if_pos h]⟩⟩
  obtain ⟨i, s9, t9, rfl, rfl, rfl, hi, hs9, ht9, hst⟩ := wrong_0 h
  obtain ⟨hG, hB, -⟩ := hT.2 i hi
  obtain ⟨hM, hN, -⟩ := (hI.keep k1).2.2 i hi
  have hn := hG.2.1
  have g2 := pow2_le8 hn
  have hz : bdz (T.G i).m 100 (T.lo i) (T.hi i) := ⟨by decide, fun e he => by
    have := (hB e he).1
    omega⟩
  have hv : crowdV T (i : Int) (s9 : Int) (t9 : Int) = if ff (crowdP (T.G i) (T.lo i) (T.hi i) s9 t9) (2 ^ (T.G i).n) = -1 then (0, 3) else (ff (crowdP (T.G i) (T.lo i) (T.hi i) s9 t9) (2 ^ (T.G i).n), 0) := by
    unfold crowdV
    rw [if_neg (by omega), tnN, tnN, tnN]
  refine ⟨_, ok_looksAt hX (d + 3) hG hM hN, ?_⟩
  rintro _ J2 ⟨a1, a2⟩
  refine ⟨_, ok_proof hX d hG (a1.MG hM) a2 hz (by decide) (by omega) (by omega), ?_⟩
  rintro _ J2 ⟨rfl, rfl⟩
  have k2 := k1.tr a1.keep
  have hff := ff_cases (crowdP (T.G i) (T.lo i) (T.hi i) s9 t9) (2 ^ (T.G i).n)
  generalize hR : ff (crowdP (T.G i) (T.lo i) (T.hi i) s9 t9) (2 ^ (T.G i).n) = R at hff hv ⊢
  generalize 2 ^ (T.G i).n = N at g2 hff
  have hRb : R = -1 ∨ (0 ≤ R ∧ R ≤ 256) := by
    rcases hff with ⟨h1, -⟩ | ⟨S, h1, h2, -⟩ <;> omega
  refine ⟨⟨by omega, by omega⟩, fun h2 => rg_X10_crowd_45 hV J2 _ _ ⟨⟨by decide, by decide⟩, ?_⟩, fun h2 => rg_X10_crowd_45 hV J2 _ _ ⟨⟨by decide, by decide⟩, ?_⟩⟩
  · rintro J3 h3
    have e3 : J3 (1, 0) 32 = 0 := by rw [h3, xu_same]
    rw [e3]
    refine ⟨fun _ => ⟨k2.tr (by rw [h3]; exact keepM.thrown _), ?_⟩, fun z => absurd z (by decide)⟩
    rw [hv, if_neg (by omega)]
  · rintro J3 h3
    have e3 : J3 (1, 0) 32 = 3 := by rw [h3, xu_same]
    rw [e3]
    refine ⟨fun z => absurd z (by decide), fun _ => ⟨k2.tr (by rw [h3]; exact keepM.thrown _), ?_⟩⟩
    rw [hv, if_pos (by omega)]
end MR
