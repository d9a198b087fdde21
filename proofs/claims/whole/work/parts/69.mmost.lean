/-! the nets that both sides hold, and the reference's greatest amount -/
abbrev NT : Type := Nat × (Nat → Gr) × (Nat → Nat → Int) × (Nat → Nat → Int) × (Nat → Nat → Int) × (Nat → Nat → Int)
abbrev NT.N (T : NT) : Nat := T.1
abbrev NT.G (T : NT) : Nat → Gr := T.2.1
abbrev NT.lo (T : NT) : Nat → Nat → Int := T.2.2.1
abbrev NT.hi (T : NT) : Nat → Nat → Int := T.2.2.2.1
abbrev NT.co (T : NT) : Nat → Nat → Int := T.2.2.2.2.1
abbrev NT.su (T : NT) : Nat → Nat → Int := T.2.2.2.2.2
def NTok (T : NT) : Prop := T.N ≤ 4 ∧ ∀ i, i < T.N → GrOK (T.G i) ∧ (∀ e, e < (T.G i).m → (0 ≤ T.lo i e ∧ T.lo i e ≤ T.hi i e ∧ T.hi i e ≤ 99) ∧ (-20 ≤ T.co i e ∧ T.co i e ≤ 20)) ∧ ∀ x, x < (T.G i).n → -99 ≤ T.su i x ∧ T.su i x ≤ 99
/-- the reference holds these nets -/
def MI (I : xIn) (T : NT) : Prop := I (1, 0) 0 = (T.N : Int) ∧ (∀ k, k < 4 → T.N ≤ k → I (1, 1) k = 0 ∧ I (1, 2) k = 0 ∧ ∀ x, x < 8 → I (1, 8) (8 * k + x) = 0) ∧ ∀ i, i < T.N → MG I i (T.G i) ∧ MN I i (T.G i).m (T.lo i) (T.hi i) ∧ (∀ e, e < (T.G i).m → I (1, 7) (16 * i + e) = T.co i e) ∧ ∀ x, x < (T.G i).n → I (1, 8) (8 * i + x) = T.su i x
/-- what only the reference's scratch rows and fields may differ in -/
def keepM (I J : xIn) : Prop := (∀ p : xP, (p.1 ≠ 1 ∨ (1 ≤ p.2 ∧ p.2 ≤ 16)) → J p = I p) ∧ ∀ k, k ≠ 27 → k ≠ 28 → k ≠ 32 → J (1, 0) k = I (1, 0) k
theorem keepM.id9 {I : xIn} : keepM I I := ⟨fun _ _ => Eq.refl _, fun _ _ _ _ => Eq.refl _⟩
theorem keepM.tr {I J K : xIn} (h1 : keepM I J) (h2 : keepM J K) : keepM I K := ⟨fun p hp => (h2.1 p hp).trans (h1.1 p hp), fun k a b c => (h2.2 k a b c).trans (h1.2 k a b c)⟩
theorem keepM.thrown {I : xIn} (v : Int) : keepM I (xu I (1, 0) 32 v) := ⟨fun p hp => xu_p (by
  rintro rfl
  rcases hp with h | h
  · exact h rfl
  · have := h.1; omega), fun k _ _ h => xu_k h⟩
theorem kpM.keep {I J : xIn} (h : kpM I J) : keepM I J := ⟨fun p hp => h p (by
  intro hm
  simp only [List.mem_cons, List.mem_nil_iff, or_false] at hm
  rcases hm with rfl | rfl
  · rcases hp with h | h
    · exact h rfl
    · have := h.2; omega
  · rcases hp with h | h
    · exact h rfl
    · have := h.2; omega), fun k _ _ _ => by rw [h (1, 0) (by decide)]⟩
theorem MI.keep {I J : xIn} {T : NT} (h : MI I T) (hk : keepM I J) : MI J T := by
  have r : ∀ j, 1 ≤ j → j ≤ 16 → J (1, j) = I (1, j) := fun j a b => hk.1 (1, j) (Or.inr ⟨a, b⟩)
  unfold MI MG MN
  rw [hk.2 0 (by decide) (by decide) (by decide), r 1 (by decide) (by decide), r 2 (by decide) (by decide), r 3 (by decide) (by decide), r 4 (by decide) (by decide), r 5 (by decide) (by decide), r 6 (by decide) (by decide), r 7 (by decide) (by decide), r 8 (by decide) (by decide)]
  exact h
theorem MI.W {I : xIn} {T : NT} (h : MI I T) (hT : NTok T) : MW I := by
  obtain ⟨h1, h2, h3⟩ := h
  have h4 := hT.1
  refine ⟨⟨by omega, by omega⟩, fun k hk => ?_⟩
  by_cases hkN : k < T.N
  · obtain ⟨⟨-, a1, a2, -⟩, -⟩ := h3 k hkN
    obtain ⟨⟨b1, b2, b3, -⟩, -⟩ := hT.2 k hkN
    omega
  · have := h2 k hk (by omega); omega
def wrongT (T : NT) (a s t : Int) : Int := if inB a T.N then (if twoB (T.G (Int.toNat a)).n s t then 0 else 2) else 1
theorem wrong_T {I : xIn} {T : NT} (h : MI I T) (a s t : Int) : wrongV I a s t = wrongT T a s t := by
  unfold wrongV wrongT
  rw [h.1]
  by_cases ha : inB a (T.N : Int) = true
  · have := inB_t ha
    obtain ⟨⟨-, a1, -⟩, -⟩ := h.2.2 (Int.toNat a) (by omega)
    rw [if_pos ha, if_pos ha, a1]
  · rw [if_neg ha, if_neg ha]
/-- a call that is not refused: numbers of a net and of two corners -/
theorem wrong_0 {T : NT} {a s t : Int} (h : wrongT T a s t ≤ 0) : ∃ i s9 t9 : Nat, a = i ∧ s = s9 ∧ t = t9 ∧ i < T.N ∧ s9 < (T.G i).n ∧ t9 < (T.G i).n ∧ s9 ≠ t9 := by
  unfold wrongT at h
  by_cases ha : inB a (T.N : Int) = true
  · rw [if_pos ha] at h
    have ha := inB_t ha
    obtain ⟨i, rfl⟩ := Int.eq_ofNat_of_zero_le ha.1
    by_cases hb : twoB ((T.G (Int.toNat (i : Int))).n : Int) s t = true
    · unfold twoB at hb
      simp only [Bool.and_eq_true, decide_eq_true_eq, tnN] at hb
      obtain ⟨⟨h1, h2⟩, h3⟩ := hb
      have h1 := inB_t h1
      have h2 := inB_t h2
      obtain ⟨s9, rfl⟩ := Int.eq_ofNat_of_zero_le h1.1
      obtain ⟨t9, rfl⟩ := Int.eq_ofNat_of_zero_le h2.1
      exact ⟨i, s9, t9, rfl, rfl, rfl, by omega, by omega, by omega, by omega⟩
    · rw [if_neg hb] at h; omega
  · rw [if_neg ha] at h; omega
theorem wrong_c (T : NT) (a s t : Int) : wrongT T a s t = 0 ∨ wrongT T a s t = 1 ∨ wrongT T a s t = 2 := by
  unfold wrongT
  split
  · split
    · exact Or.inl rfl
    · exact Or.inr (Or.inr rfl)
  · exact Or.inr (Or.inl rfl)
/-- value and code of most -/
def mostV (T : NT) (a s t : Int) : Int × Int := if 0 < wrongT T a s t then (0, wrongT T a s t) else if amountF (T.G (Int.toNat a)) (T.lo (Int.toNat a)) (T.hi (Int.toNat a)) (Int.toNat s) (Int.toNat t) = NONE9 then (0, 3) else (amountF (T.G (Int.toNat a)) (T.lo (Int.toNat a)) (T.hi (Int.toNat a)) (Int.toNat s) (Int.toNat t), 0)
section MQ
variable {X : xX} {c : xCx} {I : xIn} {T : NT}
theorem ok_most (hX : xBase X) (d : Nat) (hT : NTok T) (hI : MI I T) {a s t : Int} (ha : xin a) (hs : xin s) (ht : xin t) : xRet rI X m_X10_most (d + 5) [xr (1, 0), xi a, xi s, xi t] c I 0 0 (fun v I9 => keepM I I9 ∧ (∀ e, e < (T.G (Int.toNat a)).m → I9 (1, 0) 32 = 0 → I9 (1, 17) e = T.lo (Int.toNat a) e ∧ I9 (1, 18) e = T.hi (Int.toNat a) e) ∧ (v, I9 (1, 0) 32) = mostV T a s t) xNo := by
  have hN9 : NONE9 = -1000000 := rfl
  refine xRet_of hX pl_X10_most (LE1 rfl) fun V hV => rg_X10_most_0 hV I _ _ _ ⟨_, ok_wrong hX (d + 1) (hI.W hT) ha hs ht, ?_⟩
  rintro _ I ⟨rfl, rfl⟩
  rw [wrong_T hI]
  have hwc := wrong_c T a s t
  refine ⟨⟨by omega, by omega⟩, ?_⟩
  rintro J hJ
  have e32 : J (1, 0) 32 = wrongT T a s t := by rw [hJ, xu_same]
  have k1 : keepM I J := by rw [hJ]; exact keepM.thrown _
  clear hJ
  rw [e32]
  refine ⟨fun h => ?_, fun h => ⟨k1, fun e he h9 => by omega, by unfold mostV; rw [if_pos h]⟩⟩
  obtain ⟨i, s9, t9, rfl, rfl, rfl, hi, hs9, ht9, hst⟩ := wrong_0 h
  obtain ⟨hG, hB, -⟩ := hT.2 i hi
  obtain ⟨hM, hN, -⟩ := (hI.keep k1).2.2 i hi
  have hn := hG.2.1
  have hz : bdz (T.G i).m 100 (T.lo i) (T.hi i) := ⟨by decide, fun e he => by
    have := (hB e he).1
    omega⟩
  refine ⟨_, ok_looksAt hX (d + 4) hG hM hN, ?_⟩
  rintro _ J2 ⟨a1, a2⟩
  refine ⟨_, ok_amount hX d hG (a1.MG hM) a2 hz (by decide) (by omega) (by omega), ?_⟩
  rintro _ J2 ⟨rfl, rfl⟩
  have k2 := k1.tr a1.keep
  have hv : mostV T (i : Int) (s9 : Int) (t9 : Int) = if amountF (T.G i) (T.lo i) (T.hi i) s9 t9 = NONE9 then (0, 3) else (amountF (T.G i) (T.lo i) (T.hi i) s9 t9, 0) := by
    unfold mostV
    rw [if_neg (by omega), tnN, tnN, tnN]
  have hab : xin (amountF (T.G i) (T.lo i) (T.hi i) s9 t9) := by
    by_cases hno : ∀ S, S < 2 ^ (T.G i).n → crowdP (T.G i) (T.lo i) (T.hi i) s9 t9 S = false
    · obtain ⟨e1, f, e2⟩ := flow_ex hG hs9 ht9 hst (fun e he => by have := (hB e he).1; omega) hno
      have e3 := flow_bd hG hs9 ht9 hst (fun e he => by have := (hB e he).1; omega) e2
      exact ⟨by omega, by omega⟩
    · by_cases hx : ∃ S, S < 2 ^ (T.G i).n ∧ crowdP (T.G i) (T.lo i) (T.hi i) s9 t9 S = true
      · obtain ⟨S, c1, c2⟩ := hx
        rw [amount_none c1 c2]; exact ⟨by decide, by decide⟩
      · exfalso
        refine hno fun S hS => ?_
        cases hc : crowdP (T.G i) (T.lo i) (T.hi i) s9 t9 S
        · rfl
        · exact absurd ⟨S, hS, hc⟩ hx
  have scr : ∀ (v : Int) (J3 : xIn), J3 = xu J2 (1, 0) 32 v → ∀ e, e < (T.G i).m → J3 (1, 17) e = T.lo i e ∧ J3 (1, 18) e = T.hi i e := fun v J3 h3 e he => by
    rw [h3, xu_p (by decide), xu_p (by decide)]; exact a2 e he
  refine ⟨hab, fun h2 => rg_X10_most_47 hV J2 _ _ ⟨⟨by decide, by decide⟩, ?_⟩, fun h2 => rg_X10_most_47 hV J2 _ _ ⟨⟨by decide, by decide⟩, ?_⟩⟩
  · rintro J3 h3
    have e3 : J3 (1, 0) 32 = 0 := by rw [h3, xu_same]
    rw [e3]
    refine ⟨fun _ => ⟨k2.tr (by rw [h3]; exact keepM.thrown _), fun e he _ => scr _ _ h3 e he, ?_⟩, fun z => absurd z (by decide)⟩
    rw [hv, if_neg (by rw [hN9]; exact h2)]
  · rintro J3 h3
    have e3 : J3 (1, 0) 32 = 3 := by rw [h3, xu_same]
    rw [e3]
    refine ⟨fun z => absurd z (by decide), fun _ => ⟨k2.tr (by rw [h3]; exact keepM.thrown _), fun e he _ => scr _ _ h3 e he, ?_⟩⟩
    rw [hv, if_pos (by rw [hN9]; exact h2)]
end MQ
