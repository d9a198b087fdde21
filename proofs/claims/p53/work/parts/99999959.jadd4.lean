/-! one contract for all that are added -/
theorem xMet_w9 {X : xX} {z : xM} {d : Nat} {av : List xV} {h : xS} {mc ms : Nat} {p1 p2 : xO → xS → Prop} (hM : xMet X z d av h mc ms p1) (hp : ∀ o h9, p1 o h9 → p2 o h9) : xMet X z d av h mc ms p2 := by
  refine MetFree.mono hM (fun _ _ q => q) (fun _ _ _ _ _ q => q) ?_
  rintro a s o t - (⟨⟨⟨r, h', h1, h2, h3⟩, h4⟩, h5⟩ | ⟨q, h1, h2⟩)
  · exact Or.inl ⟨⟨⟨r, h', h1, hp _ _ h2, h3⟩, h4⟩, h5⟩
  · obtain ⟨e9, ce, L, ⟨h', hp9, hw⟩, rest⟩ := h2
    exact Or.inr ⟨q, h1, e9, ce, L, ⟨h', hp _ _ hp9, hw⟩, rest⟩
theorem LD.cp {c : xCx} {a b : Nat} (h : LD c b) (hf : cFr c (2, 4)) : LD (cCp c a) b := by
  obtain ⟨h1, h2, ⟨h3, h4, h5⟩, ⟨r1, r2, r3⟩, h6, h7, h8⟩ := h
  have e : ∀ j, (cCp c a).2.2.1 (2, 0) j = c.2.2.1 (2, 0) j := fun j => by
    show (if ((2, 0) : xP) = (2, 4) then (if j < 10 then c.2.2.1 (2, 3) j else none) else c.2.2.1 (2, 0) j) = _
    rw [if_neg (by decide)]
  refine ⟨(h1.ad (a := a) hf : cOK (cAd c (2, 4) a)), h2, ⟨List.mem_append_left _ h3, List.mem_append_left _ h4, fun z => ?_⟩, ⟨by rw [e]; exact r1, by rw [e]; exact r2, by rw [e]; exact r3⟩, h6, fun p hp => ?_, fun p j q' hp => ?_⟩
  · rcases List.mem_append.mp z with z | z
    · exact h5 z
    · exact absurd (List.mem_singleton.mp z) (by decide)
  · rcases List.mem_append.mp hp with hp | hp
    · exact h7 p hp
    · rw [List.mem_singleton.mp hp]
      show 4 < 64 * b
      omega
  · have hp : (if p = (2, 4) then (if j < 10 then c.2.2.1 (2, 3) j else none) else c.2.2.1 p j) = some q' := hp
    split at hp
    · split at hp
      · exact h8 _ _ _ hp
      · cases hp
    · exact h8 _ _ _ hp
theorem cPut_s {c : xCx} {q t : xP} {k : Nat} : (cPut c q k t).2.2.1 q k = some t := if_pos ⟨rfl, rfl⟩
theorem cPut_n {c : xCx} {q t p : xP} {k j : Nat} (h : ¬ (p = q ∧ j = k)) : (cPut c q k t).2.2.1 p j = c.2.2.1 p j := if_neg h
def addPo (c : xCx) (I : xIn) (b j : Nat) (h9 : xS) : Prop := ∃ (J : xIn) (c9 : xCx), h9 = (J, xst c9) ∧ AL c9 b (j + 1) ∧ c9.1 = c.1 ∧ (∀ p, cFr c p → p ≠ (2, 3) → p ≠ (2, 4) → (∀ i, p ≠ er i) → cFr c9 p) ∧ (∀ i, j < i → cFr c (er i) → cFr c9 (er i)) ∧ (∀ p, p ∈ c.2.1 → p ∈ c9.2.1) ∧ (∀ p : xP, p ≠ (2, 1) → p ≠ (2, 3) → p ≠ (2, 4) → J p = I p) ∧ J (2, 1) 2 = (j : Int) + 1 ∧ J (2, 1) 0 = I (2, 1) 0 + 1 ∧ ∀ p : xP, p ≠ (2, 3) → p ≠ (2, 4) → c9.2.2.2 p = c.2.2.2 p
theorem er_inj {i j : Nat} (h : i ≠ j) : er i ≠ er j := fun z => by
  have z : 5 + 64 * (i + 1) = 5 + 64 * (j + 1) := congrArg Prod.snd z
  omega
section JA
variable {X : xX} {c : xCx} {I : xIn} {b j : Nat}
theorem j_addAL (hX : xBase X) (d : Nat) {z mi : Nat} (hz : DEs X z) (hA8 : c.2.2.2 (2, 8) = z) (hm : va_Mi "[Ljava/lang/Object;" mi X.S) (hA7 : c.2.2.2 (2, 7) = mi) (hL : AL c b j) (hj : j ≤ 10) (he : er j ∈ c.2.1) (hs : I (2, 1) 2 = (j : Int)) (hmod : 0 ≤ I (2, 1) 0 ∧ I (2, 1) 0 ≤ 1000) : xMet X m_Jx4a65c_add_9ea2d (d + 6) [xr (2, 1), xr (er j)] (I, xst c) 1 15 (fun o h9 => o = .inl (some (xi 1)) ∧ addPo c I b j h9) := by
  obtain ⟨hD, hc⟩ := hL
  have h1 : (2, 1) ∈ lvL c.1 c.2.1 := hD.m1
  have hb := hD.2.2.2.2.1
  have e2 : xu I (2, 1) 0 (I (2, 1) 0 + 1) (2, 1) 2 = (j : Int) := by rw [xu_k (by decide)]; exact hs
  have e0 : xu I (2, 1) 0 (I (2, 1) 0 + 1) (2, 1) 0 = I (2, 1) 0 + 1 := xu_same
  have eo : ∀ p, p ≠ (2, 1) → xu I (2, 1) 0 (I (2, 1) 0 + 1) p = I p := fun p hp => xu_p hp
  rcases hc with ⟨rfl, hr, hf3, hf4⟩ | ⟨hj1, -, hr, hm3, hf4, hel⟩ | ⟨rfl, -⟩
  · refine j_addG hX (d + 5) h1 hr hmod ?_
    rw [hs]
    refine xMet_w9 (j_add3_0 hX (d + 2) (t := er 0) hz hA8 h1 hr hf3 e2 (kd_er 0) (lvmX he) (er_ne _ _)) (fun o h9 hh => ?_)
    obtain ⟨ho, a, rfl⟩ := hh
    have hD1 : LD (cAd c (2, 3) a) b := hD.ad hf3 (by decide) (Nat.le_refl _) (by show 3 < 64 * b; omega)
    refine ⟨ho, _, _, rfl, ⟨(hD1.put (by decide) (by show 3 < 64 * b; omega) (by decide)).put (by decide) (by show 5 + 64 * (0 + 1) < 64 * b; omega) (er_ne _ _), Or.inr (Or.inl ⟨Nat.le_refl _, by decide, ?_, ?_, ?_, fun k hk => ?_⟩)⟩, rfl, fun p hp n3 n4 ne => ?_, fun i hi hfi => ?_, fun p hp => List.mem_append_left _ hp, fun p p1 p3 p4 => ?_, ?_, ?_, fun p p3 p4 => ?_⟩
    · exact (cPut_n (fun z => absurd z.1 (by decide))).trans cPut_s
    · exact List.mem_append_right _ (List.mem_singleton.mpr rfl)
    · exact ((hf4.ad (by decide)).put (by decide)).put (er_ne _ _)
    · have hk0 : k = 0 := by omega
      subst hk0
      refine ⟨?_, List.mem_append_left _ he⟩
      exact cPut_s
    · exact ((hp.ad n3).put (fun z => n3 z.symm)).put (fun z => ne 0 z.symm)
    · exact ((hfi.ad (er_ne _ _)).put (fun z => er_ne _ _ z.symm)).put (er_inj (by omega))
    · rw [xu_p p1, zI_n p3, eo p p1]
    · rw [xu_same]; rfl
    · rw [xu_k (by decide), zI_n (by decide)]; exact e0
    · show (if p = (2, 3) then a else c.2.2.2 p) = c.2.2.2 p
      rw [if_neg p3]
  · by_cases hj10 : j = 10
    · subst hj10
      refine j_addG hX (d + 5) h1 hr hmod ?_
      rw [hs]
      refine xMet_w9 (j_add3_10 hX d (t := er 10) hm hA7 h1 (lvmX hm3) hr hf4 hel e2 (kd_er 10) (lvmX he) (er_ne _ _)) (fun o h9 hh => ?_)
      obtain ⟨ho, a, rfl⟩ := hh
      have hD1 : LD (cCp c a) b := hD.cp hf4
      have fcp : ∀ p, cFr c p → p ≠ (2, 4) → cFr (cCp c a) p := fun p hp n4 => by
        obtain ⟨q1, q2, q3⟩ := hp
        refine ⟨q1, fun z => ?_, fun p' i z => ?_⟩
        · rcases List.mem_append.mp z with z | z
          · exact q2 z
          · exact n4 (List.mem_singleton.mp z)
        · have z : (if p' = (2, 4) then (if i < 10 then c.2.2.1 (2, 3) i else none) else c.2.2.1 p' i) = some p := z
          split at z
          · split at z
            · exact q3 _ _ z
            · cases z
          · exact q3 _ _ z
      refine ⟨ho, _, _, rfl, ⟨(hD1.put (by decide) (by show 4 < 64 * b; omega) (by decide)).put (by decide) (by show 5 + 64 * (10 + 1) < 64 * b; omega) (er_ne _ _), Or.inr (Or.inr ⟨rfl, ?_, ?_, fun k hk => ?_⟩)⟩, rfl, fun p hp n3 n4 ne => ?_, fun i hi hfi => ?_, fun p hp => List.mem_append_left _ hp, fun p p1 p3 p4 => ?_, ?_, ?_, fun p p3 p4 => ?_⟩
      · exact (cPut_n (fun z => absurd z.1 (by decide))).trans cPut_s
      · exact List.mem_append_right _ (List.mem_singleton.mpr rfl)
      · by_cases hk10 : k = 10
        · subst hk10
          refine ⟨?_, List.mem_append_left _ he⟩
          exact cPut_s
        · obtain ⟨q1, q2⟩ := hel k (by omega)
          refine ⟨?_, List.mem_append_left _ q2⟩
          show (if ((2, 4) : xP) = (2, 4) ∧ k = 10 then some (er 10) else if ((2, 4) : xP) = (2, 1) ∧ k = 1 then some (2, 4) else if ((2, 4) : xP) = (2, 4) then (if k < 10 then c.2.2.1 (2, 3) k else none) else c.2.2.1 (2, 4) k) = some (er k)
          rw [if_neg (fun z => hk10 z.2), if_neg (fun z => absurd z.1 (by decide)), if_pos (c := ((2, 4) : xP) = (2, 4)) rfl, if_pos (by omega)]
          exact q1
      · exact ((fcp p hp n4).put (fun z => n4 z.symm)).put (fun z => ne 10 z.symm)
      · exact ((fcp _ hfi (er_ne _ _)).put (fun z => er_ne _ _ z.symm)).put (er_inj (by omega))
      · rw [xu_p p1, zI_n p4, eo p p1]
      · rw [xu_same]; rfl
      · rw [xu_k (by decide), zI_n (by decide)]; exact e0
      · show (if p = (2, 4) then a else c.2.2.2 p) = c.2.2.2 p
        rw [if_neg p4]
    · refine j_addG hX (d + 5) h1 hr hmod ?_
      rw [hs]
      refine xMet_w9 (j_add3n hX (d + 5) (qd := (2, 3)) (t := er j) (nn := 10) (j := j) h1 rfl rfl (lvmX hm3) (kd_er j) (lvmX he) (by omega) (by decide)) (fun o h9 hh => ?_)
      obtain ⟨ho, rfl⟩ := hh
      refine ⟨ho, _, _, rfl, ⟨hD.put (by decide) (by show 5 + 64 * (j + 1) < 64 * b; omega) (er_ne _ _), Or.inr (Or.inl ⟨by omega, by omega, ?_, hm3, hf4.put (er_ne _ _), fun k hk => ?_⟩)⟩, rfl, fun p hp n3 n4 ne => hp.put (fun z => ne j z.symm), fun i hi hfi => hfi.put (er_inj (by omega)), fun p hp => hp, fun p p1 p3 p4 => ?_, ?_, ?_, fun p p3 p4 => rfl⟩
      · show (if ((2, 1) : xP) = (2, 3) ∧ 1 = j then some (er j) else c.2.2.1 (2, 1) 1) = some (2, 3)
        rw [if_neg (fun z => absurd z.1 (by decide))]
        exact hr
      · by_cases hkj : k = j
        · subst hkj
          refine ⟨?_, he⟩
          exact cPut_s
        · obtain ⟨q1, q2⟩ := hel k (by omega)
          refine ⟨?_, q2⟩
          show (if ((2, 3) : xP) = (2, 3) ∧ k = j then some (er j) else c.2.2.1 (2, 3) k) = some (er k)
          rw [if_neg (fun z => hkj z.2)]
          exact q1
      · rw [xu_p p1, eo p p1]
      · rw [xu_same]
      · rw [xu_k (by decide)]; exact e0
  · omega
end JA
