/-! adding, whatever the list holds -/
section JA
variable {X : xX} {c : xCx} {I : xIn}
theorem j_grow10 (hX : xBase X) (d : Nat) {mi : Nat} (hm : va_Mi "[Ljava/lang/Object;" mi X.S) (hA : c.2.2.2 (2, 7) = mi) (h1 : (2, 1) ∈ lvL c.1 c.2.1) (h3 : (2, 3) ∈ lvL c.1 c.2.1) (hr : c.2.2.1 (2, 1) 1 = some (2, 3)) (hf : cFr c (2, 4)) (hel : ∀ i, i < 10 → c.2.2.1 (2, 3) i = some (er i) ∧ er i ∈ c.2.1) (hs : I (2, 1) 2 = 10) : xMet X m_Jx4a65c_grow_d5877 (d + 4) [xr (2, 1)] (I, xst c) 1 15 (fun o h9 => o = .inl (some (xr (2, 4))) ∧ ∃ a, h9 = (zI I (2, 4), xst (cPut (cCp c a) (2, 1) 1 (2, 4)))) := by
  refine xMet_of hX pl_Jx4a65c_grow_d5877.1 (fun w hw => (pl_Jx4a65c_grow_d5877.2.2.1 w hw).1) (by decide) (fun V hV => ?_)
  have hE := hV.eng
  refine x_aload_n (j := 0) (pc := 0) hE dJx4a65c_grow_d5877_0 rfl (x_aload_n (j := 0) (pc := 1) hE dJx4a65c_grow_d5877_1 rfl (x_getI (pc := 2) hE dJx4a65c_grow_d5877_2 fl_RJx4a65c_48 rfl h1 (x_iconst (pc := 5) hE dJx4a65c_grow_d5877_5 (x_iadd (pc := 6) hE dJx4a65c_grow_d5877_6 ?_))))
  have e1 : I (2, 1) 2 + 1 = 11 := by rw [hs]; rfl
  show V 7 _ [xi (I (2, 1) 2 + 1), xr (2, 1)] _ _ _
  rw [e1]
  refine x_callV (pc := 7) (as := [xi 11]) (st := []) (q := (2, 1)) hE (j_growI10 hX d hm hA h1 h3 hr hf hel) dJx4a65c_grow_d5877_7 pl_Jx4a65c_grow_92f84 lk_RJx4a65c_69 rfl h1 rfl rfl (Nat.le_refl _) (LE1 rfl) (LE1 rfl) (LE1 rfl) (fun E h9 hh => by cases hh.1) (fun r h9 hh => ?_)
  obtain ⟨hr9, a, rfl⟩ := hh
  cases hr9
  refine ⟨⟨rfl, rfl⟩, ?_⟩
  exact x_retA (pc := 10) hV dJx4a65c_grow_d5877_10 rfl (LE1 rfl) (LE1 rfl) ⟨rfl, a, rfl⟩
theorem j_add3_10 (hX : xBase X) (d : Nat) {mi : Nat} {t : xP} (hm : va_Mi "[Ljava/lang/Object;" mi X.S) (hA : c.2.2.2 (2, 7) = mi) (h1 : (2, 1) ∈ lvL c.1 c.2.1) (h3 : (2, 3) ∈ lvL c.1 c.2.1) (hr : c.2.2.1 (2, 1) 1 = some (2, 3)) (hf : cFr c (2, 4)) (hel : ∀ i, i < 10 → c.2.2.1 (2, 3) i = some (er i) ∧ er i ∈ c.2.1) (hs : I (2, 1) 2 = 10) (hkt : kd t = (1, 5)) (ht : t ∈ lvL c.1 c.2.1) (ht3 : t ≠ (2, 4)) : xMet X m_Jx4a65c_add_72be8 (d + 5) [xr (2, 1), xr t, xr (2, 3), xi 10] (I, xst c) 1 15 (fun o h9 => o = .inl none ∧ ∃ a, h9 = (xu (zI I (2, 4)) (2, 1) 2 11, xst (cPut (cPut (cCp c a) (2, 1) 1 (2, 4)) (2, 4) 10 t))) := by
  refine xMet_of hX pl_Jx4a65c_add_72be8.1 (fun w hw => (pl_Jx4a65c_add_72be8.2.2.1 w hw).1) (LE1 rfl) (fun V hV => ?_)
  have hE := hV.eng
  have x10 : xin 10 := ⟨by decide, by decide⟩
  refine x_iload_n (j := 3) (pc := 0) hE dJx4a65c_add_72be8_0 rfl (x_aload_n (j := 2) (pc := 1) hE dJx4a65c_add_72be8_1 rfl (x_alenO (pc := 2) (nn := 10) hE dJx4a65c_add_72be8_2 rfl h3 ?_))
  refine x_icmp_ne (pc := 3) hE dJx4a65c_add_72be8_3 rfl x10 x10 (fun z => absurd rfl z) (fun _ => ?_)
  refine x_aload_n (j := 0) (pc := 6) hE dJx4a65c_add_72be8_6 rfl ?_
  refine x_callV (pc := 7) (as := []) (st := []) (q := (2, 1)) hE (j_grow10 hX d hm hA h1 h3 hr hf hel hs) dJx4a65c_add_72be8_7 pl_Jx4a65c_grow_d5877 lk_RJx4a65c_129 rfl h1 rfl rfl (Nat.le_refl _) (LE1 rfl) (LE1 rfl) (LE1 rfl) (fun E h9 hh => by cases hh.1) (fun r h9 hh => ?_)
  obtain ⟨hr9, a, rfl⟩ := hh
  cases hr9
  have ht9 : xc (cPut (cCp c a) (2, 1) 1 (2, 4)).2.2.2 (xr t) = xc c.2.2.2 (xr t) := by
    show Value.ref (if t = (2, 4) then a else c.2.2.2 t) = Value.ref (c.2.2.2 t)
    rw [if_neg ht3]
  refine ⟨⟨?_, rfl⟩, ?_⟩
  · show [(0, _), (1, xc (cPut (cCp c a) (2, 1) 1 (2, 4)).2.2.2 (xr t)), (2, _), (3, _)] = [(0, _), (1, xc c.2.2.2 (xr t)), (2, _), (3, _)]
    rw [ht9]
    rfl
  refine x_astore_n (pc := 10) (lo9 := [(2, xr (2, 4)), (0, xr (2, 1)), (1, xr t), (3, xi 10)]) hE dJx4a65c_add_72be8_10 (LE1 rfl) rfl ?_
  refine x_loc hE [1, 2, 0, 3] rfl ?_
  have mm : ∀ p, p ∈ lvL c.1 c.2.1 → p ∈ lvL (cCp c a).1 (cCp c a).2.1 := fun p hp => cAd_mem (a := a) (q := (2, 4)) hp
  exact j_put hX (c := cPut (cCp c a) (2, 1) 1 (2, 4)) (qd := (2, 4)) (nn := 15) (j := 10) hV (cPut_mem (mm _ h1)) rfl rfl (cPut_mem (cAd_self (c := c) (q := (2, 4)) (a := a))) hkt (cPut_mem (mm _ ht)) (by decide) (by decide) (LE1 rfl) (LE1 rfl) ⟨rfl, a, rfl⟩
end JA
/-- the list with j rows -/
def AL (c : xCx) (b j : Nat) : Prop := LD c b ∧ ((j = 0 ∧ c.2.2.1 (2, 1) 1 = some (2, 8) ∧ cFr c (2, 3) ∧ cFr c (2, 4)) ∨ (1 ≤ j ∧ j ≤ 10 ∧ c.2.2.1 (2, 1) 1 = some (2, 3) ∧ (2, 3) ∈ c.2.1 ∧ cFr c (2, 4) ∧ ∀ k, k < j → c.2.2.1 (2, 3) k = some (er k) ∧ er k ∈ c.2.1) ∨ (j = 11 ∧ c.2.2.1 (2, 1) 1 = some (2, 4) ∧ (2, 4) ∈ c.2.1 ∧ ∀ k, k < 11 → c.2.2.1 (2, 4) k = some (er k) ∧ er k ∈ c.2.1))
theorem LD.put {c : xCx} {b k : Nat} {q t : xP} (h : LD c b) (hq : q ≠ (2, 0)) (ht : t.2 < 64 * b) (ht2 : t ≠ (2, 2)) : LD (cPut c q k t) b := by
  obtain ⟨h1, h2, h3, ⟨r1, r2, r3⟩, h5, h6, h7⟩ := h
  have e : ∀ j, (cPut c q k t).2.2.1 (2, 0) j = c.2.2.1 (2, 0) j := fun j => if_neg fun z => hq z.1.symm
  refine ⟨h1, h2, h3, ⟨by rw [e]; exact r1, by rw [e]; exact r2, by rw [e]; exact r3⟩, h5, h6, fun p j q' hp => ?_⟩
  have hp : (if p = q ∧ j = k then some t else c.2.2.1 p j) = some q' := hp
  split at hp
  · cases hp; exact ⟨ht, ht2⟩
  · exact h7 p j q' hp
theorem cFr.put {c : xCx} {k : Nat} {q t p : xP} (h : cFr c p) (ht : t ≠ p) : cFr (cPut c q k t) p := by
  obtain ⟨h1, h2, h3⟩ := h
  refine ⟨h1, h2, fun p' j z => ?_⟩
  have z : (if p' = q ∧ j = k then some t else c.2.2.1 p' j) = some p := z
  split at z
  · exact ht (Option.some.inj z)
  · exact h3 _ _ z
theorem cFr.ad {c : xCx} {a : Nat} {q p : xP} (h : cFr c p) (hp : p ≠ q) : cFr (cAd c q a) p := by
  obtain ⟨h1, h2, h3⟩ := h
  refine ⟨h1, fun z => ?_, fun p' j z => ?_⟩
  · rcases List.mem_append.mp z with z | z
    · exact h2 z
    · exact hp (List.mem_singleton.mp z)
  · have z : (if p' = q then fun _ => none else c.2.2.1 p') j = some p := z
    split at z
    · cases z
    · exact h3 _ _ z
