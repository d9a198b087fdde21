/-! rounds by the reference -/
theorem step_cong {G : Gr} (hG : GrOK G) {hi hi9 f f9 : Nat → Int} {s t : Nat} (hs : s < G.n) (hst : s ≠ t) (h : ∀ e, e < G.m → hi e = hi9 e) (hf : ∀ e, e < G.m → f e = f9 e) : kC G hi f s t = kC G hi9 f9 s t ∧ aC G hi f s t = aC G hi9 f9 s t ∧ (∀ x, x < kC G hi f s t → wC G hi f s t x = wC G hi9 f9 s t x) ∧ ∀ e, e < G.m → nC G hi f s t e = nC G hi9 f9 s t e := by
  have hn := hG.2.1
  by_cases h0 : kC G hi f s t = 0
  · have h9 : kC G hi9 f9 s t = 0 := by
      refine Classical.byContradiction fun hne => ?_
      obtain ⟨hw, hkn⟩ := wayC hG hs hst hne
      have hw9 := Way_cong (lo9 := fun _ => 0) (hi9 := hi) (f9 := f) (fun _ _ => rfl) (fun e he => (h e he).symm) (fun e he => (hf e he).symm) hw
      have := (kC_way hG hs hst hw9 (by omega)).1
      rw [h0] at this
      exact hne this.symm
    refine ⟨by rw [h0, h9], ?_, fun x hx => by omega, fun e he => ?_⟩
    · unfold aC; rw [if_pos h0, if_pos h9]
    · unfold nC; rw [h0, h9]; exact hf e he
  · obtain ⟨hw, hkn⟩ := wayC hG hs hst h0
    have hw9 := Way_cong (lo9 := fun _ => 0) (hi9 := hi9) (f9 := f9) (fun _ _ => rfl) h hf hw
    obtain ⟨w1, w2, w3, w4⟩ := kC_way hG hs hst hw9 (by omega)
    have ha : aC G hi f s t = aC G hi9 f9 s t := by
      rw [w3]
      show (if kC G hi f s t = 0 then 0 else mw 1000000 (fun i => rsp (fun _ => 0) hi f (wC G hi f s t i)) (kC G hi f s t)) = _
      rw [if_neg h0]
      exact mw_cong fun i hi => rsp_cong (m := G.m) (fun _ _ => rfl) h hf (hw.2.2.2.2 i hi).2.2.1
    refine ⟨w1.symm, ha, fun x hx => w2 x hx, fun e he => ?_⟩
    rw [w4, ← w3, ← ha]
    exact ap_cong (m := G.m) hf (fun i hi => (hw.2.2.2.2 i hi).2.2.1) e he
def c32 (σ : Nat) : Nat := if σ < 16 then σ else σ + 16
def opB (G : Gr) (lo hi f : Nat → Int) (σ : Nat) : Bool := decide (eg (c32 σ) < G.m ∧ 0 < rsp lo hi f (c32 σ))
theorem c32_f {σ : Nat} (h : σ < 16) : c32 σ = σ ∧ eg (c32 σ) = σ := by
  unfold c32 eg
  rw [if_pos h, if_pos (by omega)]; exact ⟨rfl, rfl⟩
theorem c32_b {σ : Nat} (h : ¬ σ < 16) : c32 σ = σ + 16 ∧ eg (c32 σ) = σ - 16 := by
  unfold c32 eg
  rw [if_neg h, if_neg (by omega)]; exact ⟨rfl, by omega⟩
theorem c32_s {τ : Nat} (h : eg τ < 16) : c32 (s16 τ) = τ ∧ s16 τ < 32 ∧ s16 τ % 16 = eg τ ∧ (s16 τ < 16 ↔ τ < 32) := by
  unfold eg at h
  unfold c32 s16 eg
  by_cases h1 : τ < 32
  · rw [if_pos h1] at h
    rw [if_pos h1, if_pos h1, if_pos h]; omega
  · rw [if_neg h1] at h
    rw [if_neg h1, if_neg h1, if_neg (by omega)]; omega
theorem lsg_min {G : Gr} {lo hi f L : Nat → Int} {x : Nat} {nx : Int} {τ σ : Nat} (hm : G.m ≤ 16) (h : lsg G lo hi f L x nx = (τ : Int)) (h1 : eg (c32 σ) < G.m) (h2 : bgn G (c32 σ) = x) (h3 : L (edn G (c32 σ)) = nx) (h4 : 0 < rsp lo hi f (c32 σ)) : s16 τ ≤ σ := by
  unfold lsg at h
  rcases ff_cases (fwB G hi f L x nx) G.m with ⟨q1, q2⟩ | ⟨e, q1, q2, q3, q4⟩
  · rw [q1, if_pos rfl] at h
    by_cases hs : σ < 16
    · obtain ⟨a, b⟩ := c32_f hs
      rw [b] at h1
      rw [a] at h2 h3 h4
      have := q2 σ h1
      unfold fwB at this
      have := of_decide_eq_false this
      simp only [bgn, edn, rsp, if_pos (show σ < 32 by omega)] at h2 h3 h4
      exact absurd ⟨h2, h3, by omega⟩ this
    · obtain ⟨a, b⟩ := c32_b hs
      rw [b] at h1
      rw [a] at h2 h3 h4
      simp only [bgn, edn, rsp, if_neg (show ¬ σ + 16 < 32 by omega), show σ + 16 - 32 = σ - 16 by omega] at h2 h3 h4
      rcases bks_c (bwB G lo f L x nx) G.m with ⟨r1, r2⟩ | ⟨e, r1, r2, r3, r4⟩
      · rw [r1] at h; omega
      · rw [r2] at h
        have hle : e ≤ σ - 16 := by
          refine Classical.byContradiction fun hlt => ?_
          have := r4 (σ - 16) (by omega)
          unfold bwB at this
          exact absurd ⟨h2, h3, by omega⟩ (of_decide_eq_false this)
        unfold s16
        rw [if_neg (by omega)]; omega
  · rw [q2, if_neg (by omega)] at h
    have hτ : τ = e := by omega
    subst hτ
    unfold s16
    rw [if_pos (by omega)]
    by_cases hs : σ < 16
    · obtain ⟨a, b⟩ := c32_f hs
      rw [b] at h1
      rw [a] at h2 h3 h4
      simp only [bgn, edn, rsp, if_pos (show σ < 32 by omega)] at h2 h3 h4
      refine Classical.byContradiction fun hlt => ?_
      have := q4 σ (by omega)
      unfold fwB at this
      exact absurd ⟨h2, h3, by omega⟩ (of_decide_eq_false this)
    · omega
theorem bgn_lt {G : Gr} (hG : GrIn G) {σ : Nat} (h : eg σ < G.m) : bgn G σ < G.n := by
  by_cases hs : σ < 32
  · simp only [eg, if_pos hs] at h
    simp only [bgn, if_pos hs]; exact (hG _ h).1
  · simp only [eg, if_neg hs] at h
    simp only [bgn, if_neg hs]; exact (hG _ h).2
theorem RS_sign {G : Gr} (hm : G.m ≤ 16) {lo hi f : Nat → Int} {x y : Nat} (h : RS G lo hi f x y) : ∃ σ, σ < 32 ∧ opB G lo hi f σ = true ∧ bgn G (c32 σ) = x ∧ edn G (c32 σ) = y := by
  obtain ⟨e, he, ⟨h1, h2, h3⟩ | ⟨h1, h2, h3⟩⟩ := h
  · obtain ⟨a, b⟩ := c32_f (show e < 16 by omega)
    refine ⟨e, by omega, decide_eq_true ⟨by omega, ?_⟩, ?_, ?_⟩
    · rw [a]; simp only [rsp, if_pos (show e < 32 by omega)]; omega
    · rw [a]; simp only [bgn, if_pos (show e < 32 by omega)]; exact h1
    · rw [a]; simp only [edn, if_pos (show e < 32 by omega)]; exact h2
  · obtain ⟨a, b⟩ := c32_b (show ¬ e + 16 < 16 by omega)
    rw [show e + 16 + 16 = e + 32 by omega] at a
    refine ⟨e + 16, by omega, decide_eq_true ⟨by omega, ?_⟩, ?_, ?_⟩
    · rw [a]; simp only [rsp, if_neg (show ¬ e + 32 < 32 by omega), Nat.add_sub_cancel]; omega
    · rw [a]; simp only [bgn, if_neg (show ¬ e + 32 < 32 by omega), Nat.add_sub_cancel]; exact h1
    · rw [a]; simp only [edn, if_neg (show ¬ e + 32 < 32 by omega), Nat.add_sub_cancel]; exact h2
theorem opB_rs {G : Gr} {lo hi f : Nat → Int} {σ : Nat} (h : opB G lo hi f σ = true) : eg (c32 σ) < G.m ∧ RS G lo hi f (bgn G (c32 σ)) (edn G (c32 σ)) := by
  obtain ⟨h1, h2⟩ := of_decide_eq_true h
  refine ⟨h1, eg (c32 σ), h1, ?_⟩
  by_cases hs : c32 σ < 32
  · simp only [eg, bgn, edn, rsp, if_pos hs] at *
    exact Or.inl ⟨trivial, trivial, by omega⟩
  · simp only [eg, bgn, edn, rsp, if_neg hs] at *
    exact Or.inr ⟨trivial, trivial, by omega⟩
/-- the distances of the reference -/
def FarI (G : Gr) (L F : Nat → Int) (j : Int) : Prop := (∀ x, x < G.n → 0 ≤ F x ∧ F x ≤ 99) ∧ (∀ x, x < G.n → F x ≤ 98 → L x ≤ F x) ∧ ∀ x, x < G.n → L x ≤ j → F x ≤ L x
def FarP (G : Gr) (lo hi f L F : Nat → Int) (j : Int) (σ : Nat) : Prop := ∀ x, x < G.n → L x = j + 1 → (∃ τ, τ < σ ∧ opB G lo hi f τ = true ∧ bgn G (c32 τ) = x ∧ L (edn G (c32 τ)) = j) → F x ≤ j + 1
theorem L_ltn {G : Gr} {lo hi f L : Nat → Int} {t : Nat} (h : LVs G lo hi f t (G.n : Int) L) (hn : G.n ≤ 8) {x : Nat} (hx : x < G.n) : L x = FAR9 ∨ (0 ≤ L x ∧ L x < (G.n : Int)) := by
  rcases h.1.2.1 x hx with h1 | h1
  · exact Or.inl h1
  · right
    refine ⟨h1.1, ?_⟩
    refine Classical.byContradiction fun hge => ?_
    have h2 := LVs.count h.1 G.n ⟨x, hx, by omega⟩ (by omega)
    have h3 := sumE_bd (n := G.n) (f := fun x => if 0 ≤ L x ∧ L x ≤ ((G.n : Nat) : Int) then (1 : Int) else 0) (a := 0) (b := 1) (fun x _ => by split <;> omega)
    omega
theorem Far_step {G : Gr} {lo hi f L F : Nat → Int} {t σ : Nat} {j : Int} (hG : GrOK G) (h : LVs G lo hi f t (G.n : Int) L) (hI : FarI G L F j) (hP : FarP G lo hi f L F j σ) (ho : opB G lo hi f σ = true) : FarI G L (upL F (bgn G (c32 σ)) (min (F (bgn G (c32 σ))) (F (edn G (c32 σ)) + 1))) j ∧ FarP G lo hi f L (upL F (bgn G (c32 σ)) (min (F (bgn G (c32 σ))) (F (edn G (c32 σ)) + 1))) j (σ + 1) := by
  have hF : FAR9 = 1000000000 := rfl
  have hn := hG.2.1
  obtain ⟨hm, hr⟩ := opB_rs ho
  have hb := bgn_lt hG.in hm
  have he := edn_lt hG.in hm
  obtain ⟨f1, f2, f3⟩ := hI
  have hle : ∀ x, x < G.n → upL F (bgn G (c32 σ)) (min (F (bgn G (c32 σ))) (F (edn G (c32 σ)) + 1)) x ≤ F x := fun x hx => by
    by_cases h9 : x = bgn G (c32 σ)
    · rw [h9, upL_s]; omega
    · rw [upL_n h9]; exact Int.le_refl _
  refine ⟨⟨fun x hx => ?_, fun x hx h9 => ?_, fun x hx h9 => ?_⟩, fun x hx hL ⟨τ, t1, t2, t3, t4⟩ => ?_⟩
  · have h1 := f1 x hx
    have h2 := f1 _ he
    by_cases h9 : x = bgn G (c32 σ)
    · subst h9; rw [upL_s]; omega
    · rw [upL_n h9]; exact h1
  · by_cases hx9 : x = bgn G (c32 σ)
    · subst hx9
      rw [upL_s] at h9 ⊢
      rcases Int.le_total (F (bgn G (c32 σ))) (F (edn G (c32 σ)) + 1) with hc | hc
      · have := f2 _ hx (by omega); omega
      · have h3 := f2 _ he (by omega)
        have h4 := f1 _ he
        have h5 := L_ltn h hn he
        have := h.near hr (by omega)
        omega
    · rw [upL_n hx9] at h9 ⊢; exact f2 x hx h9
  · have := f3 x hx h9
    have := hle x hx; omega
  · by_cases hτ : τ = σ
    · subst hτ
      have h3 := f3 _ he (by omega)
      rw [← t3, upL_s]; omega
    · have := hP x hx hL ⟨τ, by omega, t2, t3, t4⟩
      have := hle x hx; omega
theorem Far_turn {G : Gr} {lo hi f L F : Nat → Int} {t : Nat} {j : Int} (hG : GrOK G) (hj : 0 ≤ j) (hj9 : j < 1000) (h : LVs G lo hi f t (G.n : Int) L) (hI : FarI G L F j) (hP : FarP G lo hi f L F j 32) : FarI G L F (j + 1) := by
  have hF : FAR9 = 1000000000 := rfl
  have hn := hG.2.1
  obtain ⟨f1, f2, f3⟩ := hI
  refine ⟨f1, f2, fun x hx h9 => ?_⟩
  by_cases hx9 : L x ≤ j
  · exact f3 x hx hx9
  · have hx1 : L x = j + 1 := by omega
    obtain ⟨y, y1, y2, y3⟩ := h.1.2.2 x hx (by omega) (by omega)
    obtain ⟨σ, s1, s2, s3, s4⟩ := RS_sign hG.2.2.1 y2
    have := hP x hx hx1 ⟨σ, s1, s2, s3, by rw [s4, y3]; omega⟩
    omega
theorem Far_end {G : Gr} {lo hi f L F : Nat → Int} {t : Nat} (hG : GrOK G) (h : LVs G lo hi f t (G.n : Int) L) (hI : FarI G L F (G.n : Int)) {x : Nat} (hx : x < G.n) : F x = if L x = FAR9 then 99 else L x := by
  have hF : FAR9 = 1000000000 := rfl
  have hn := hG.2.1
  obtain ⟨f1, f2, f3⟩ := hI
  have h1 := f1 x hx
  rcases L_ltn h hn hx with h2 | h2
  · rw [if_pos h2]
    by_cases h3 : F x ≤ 98
    · have := f2 x hx h3; omega
    · omega
  · rw [if_neg (by omega)]
    have h3 := f3 x hx (by omega)
    have h4 := f2 x hx (by omega)
    omega
section MRD
variable {X : xX} {c : xCx} {I : xIn} {i : Nat} {G : Gr} {lo hi : Nat → Int} {s t : Nat}
theorem ok_isOpen (hX : xBase X) (d : Nat) (hG : GrOK G) (hM : MG I i G) (hN : MN I i G.m lo hi) {σ : Nat} (hs : σ < 32) : xRet rB X m_X10_isOpen d [xr (1, 0), xi (i : Int), xi (σ : Int)] c I 0 0 (pv (opB G lo hi (I (1, 19)) σ) I) xNo := by
  have hm := hG.2.2.1
  obtain ⟨h4, hn9, hm9, hE⟩ := id hM
  refine xRet_of hX pl_X10_isOpen (LE1 rfl) fun V hV => rg_X10_isOpen_0 hV I _ _ ⟨⟨by omega, by omega⟩, fun h => ⟨⟨by omega, by omega⟩, ⟨by omega, by omega⟩, ?_⟩, fun h => ⟨⟨by omega, by omega⟩, ?_⟩⟩
  · obtain ⟨a, b⟩ := c32_b (show ¬ σ < 16 by omega)
    unfold opB
    rw [tnN, hm9, b, a]
    refine ⟨fun h9 => pvI (decide_eq_false (fun q => by omega)).symm, fun h9 => ⟨⟨by omega, by omega⟩, ⟨by omega, by omega⟩, ?_⟩⟩
    rw [show Int.toNat ((σ : Int) - 16) = σ - 16 by omega, show Int.toNat (16 * (i : Int) + (σ : Int) - 16) = 16 * i + (σ - 16) by omega, (hN (σ - 16) (by omega)).1]
    simp only [rsp, if_neg (show ¬ σ + 16 < 32 by omega), show σ + 16 - 32 = σ - 16 by omega]
    exact ⟨fun h8 => pvI (decide_eq_false (fun q => by omega)).symm, fun h8 => pvI (decide_eq_true ⟨by omega, by omega⟩).symm⟩
  · obtain ⟨a, b⟩ := c32_f (show σ < 16 by omega)
    unfold opB
    rw [tnN, hm9, b, a]
    refine ⟨fun h9 => pvI (decide_eq_false (fun q => by omega)).symm, fun h9 => ⟨⟨by omega, by omega⟩, ⟨by omega, by omega⟩, ?_⟩⟩
    rw [tn16, tnN, (hN σ (by omega)).2]
    simp only [rsp, if_pos (show σ < 32 by omega)]
    exact ⟨fun h8 => pvI (decide_eq_false (fun q => by omega)).symm, fun h8 => pvI (decide_eq_true ⟨by omega, by omega⟩).symm⟩
theorem ok_begin (hX : xBase X) (d : Nat) (hG : GrOK G) (hM : MG I i G) {σ : Nat} (hs : σ < 32) (he : eg (c32 σ) < G.m) : xRet rI X m_X10_begin d [xr (1, 0), xi (i : Int), xi (σ : Int)] c I 0 0 (pv (bgn G (c32 σ) : Int) I) xNo := by
  have hm := hG.2.2.1
  obtain ⟨h4, hn9, hm9, hE⟩ := id hM
  refine xRet_of hX pl_X10_begin (LE1 rfl) fun V hV => rg_X10_begin_0 hV I _ _ ⟨⟨by omega, by omega⟩, fun h => ⟨⟨by omega, by omega⟩, ?_⟩, fun h => ⟨⟨by omega, by omega⟩, ?_⟩⟩
  · obtain ⟨a, b⟩ := c32_b (show ¬ σ < 16 by omega)
    rw [show Int.toNat (16 * (i : Int) + (σ : Int) - 16) = 16 * i + (σ - 16) by omega, (hE (σ - 16) (by omega)).2, a]
    simp only [bgn, if_neg (show ¬ σ + 16 < 32 by omega), show σ + 16 - 32 = σ - 16 by omega]
    exact pvI rfl
  · obtain ⟨a, b⟩ := c32_f (show σ < 16 by omega)
    rw [tn16, (hE σ (by omega)).1, a]
    simp only [bgn, if_pos (show σ < 32 by omega)]
    exact pvI rfl
theorem ok_end (hX : xBase X) (d : Nat) (hG : GrOK G) (hM : MG I i G) {σ : Nat} (hs : σ < 32) (he : eg (c32 σ) < G.m) : xRet rI X m_X10_end d [xr (1, 0), xi (i : Int), xi (σ : Int)] c I 0 0 (pv (edn G (c32 σ) : Int) I) xNo := by
  have hm := hG.2.2.1
  obtain ⟨h4, hn9, hm9, hE⟩ := id hM
  refine xRet_of hX pl_X10_end (LE1 rfl) fun V hV => rg_X10_end_0 hV I _ _ ⟨⟨by omega, by omega⟩, fun h => ⟨⟨by omega, by omega⟩, ?_⟩, fun h => ⟨⟨by omega, by omega⟩, ?_⟩⟩
  · obtain ⟨a, b⟩ := c32_b (show ¬ σ < 16 by omega)
    rw [show Int.toNat (16 * (i : Int) + (σ : Int) - 16) = 16 * i + (σ - 16) by omega, (hE (σ - 16) (by omega)).1, a]
    simp only [edn, if_neg (show ¬ σ + 16 < 32 by omega), show σ + 16 - 32 = σ - 16 by omega]
    exact pvI rfl
  · obtain ⟨a, b⟩ := c32_f (show σ < 16 by omega)
    rw [tn16, (hE σ (by omega)).2, a]
    simp only [edn, if_pos (show σ < 32 by omega)]
    exact pvI rfl
theorem MN.k9 {J : xIn} {ps : List xP} {m : Nat} (h : MN I i m lo hi) (hk : kp ps I J) (h5 : (1, 5) ∉ ps) (h6 : (1, 6) ∉ ps) : MN J i m lo hi := fun e he => by rw [hk _ h5, hk _ h6]; exact h e he
theorem MG.k9 {J : xIn} {ps : List xP} (h : MG I i G) (hk : kp ps I J) (h1 : (1, 1) ∉ ps) (h2 : (1, 2) ∉ ps) (h3 : (1, 3) ∉ ps) (h4 : (1, 4) ∉ ps) : MG J i G := h.eq (hk _ h1) (hk _ h2) (hk _ h3) (hk _ h4)
theorem ok_measures (hX : xBase X) (d : Nat) (hG : GrOK G) (hM : MG I i G) (hN : MN I i G.m lo hi) (ht : t < G.n) : xRet rU X m_X10_measures (d + 1) [xr (1, 0), xi (i : Int), xi (t : Int)] c I 0 0 (fun _ I9 => kp [(1, 20)] I I9 ∧ ∃ L, LVs G lo hi (I (1, 19)) t (G.n : Int) L ∧ ∀ x, x < G.n → I9 (1, 20) x = if L x = FAR9 then 99 else L x) xNo := by
  have hF : FAR9 = 1000000000 := rfl
  have hn := hG.2.1
  obtain ⟨h4, hn9, hm9, hE⟩ := id hM
  obtain ⟨L, hL⟩ := LVs_ex (lo := lo) (hi := hi) (f := I (1, 19)) (t := t) hG.in G.n (by omega)
  refine xRet_of hX pl_X10_measures (LE1 rfl) fun V hV => rg_X10_measures_0 hV I _ _ ?_
  refine up_to0 (m := G.n) (W := fun k => ∀ J, kp [(1, 20)] I J → (∀ x, x < k → J (1, 20) x = if x = t then 0 else 99) → V 2 [(0, xr (1, 0)), (1, xi (i : Int)), (2, xi (t : Int)), (3, xi (k : Int))] [] (J, xst c) 0 0) ?_ ?_ I kp.rfl (fun x hx => absurd hx (Nat.not_lt_zero x))
  · intro J kJ hJ
    refine rg_X10_measures_2 hV J _ _ _ ⟨⟨by omega, by omega⟩, ⟨by omega, by omega⟩, fun _ => ?_, fun h => ?_⟩
    · refine up_to0 (m := G.n) (W := fun j => ∀ J, kp [(1, 20)] I J → FarI G L (J (1, 20)) (j : Int) → V 37 [(0, xr (1, 0)), (1, xi (i : Int)), (3, xi (j : Int))] [] (J, xst c) 0 0) ?_ ?_ J kJ ⟨fun x hx => ?_, fun x hx h9 => ?_, fun x hx h9 => ?_⟩
      · intro J kJ hI9
        refine rg_X10_measures_37 hV J _ _ ⟨⟨by omega, by omega⟩, ⟨by omega, by omega⟩, fun _ => ⟨kJ, L, hL, fun x hx => Far_end hG hL hI9 hx⟩, fun h => ?_⟩
        rw [kJ _ (by decide), tnN, hn9] at h; omega
      · intro j hj ih J kJ hI9
        refine rg_X10_measures_37 hV J _ _ ⟨⟨by omega, by omega⟩, ⟨by omega, by omega⟩, fun h => ?_, fun _ => ?_⟩
        · rw [kJ _ (by decide), tnN, hn9] at h; omega
        refine up_to0 (m := 32) (W := fun σ => ∀ J, kp [(1, 20)] I J → FarI G L (J (1, 20)) (j : Int) → FarP G lo hi (I (1, 19)) L (J (1, 20)) (j : Int) σ → V 50 [(0, xr (1, 0)), (1, xi (i : Int)), (3, xi (j : Int)), (4, xi (σ : Int))] [] (J, xst c) 0 0) ?_ ?_ J kJ hI9 (fun x hx _ ⟨τ, h9, _⟩ => absurd h9 (Nat.not_lt_zero τ))
        · intro J kJ hI9 hP
          refine rg_X10_measures_50 hV J _ _ _ ⟨⟨by omega, by omega⟩, fun _ => ih J kJ (Far_turn hG (by omega) (by omega) hL hI9 hP), fun h => absurd h (by decide)⟩
        · intro σ hσ ih2 J kJ hI9 hP
          have hMJ : MG J i G := hM.k9 kJ (by decide) (by decide) (by decide) (by decide)
          have hNJ : MN J i G.m lo hi := hN.k9 kJ (by decide) (by decide)
          have h19 : J (1, 19) = I (1, 19) := kJ _ (by decide)
          refine rg_X10_measures_50 hV J _ _ _ ⟨⟨by omega, by omega⟩, fun h => by omega, fun _ => ⟨_, ok_isOpen hX d hG hMJ hNJ hσ, ?_⟩⟩
          rintro v J2 ⟨hv, rfl⟩
          rw [h19] at hv
          refine ⟨fun z => ih2 J2 kJ hI9 fun x hx hLx ⟨τ, t1, t2, t3, t4⟩ => ?_, fun z => ?_⟩
          · by_cases hτ : τ = σ
            · rw [hτ, ← hv, z] at t2; cases t2
            · exact hP x hx hLx ⟨τ, by omega, t2, t3, t4⟩
          · have ho : opB G lo hi (I (1, 19)) σ = true := by rw [← hv]; exact z
            obtain ⟨hme, -⟩ := opB_rs ho
            have hb := bgn_lt hG.in hme
            have he := edn_lt hG.in hme
            have hst := Far_step hG hL hI9 hP ho
            have b1 := hI9.1 _ hb
            have b2 := hI9.1 _ he
            refine ⟨_, ok_begin hX d hG hMJ hσ hme, ?_⟩
            rintro _ J2 ⟨rfl, rfl⟩
            refine ⟨_, ok_begin hX d hG hMJ hσ hme, ?_⟩
            rintro _ J2 ⟨rfl, rfl⟩
            refine ⟨⟨by omega, by omega⟩, _, ok_end hX d hG hMJ hσ hme, ?_⟩
            rintro _ J2 ⟨rfl, rfl⟩
            rw [tnN, tnN]
            refine ⟨⟨by omega, by omega⟩, _, ok_min hX d ⟨by omega, by omega⟩ ⟨by omega, by omega⟩, ?_⟩
            rintro _ J2 ⟨rfl, rfl⟩
            refine ⟨⟨by omega, by omega⟩, ⟨by omega, by omega⟩, ?_⟩
            rintro K eK
            have q : K (1, 20) = upL (J2 (1, 20)) (bgn G (c32 σ)) (min (J2 (1, 20) (bgn G (c32 σ))) (J2 (1, 20) (edn G (c32 σ)) + 1)) := by rw [eK, xuL]
            exact ih2 K (by rw [eK]; exact kJ.xu (by simp)) (by rw [q]; exact hst.1) (by rw [q]; exact hst.2)
      · rw [hJ x hx]; split <;> omega
      · have h9 : J (1, 20) x ≤ 98 := h9
        rw [hJ x hx] at h9 ⊢
        by_cases hxt : x = t
        · rw [if_pos hxt]
          have := (hL.1.1 x hx).mpr hxt
          omega
        · rw [if_neg hxt] at h9; omega
      · have h9 : L x ≤ ((0 : Nat) : Int) := h9
        have h8 := L_ltn hL hn hx
        have h7 : L x = 0 := by omega
        rw [hJ x hx, if_pos ((hL.1.1 x hx).mp h7), h7]
        exact Int.le_refl _
    · rw [kJ _ (by decide), tnN, hn9] at h; omega
  · intro k hk ih J kJ hJ
    have nxt : ∀ (K : xIn) (z : Int), K = xu J (1, 20) k z → (z = if k = t then 0 else 99) → V 2 [(0, xr (1, 0)), (1, xi (i : Int)), (2, xi (t : Int)), (3, xi ((k : Int) + 1))] [] (K, xst c) 0 0 := fun K z eK hz => by
      refine ih K (by rw [eK]; exact kJ.xu (by simp)) fun x hx => ?_
      rw [eK, xuL]
      by_cases hxk : x = k
      · rw [hxk, upL_s]; exact hz
      · rw [upL_n hxk]; exact hJ x (by omega)
    refine rg_X10_measures_2 hV J _ _ _ ⟨⟨by omega, by omega⟩, ⟨by omega, by omega⟩, fun h => ?_, fun _ => ⟨⟨by omega, by omega⟩, fun h => ⟨⟨by omega, by omega⟩, fun K eK => nxt K 99 eK (by rw [if_neg (by omega)])⟩, fun h => ⟨⟨by omega, by omega⟩, fun K eK => nxt K 0 eK (by rw [if_pos (by omega)])⟩⟩⟩
    rw [kJ _ (by decide), tnN, hn9] at h; omega
end MRD
