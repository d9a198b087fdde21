/-! rounds by the reference -/
theorem step_cong {G : Gr} (hG : GrOK G) {hi hi9 f f9 : Nat → Int} {s t : Nat} (hs : s < G.n) (hst : s ≠ t) (h : ∀ e, e < G.m → hi e = hi9 e) (hf : ∀ e, e < G.m → f e = f9 e) : kC G hi f s t = kC G hi9 f9 s t ∧ aC G hi f s t = aC G hi9 f9 s t ∧ (∀ x, x < kC G hi f s t → wC G hi f s t x = wC G hi9 f9 s t x) ∧ ∀ e, e < G.m → nC G hi f s t e = nC G hi9 f9 s t e := by
  have hn := hG.2.1
  by_cases h0 : kC G hi f s t = 0
  · have h9 : kC G hi9 f9 s t = 0 := by
      refine Classical.byContradiction fun hne => ?_
      obtain ⟨hw, hkn⟩ := wayC hG hs hst hne
      have hw9 := Way_cong (lo9 := fun _ => 0) (hi9 := hi) (f9 := f) (fun _ _ => rfl) (fun e he => (h e he).symm) (fun e he => (hf e he).symm) hw
      have := (kC_way hG hs hst hw9 (by omega)).1
      rw [h0] at this
      exact hne this.symm
    refine ⟨by rw [h0, h9], ?_, fun x hx => by omega, fun e he => ?_⟩
    · unfold aC; rw [if_pos h0, if_pos h9]
    · unfold nC; rw [h0, h9]; exact hf e he
  · obtain ⟨hw, hkn⟩ := wayC hG hs hst h0
    have hw9 := Way_cong (lo9 := fun _ => 0) (hi9 := hi9) (f9 := f9) (fun _ _ => rfl) h hf hw
    obtain ⟨w1, w2, w3, w4⟩ := kC_way hG hs hst hw9 (by omega)
    have ha : aC G hi f s t = aC G hi9 f9 s t := by
      rw [w3]
      show (if kC G hi f s t = 0 then 0 else mw 1000000 (fun i => rsp (fun _ => 0) hi f (wC G hi f s t i)) (kC G hi f s t)) = _
      rw [if_neg h0]
      exact mw_cong fun i hi => rsp_cong (m := G.m) (fun _ _ => rfl) h hf (hw.2.2.2.2 i hi).2.2.1
    refine ⟨w1.symm, ha, fun x hx => w2 x hx, fun e he => ?_⟩
    rw [w4, ← w3, ← ha]
    exact ap_cong (m := G.m) hf (fun i hi => (hw.2.2.2.2 i hi).2.2.1) e he
def c32 (σ : Nat) : Nat := if σ < 16 then σ else σ + 16
def opB (G : Gr) (lo hi f : Nat → Int) (σ : Nat) : Bool := decide (eg (c32 σ) < G.m ∧ 0 < rsp lo hi f (c32 σ))
theorem c32_f {σ : Nat} (h : σ < 16) : c32 σ = σ ∧ eg (c32 σ) = σ := by
  unfold c32 eg
  rw [if_pos h, if_pos (by omega)]; exact ⟨rfl, rfl⟩
theorem c32_b {σ : Nat} (h : ¬ σ < 16) : c32 σ = σ + 16 ∧ eg (c32 σ) = σ - 16 := by
  unfold c32 eg
  rw [if_neg h, if_neg (by omega)]; exact ⟨rfl, by omega⟩
theorem c32_s {τ : Nat} (h : eg τ < 16) : c32 (s16 τ) = τ ∧ s16 τ < 32 ∧ s16 τ % 16 = eg τ ∧ (s16 τ < 16 ↔ τ < 32) := by
  unfold eg at h
  unfold c32 s16 eg
  by_cases h1 : τ < 32
  · rw [if_pos h1] at h
    rw [if_pos h1, if_pos h1, if_pos h]; omega
  · rw [if_neg h1] at h
    rw [if_neg h1, if_neg h1, if_neg (by omega)]; omega
theorem lsg_min {G : Gr} {lo hi f L : Nat → Int} {x : Nat} {nx : Int} {τ σ : Nat} (hm : G.m ≤ 16) (h : lsg G lo hi f L x nx = (τ : Int)) (h1 : eg (c32 σ) < G.m) (h2 : bgn G (c32 σ) = x) (h3 : L (edn G (c32 σ)) = nx) (h4 : 0 < rsp lo hi f (c32 σ)) : s16 τ ≤ σ := by
  unfold lsg at h
  rcases ff_cases (fwB G hi f L x nx) G.m with ⟨q1, q2⟩ | ⟨e, q1, q2, q3, q4⟩
  · rw [q1, if_pos rfl] at h
    by_cases hs : σ < 16
    · obtain ⟨a, b⟩ := c32_f hs
      rw [b] at h1
      rw [a] at h2 h3 h4
      have := q2 σ h1
      unfold fwB at this
      have := of_decide_eq_false this
      simp only [bgn, edn, rsp, if_pos (show σ < 32 by omega)] at h2 h3 h4
      exact absurd ⟨h2, h3, by omega⟩ this
    · obtain ⟨a, b⟩ := c32_b hs
      rw [b] at h1
      rw [a] at h2 h3 h4
      simp only [bgn, edn, rsp, if_neg (show ¬ σ + 16 < 32 by omega), show σ + 16 - 32 = σ - 16 by omega] at h2 h3 h4
      rcases bks_c (bwB G lo f L x nx) G.m with ⟨r1, r2⟩ | ⟨e, r1, r2, r3, r4⟩
      · rw [r1] at h; omega
      · rw [r2] at h
        have hle : e ≤ σ - 16 := by
          refine Classical.byContradiction fun hlt => ?_
          have := r4 (σ - 16) (by omega)
          unfold bwB at this
          exact absurd ⟨h2, h3, by omega⟩ (of_decide_eq_false this)
        unfold s16
        rw [if_neg (by omega)]; omega
  · rw [q2, if_neg (by omega)] at h
    have hτ : τ = e := by omega
    subst hτ
    unfold s16
    rw [if_pos (by omega)]
    by_cases hs : σ < 16
    · obtain ⟨a, b⟩ := c32_f hs
      rw [b] at h1
      rw [a] at h2 h3 h4
      simp only [bgn, edn, rsp, if_pos (show σ < 32 by omega)] at h2 h3 h4
      refine Classical.byContradiction fun hlt => ?_
      have := q4 σ (by omega)
      unfold fwB at this
      exact absurd ⟨h2, h3, by omega⟩ (of_decide_eq_false this)
    · omega
theorem bgn_lt {G : Gr} (hG : GrIn G) {σ : Nat} (h : eg σ < G.m) : bgn G σ < G.n := by
  by_cases hs : σ < 32
  · simp only [eg, if_pos hs] at h
    simp only [bgn, if_pos hs]; exact (hG _ h).1
  · simp only [eg, if_neg hs] at h
    simp only [bgn, if_neg hs]; exact (hG _ h).2
theorem RS_sign {G : Gr} (hm : G.m ≤ 16) {lo hi f : Nat → Int} {x y : Nat} (h : RS G lo hi f x y) : ∃ σ, σ < 32 ∧ opB G lo hi f σ = true ∧ bgn G (c32 σ) = x ∧ edn G (c32 σ) = y := by
  obtain ⟨e, he, ⟨h1, h2, h3⟩ | ⟨h1, h2, h3⟩⟩ := h
  · obtain ⟨a, b⟩ := c32_f (show e < 16 by omega)
    refine ⟨e, by omega, decide_eq_true ⟨by omega, ?_⟩, ?_, ?_⟩
    · rw [a]; simp only [rsp, if_pos (show e < 32 by omega)]; omega
    · rw [a]; simp only [bgn, if_pos (show e < 32 by omega)]; exact h1
    · rw [a]; simp only [edn, if_pos (show e < 32 by omega)]; exact h2
  · obtain ⟨a, b⟩ := c32_b (show ¬ e + 16 < 16 by omega)
    rw [show e + 16 + 16 = e + 32 by omega] at a
    refine ⟨e + 16, by omega, decide_eq_true ⟨by omega, ?_⟩, ?_, ?_⟩
    · rw [a]; simp only [rsp, if_neg (show ¬ e + 32 < 32 by omega), Nat.add_sub_cancel]; omega
    · rw [a]; simp only [bgn, if_neg (show ¬ e + 32 < 32 by omega), Nat.add_sub_cancel]; exact h1
    · rw [a]; simp only [edn, if_neg (show ¬ e + 32 < 32 by omega), Nat.add_sub_cancel]; exact h2
theorem opB_rs {G : Gr} {lo hi f : Nat → Int} {σ : Nat} (h : opB G lo hi f σ = true) : eg (c32 σ) < G.m ∧ RS G lo hi f (bgn G (c32 σ)) (edn G (c32 σ)) := by
  obtain ⟨h1, h2⟩ := of_decide_eq_true h
  refine ⟨h1, eg (c32 σ), h1, ?_⟩
  by_cases hs : c32 σ < 32
  · simp only [eg, bgn, edn, rsp, if_pos hs] at *
    exact Or.inl ⟨trivial, trivial, by omega⟩
  · simp only [eg, bgn, edn, rsp, if_neg hs] at *
    exact Or.inr ⟨trivial, trivial, by omega⟩
/-- the distances of the reference -/
def FarI (G : Gr) (L F : Nat → Int) (j : Int) : Prop := (∀ x, x < G.n → 0 ≤ F x ∧ F x ≤ 99) ∧ (∀ x, x < G.n → F x ≤ 98 → L x ≤ F x) ∧ ∀ x, x < G.n → L x ≤ j → F x ≤ L x
def FarP (G : Gr) (lo hi f L F : Nat → Int) (j : Int) (σ : Nat) : Prop := ∀ x, x < G.n → L x = j + 1 → (∃ τ, τ < σ ∧ opB G lo hi f τ = true ∧ bgn G (c32 τ) = x ∧ L (edn G (c32 τ)) = j) → F x ≤ j + 1
theorem L_ltn {G : Gr} {lo hi f L : Nat → Int} {t : Nat} (h : LVs G lo hi f t (G.n : Int) L) (hn : G.n ≤ 8) {x : Nat} (hx : x < G.n) : L x = FAR9 ∨ (0 ≤ L x ∧ L x < (G.n : Int)) := by
  rcases h.1.2.1 x hx with h1 | h1
  · exact Or.inl h1
  · right
    refine ⟨h1.1, ?_⟩
    refine Classical.byContradiction fun hge => ?_
    have h2 := LVs.count h.1 G.n ⟨x, hx, by omega⟩ (by omega)
    have h3 := sumE_bd (n := G.n) (f := fun x => if 0 ≤ L x ∧ L x ≤ ((G.n : Nat) : Int) then (1 : Int) else 0) (a := 0) (b := 1) (fun x _ => by split <;> omega)
    omega
theorem Far_step {G : Gr} {lo hi f L F : Nat → Int} {t σ : Nat} {j : Int} (hG : GrOK G) (h : LVs G lo hi f t (G.n : Int) L) (hI : FarI G L F j) (hP : FarP G lo hi f L F j σ) (ho : opB G lo hi f σ = true) : FarI G L (upL F (bgn G (c32 σ)) (min (F (bgn G (c32 σ))) (F (edn G (c32 σ)) + 1))) j ∧ FarP G lo hi f L (upL F (bgn G (c32 σ)) (min (F (bgn G (c32 σ))) (F (edn G (c32 σ)) + 1))) j (σ + 1) := by
  have hF : FAR9 = 1000000000 := rfl
  have hn := hG.2.1
  obtain ⟨hm, hr⟩ := opB_rs ho
  have hb := bgn_lt hG.in hm
  have he := edn_lt hG.in hm
  obtain ⟨f1, f2, f3⟩ := hI
  have hle : ∀ x, x < G.n → upL F (bgn G (c32 σ)) (min (F (bgn G (c32 σ))) (F (edn G (c32 σ)) + 1)) x ≤ F x := fun x hx => by
    by_cases h9 : x = bgn G (c32 σ)
    · rw [h9, upL_s]; omega
    · rw [upL_n h9]; exact Int.le_refl _
  refine ⟨⟨fun x hx => ?_, fun x hx h9 => ?_, fun x hx h9 => ?_⟩, fun x hx hL ⟨τ, t1, t2, t3, t4⟩ => ?_⟩
  · have h1 := f1 x hx
    have h2 := f1 _ he
    by_cases h9 : x = bgn G (c32 σ)
    · subst h9; rw [upL_s]; omega
    · rw [upL_n h9]; exact h1
  · by_cases hx9 : x = bgn G (c32 σ)
    · subst hx9
      rw [upL_s] at h9 ⊢
      rcases Int.le_total (F (bgn G (c32 σ))) (F (edn G (c32 σ)) + 1) with hc | hc
      · have := f2 _ hx (by omega); omega
      · have h3 := f2 _ he (by omega)
        have h4 := f1 _ he
        have h5 := L_ltn h hn he
        have := h.near hr (by omega)
        omega
    · rw [upL_n hx9] at h9 ⊢; exact f2 x hx h9
  · have := f3 x hx h9
    have := hle x hx; omega
  · by_cases hτ : τ = σ
    · subst hτ
      have h3 := f3 _ he (by omega)
      rw [← t3, upL_s]; omega
    · have := hP x hx hL ⟨τ, by omega, t2, t3, t4⟩
      have := hle x hx; omega
theorem Far_turn {G : Gr} {lo hi f L F : Nat → Int} {t : Nat} {j : Int} (hG : GrOK G) (hj : 0 ≤ j) (hj9 : j < 1000) (h : LVs G lo hi f t (G.n : Int) L) (hI : FarI G L F j) (hP : FarP G lo hi f L F j 32) : FarI G L F (j + 1) := by
  have hF : FAR9 = 1000000000 := rfl
  have hn := hG.2.1
  obtain ⟨f1, f2, f3⟩ := hI
  refine ⟨f1, f2, fun x hx h9 => ?_⟩
  by_cases hx9 : L x ≤ j
  · exact f3 x hx hx9
  · have hx1 : L x = j + 1 := by omega
    obtain ⟨y, y1, y2, y3⟩ := h.1.2.2 x hx (by omega) (by omega)
    obtain ⟨σ, s1, s2, s3, s4⟩ := RS_sign hG.2.2.1 y2
    have := hP x hx hx1 ⟨σ, s1, s2, s3, by rw [s4, y3]; omega⟩
    omega
theorem Far_end {G : Gr} {lo hi f L F : Nat → Int} {t : Nat} (hG : GrOK G) (h : LVs G lo hi f t (G.n : Int) L) (hI : FarI G L F (G.n : Int)) {x : Nat} (hx : x < G.n) : F x = if L x = FAR9 then 99 else L x := by
  have hF : FAR9 = 1000000000 := rfl
  have hn := hG.2.1
  obtain ⟨f1, f2, f3⟩ := hI
  have h1 := f1 x hx
  rcases L_ltn h hn hx with h2 | h2
  · rw [if_pos h2]
    by_cases h3 : F x ≤ 98
    · have := f2 x hx h3; omega
    · omega
  · rw [if_neg (by omega)]
    have h3 := f3 x hx (by omega)
    have h4 := f2 x hx (by omega)
    omega
section MRD
variable {X : xX} {c : xCx} {I : xIn} {i : Nat} {G : Gr} {lo hi : Nat → Int} {s t : Nat}
end MRD
