/-! what flows, cuts and crowds are, as the law looks at them -/
theorem cntF_1 {q : Nat → Bool} {n : Nat} (h : ∃ S, S < n ∧ q S = true) : 1 ≤ cntF q n := by
  induction n with
  | zero => obtain ⟨S, hS, -⟩ := h; omega
  | succ n ih =>
    obtain ⟨S, hS, hq⟩ := h
    unfold cntF
    by_cases hn : q n = true
    · rw [if_pos hn]; omega
    · rw [if_neg hn]
      have : S ≠ n := fun z => hn (z ▸ hq)
      exact ih ⟨S, by omega, hq⟩
theorem cntF_2 {q : Nat → Bool} {n A B : Nat} (hA : A < n) (hB : B < n) (hAB : A ≠ B) (h1 : q A = true) (h2 : q B = true) : 2 ≤ cntF q n := by
  induction n with
  | zero => omega
  | succ n ih =>
    unfold cntF
    by_cases hn : q n = true
    · rw [if_pos hn]
      have : 1 ≤ cntF q n := by
        by_cases hAn : A = n
        · exact cntF_1 ⟨B, by omega, h2⟩
        · exact cntF_1 ⟨A, by omega, h1⟩
      omega
    · rw [if_neg hn]
      have e1 : A ≠ n := fun z => hn (z ▸ h1)
      have e2 : B ≠ n := fun z => hn (z ▸ h2)
      exact ih (by omega) (by omega)
section PF
variable {G : Gr} {lo hi co : Nat → Int} {s t : Nat}
def BD (G : Gr) (lo hi : Nat → Int) : Prop := ∀ e, e < G.m → 0 ≤ lo e ∧ lo e ≤ hi e ∧ hi e ≤ 99
theorem BD.c (h : BD G lo hi) : ∀ e, e < G.m → (-100 ≤ lo e ∧ lo e ≤ 100) ∧ (-100 ≤ hi e ∧ hi e ≤ 100) := fun e he => by
  have := h e he
  omega
theorem pf_nocrowd (h : amountF G lo hi s t ≠ NONE9) : ∀ S, S < 2 ^ G.n → crowdP G lo hi s t S = false := by
  unfold amountF at h
  by_cases h0 : 0 ≤ ff (crowdP G lo hi s t) (2 ^ G.n)
  · rw [if_pos h0] at h; exact absurd rfl h
  · rcases ff_cases (crowdP G lo hi s t) (2 ^ G.n) with ⟨-, h2⟩ | ⟨S, -, h2, -⟩
    · exact h2
    · omega
theorem pf_flow (hG : GrOK G) (hs : s < G.n) (ht : t < G.n) (hst : s ≠ t) (hb : BD G lo hi) (h : amountF G lo hi s t ≠ NONE9) : ∃ f, FS G lo hi (isB s t (amountF G lo hi s t)) f :=
  (flow_ex hG hs ht hst (fun e he => by have := hb e he; omega) (pf_nocrowd h)).2
theorem pf_row (hG : GrOK G) (hs : s < G.n) (ht : t < G.n) (hst : s ≠ t) (hb : BD G lo hi) (h : amountF G lo hi s t ≠ NONE9) : FS G lo hi (isB s t (amountF G lo hi s t)) (lxF G lo hi s t (amountF G lo hi s t) G.m).1 := by
  obtain ⟨f, hf⟩ := pf_flow hG hs ht hst hb h
  obtain ⟨h1, g, h2⟩ := lxF_ok hG.in hs ht hst hf (Nat.le_refl G.m)
  have hg : ∀ e, e < G.m → g e = (lxF G lo hi s t (amountF G lo hi s t) G.m).1 e := fun e he => by
    have a1 := h2.1 e he
    have a2 := lxF_same (G := G) (lo := lo) (hi := hi) (s := s) (t := t) (a := amountF G lo hi s t) he
    omega
  refine FS_cong hg ⟨fun e he => ?_, h2.2⟩
  have a1 := h2.1 e he
  have a2 := h1 e he
  omega
theorem pf_crowd (hG : GrOK G) (hs : s < G.n) (ht : t < G.n) (hst : s ≠ t) (hb : BD G lo hi) (h : amountF G lo hi s t = NONE9) : ∃ S, S < 2 ^ G.n ∧ crowdP G lo hi s t S = true ∧ ff (crowdP G lo hi s t) (2 ^ G.n) = (S : Int) := by
  rcases ff_cases (crowdP G lo hi s t) (2 ^ G.n) with ⟨-, h2⟩ | ⟨S, h1, h2, h3, -⟩
  · exact absurd h (flow_ex hG hs ht hst (fun e he => by have := hb e he; omega) h2).1
  · exact ⟨S, h1, h3, h2⟩
theorem pf_all (h : amountF G lo hi s t ≠ NONE9) (hc : ∀ S, S < 2 ^ G.n → cutV G lo hi S ≠ NONE9) {S : Nat} (hS : S < 2 ^ G.n) (hb : btw s t S = true) : amountF G lo hi s t ≤ cutV G lo hi S := by
  have e := amountF_mn h
  rcases mn_spec (none := NONE9) (p := btw s t) (f := cutV G lo hi) hc with ⟨h1, -⟩ | ⟨-, -, h3⟩
  · rw [← e] at h1; exact absurd h1 h
  · rw [e]; exact h3 S hS hb
theorem pf_cutq (hG : GrOK G) (hs : s < G.n) (ht : t < G.n) (hst : s ≠ t) (hb : BD G lo hi) (h : amountF G lo hi s t ≠ NONE9) : ∀ A B, A < 2 ^ G.n → B < 2 ^ G.n → cutQ G lo hi s t A = true → cutQ G lo hi s t B = true → cutQ G lo hi s t (A &&& B) = true ∧ cutQ G lo hi s t (A ||| B) = true := by
  obtain ⟨f, hf⟩ := pf_flow hG hs ht hst hb h
  intro A B _ _ hA hB
  unfold cutQ eqQ at hA hB ⊢
  rw [Bool.and_eq_true] at hA hB
  obtain ⟨a1, a2⟩ := hA
  obtain ⟨b1, b2⟩ := hB
  have a2 := of_decide_eq_true a2
  have b2 := of_decide_eq_true b2
  have tA := (cut_tgt hG.in hs ht hst hf a1).mp a2
  have tB := (cut_tgt hG.in hs ht hst hf b1).mp b2
  obtain ⟨t1, t2⟩ := tgt_and tA tB
  have a3 := btw_i.mp a1
  have b3 := btw_i.mp b1
  have c1 : btw s t (A &&& B) = true := btw_i.mpr ⟨by rw [Nat.testBit_and, a3.1, b3.1]; rfl, by rw [Nat.testBit_and, a3.2]; rfl⟩
  have c2 : btw s t (A ||| B) = true := btw_i.mpr ⟨by rw [Nat.testBit_or, a3.1]; rfl, by rw [Nat.testBit_or, a3.2, b3.2]; rfl⟩
  rw [Bool.and_eq_true, Bool.and_eq_true]
  exact ⟨⟨c1, decide_eq_true ((cut_tgt hG.in hs ht hst hf c1).mpr t1)⟩, c2, decide_eq_true ((cut_tgt hG.in hs ht hst hf c2).mpr t2)⟩
theorem pf_ex (hG : GrOK G) (hb : BD G lo hi) (h : amountF G lo hi s t ≠ NONE9) : ∃ S, S < 2 ^ G.n ∧ cutQ G lo hi s t S = true := by
  obtain ⟨S, h1, h2, h3⟩ := amount_at hG hb.c h
  exact ⟨S, h1, by unfold cutQ eqQ; rw [h2, Bool.true_and]; exact decide_eq_true h3⟩
theorem cutQ_i {S : Nat} (h : cutQ G lo hi s t S = true) : btw s t S = true ∧ cutV G lo hi S = amountF G lo hi s t := by
  unfold cutQ eqQ at h
  rw [Bool.and_eq_true] at h
  exact ⟨h.1, of_decide_eq_true h.2⟩
/-- the near and the far cut -/
theorem pf_cuts (hG : GrOK G) (hs : s < G.n) (ht : t < G.n) (hst : s ≠ t) (hb : BD G lo hi) (h : amountF G lo hi s t ≠ NONE9) :
    (andF (cutQ G lo hi s t) (2 ^ G.n) < 2 ^ G.n ∧ cutQ G lo hi s t (andF (cutQ G lo hi s t) (2 ^ G.n)) = true) ∧ (orF (cutQ G lo hi s t) (2 ^ G.n) < 2 ^ G.n ∧ cutQ G lo hi s t (orF (cutQ G lo hi s t) (2 ^ G.n)) = true) ∧ nd (andF (cutQ G lo hi s t) (2 ^ G.n)) (orF (cutQ G lo hi s t) (2 ^ G.n)) = 0 ∧ (if andF (cutQ G lo hi s t) (2 ^ G.n) = orF (cutQ G lo hi s t) (2 ^ G.n) then 1 else 2) ≤ cntF (cutQ G lo hi s t) (2 ^ G.n) := by
  have hn : 2 ^ G.n ≤ 256 := pow2_le8 hG.2.1
  have hq := pf_cutq hG hs ht hst hb h
  have hex := pf_ex hG hb h
  have h1 := andF_mem hn (fun A B hA hB qA qB => (hq A B hA hB qA qB).1) (Nat.le_refl _) hex
  obtain ⟨o1, o2, o3⟩ := orF_mem (fun A B hA hB qA qB => (hq A B hA hB qA qB).2) (Nat.le_refl _) hex
  refine ⟨⟨h1.2, h1.1⟩, ⟨o2, o1⟩, ?_, ?_⟩
  · apply Nat.eq_of_testBit_eq
    intro i
    rw [nd_bit, Nat.zero_testBit]
    cases hi : (andF (cutQ G lo hi s t) (2 ^ G.n)).testBit i
    · rfl
    · rw [o3 _ h1.2 h1.1 i hi]; rfl
  · split
    · exact cntF_1 hex
    · next hne => exact cntF_2 h1.2 o2 hne h1.1 o1
theorem pf_full (hG : GrOK G) (hs : s < G.n) (ht : t < G.n) (hst : s ≠ t) {e : Nat} (he : e < G.m) (hfull : leastF G lo hi s t (amountF G lo hi s t) e = hi e) {g : Nat → Int} (hg : FS G lo hi (isB s t (amountF G lo hi s t)) g) : g e = hi e := by
  rw [leastF_C hs ht hst] at hfull
  have h1 := leastC_le hG.in hg he
  have h2 := hg.1 e he
  omega
theorem pf_tgt (hG : GrOK G) (hs : s < G.n) (ht : t < G.n) (hst : s ≠ t) {S : Nat} (hS : cutQ G lo hi s t S = true) {g : Nat → Int} (hg : FS G lo hi (isB s t (amountF G lo hi s t)) g) : tgtS G lo hi g S := by
  obtain ⟨h1, h2⟩ := cutQ_i hS
  exact (cut_tgt hG.in hs ht hst hg h1).mp h2
end PF
