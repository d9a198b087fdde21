/-! why all is sound: rounds come to an end soon, pairs are as many as a cover -/
section RBD
variable {G : Gr} {hi f M : Nat → Int} {s t : Nat}
def vlM (G : Gr) (hi f M : Nat → Int) : Prop := ∀ e, e < G.m → (f e < hi e → M (G.u e) ≤ M (G.v e) + 1) ∧ (0 < f e → M (G.v e) ≤ M (G.u e) + 1)
def adE (G : Gr) (hi f M : Nat → Int) (e : Nat) : Prop := (M (G.u e) = M (G.v e) + 1 ∧ f e < hi e) ∨ (M (G.v e) = M (G.u e) + 1 ∧ 0 < f e)
noncomputable def adC (G : Gr) (hi f M : Nat → Int) : Int := sumE G.m (fun e => @ite _ (adE G hi f M e) (Classical.propDecidable _) 1 0)
theorem adC_bd : 0 ≤ adC G hi f M ∧ adC G hi f M ≤ G.m := by
  have := sumE_bd (n := G.m) (f := fun e => @ite _ (adE G hi f M e) (Classical.propDecidable _) (1 : Int) 0) (a := 0) (b := 1) fun e _ => by
    show 0 ≤ @ite _ (adE G hi f M e) (Classical.propDecidable _) (1 : Int) 0 ∧ @ite _ (adE G hi f M e) (Classical.propDecidable _) (1 : Int) 0 ≤ 1
    split <;> omega
  unfold adC
  omega
theorem rsp_z {σ : Nat} : rsp (fun _ => 0) hi f σ = if σ < 32 then hi σ - f σ else f (σ - 32) := by
  unfold rsp
  split
  · rfl
  · exact Int.sub_zero _
theorem vl_arc (h : vlM G hi f M) {σ : Nat} (he : eg σ < G.m) (hr : 0 < rsp (fun _ => 0) hi f σ) : M (bgn G σ) ≤ M (edn G σ) + 1 := by
  have := h _ he
  rw [rsp_z] at hr
  unfold bgn edn
  unfold eg at this
  by_cases c : σ < 32
  · rw [if_pos c] at hr this ⊢
    rw [if_pos c]
    exact this.1 (by omega)
  · rw [if_neg c] at hr this ⊢
    rw [if_neg c]
    exact this.2 (by omega)
/-- what a round does to the arcs that lead one step nearer -/
theorem round_step (hG : GrOK G) (hs : s < G.n) (hst : s ≠ t) (hb : ∀ e, e < G.m → 0 ≤ hi e ∧ hi e ≤ 99) (hf : ∀ e, e < G.m → 0 ≤ f e ∧ f e ≤ hi e) (h0 : kC G hi f s t ≠ 0) (hv : vlM G hi f M) (ht : M t = 0) (hk : M s = (kC G hi f s t : Int)) : vlM G hi (nC G hi f s t) M ∧ adC G hi (nC G hi f s t) M + 1 ≤ adC G hi f M := by
  have hw := (wayC hG hs hst h0).1
  have hap := hw.apart
  have ha := aC_pos hG hs hst h0
  obtain ⟨-, p0, pk, -, hW⟩ := hw
  generalize hP : pth G (fun _ => 0) hi f (lvK G hi f s t) (kC G hi f s t) s = p at *
  have haC : aC G hi f s t = mw 1000000 (fun i => rsp (fun _ => 0) hi f (wC G hi f s t i)) (kC G hi f s t) := by unfold aC; rw [if_neg h0]
  have hnC : nC G hi f s t = ap f (wC G hi f s t) (aC G hi f s t) (kC G hi f s t) := rfl
  rw [hnC]
  generalize kC G hi f s t = k at *
  generalize wC G hi f s t = w at *
  generalize aC G hi f s t = a at *
  have hMp : ∀ i, i ≤ k → M (p i) = (k : Int) - i := by
    have h1 : ∀ i, i ≤ k → (k : Int) - i ≤ M (p i) := by
      intro i
      induction i with
      | zero => intro _; rw [p0, hk]; omega
      | succ i ih =>
        intro hi9
        obtain ⟨-, -, a3, a4, a5, a6⟩ := hW i (by omega)
        have := vl_arc hv a3 a6
        rw [← a4, ← a5] at this
        have := ih (by omega)
        omega
    have h2 : ∀ j, j ≤ k → M (p (k - j)) ≤ j := by
      intro j
      induction j with
      | zero => intro _; rw [Nat.sub_zero, pk, ht]; omega
      | succ j ih =>
        intro hj
        obtain ⟨-, -, a3, a4, a5, a6⟩ := hW (k - (j + 1)) (by omega)
        have := vl_arc hv a3 a6
        rw [← a4, ← a5, show k - (j + 1) + 1 = k - j by omega] at this
        have := ih (by omega)
        omega
    intro i hi9
    have := h1 i hi9
    have := h2 (k - i) (by omega)
    rw [show k - (k - i) = i by omega] at this
    omega
  have harc : ∀ i, i < k → M (bgn G (w i)) = M (edn G (w i)) + 1 := fun i hi9 => by
    obtain ⟨-, -, -, a4, a5, -⟩ := hW i hi9
    rw [← a4, ← a5, hMp i (by omega), hMp (i + 1) (by omega)]
    omega
  -- one edge
  have hedge : ∀ e, e < G.m → ((f e < hi e → M (G.u e) ≤ M (G.v e) + 1) ∧ (0 < f e → M (G.v e) ≤ M (G.u e) + 1)) → ((ap f w a k e < hi e → M (G.u e) ≤ M (G.v e) + 1) ∧ (0 < ap f w a k e → M (G.v e) ≤ M (G.u e) + 1)) ∧ (adE G hi (ap f w a k) M e → adE G hi f M e) ∧ ∀ i, i < k → eg (w i) = e → adE G hi f M e ∧ (a = rsp (fun _ => 0) hi f (w i) → ¬ adE G hi (ap f w a k) M e) := by
    intro e he hve
    by_cases hon : ∃ i, i < k ∧ eg (w i) = e
    · obtain ⟨i, i1, i2⟩ := hon
      have hval := ap_on (f := f) (a := a) hap i1
      have hr := ha.2 i i1
      have har := harc i i1
      obtain ⟨-, -, -, -, -, a6⟩ := hW i i1
      have hfe := hf e he
      have huniq : ∀ j, j < k → eg (w j) = e → j = i := fun j j1 j2 => hap j i j1 i1 (by rw [j2, i2])
      rw [i2] at hval
      rw [rsp_z] at hr a6
      unfold bgn edn at har
      unfold eg at i2
      unfold sgn at hval
      by_cases c : w i < 32
      · rw [if_pos c] at hval hr har i2 a6
        rw [if_pos c] at har
        rw [i2] at hr har a6
        refine ⟨⟨fun _ => by omega, fun _ => by omega⟩, fun hq => ?_, fun j j1 j2 => ?_⟩
        · left; omega
        · rw [huniq j j1 j2]
          refine ⟨Or.inl ⟨by omega, by omega⟩, fun hc hq => ?_⟩
          rw [rsp_z, if_pos c, i2] at hc
          rcases hq with ⟨q1, q2⟩ | ⟨q1, q2⟩ <;> omega
      · rw [if_neg c] at hval hr har i2 a6
        rw [if_neg c] at har
        rw [i2] at hr har a6
        refine ⟨⟨fun _ => by omega, fun _ => by omega⟩, fun hq => ?_, fun j j1 j2 => ?_⟩
        · right; omega
        · rw [huniq j j1 j2]
          refine ⟨Or.inr ⟨by omega, by omega⟩, fun hc hq => ?_⟩
          rw [rsp_z, if_neg c, i2] at hc
          rcases hq with ⟨q1, q2⟩ | ⟨q1, q2⟩ <;> omega
    · have hoff : ap f w a k e = f e := ap_off fun i hi9 he9 => hon ⟨i, hi9, he9⟩
      unfold adE
      rw [hoff]
      exact ⟨hve, fun h => h, fun i i1 i2 => absurd ⟨i, i1, i2⟩ hon⟩
  refine ⟨fun e he => (hedge e he (hv e he)).1, ?_⟩
  -- the narrowest arc is shut
  have hcrit : ∃ i, i < k ∧ a = rsp (fun _ => 0) hi f (w i) := by
    have hmw : ∀ n, mw 1000000 (fun i => rsp (fun _ => 0) hi f (w i)) n = 1000000 ∨ ∃ i, i < n ∧ mw 1000000 (fun i => rsp (fun _ => 0) hi f (w i)) n = rsp (fun _ => 0) hi f (w i) := by
      intro n
      induction n with
      | zero => exact Or.inl rfl
      | succ n ih =>
        rw [mw]
        split
        · exact Or.inr ⟨n, by omega, rfl⟩
        · rcases ih with h | ⟨i, i1, i2⟩
          · exact Or.inl h
          · exact Or.inr ⟨i, by omega, i2⟩
    rcases hmw k with h | ⟨i, i1, i2⟩
    · exfalso
      have h1 := ha.2 0 (by omega)
      have h2 := (hW 0 (by omega)).2.2.1
      have h3 := hb _ h2
      have h4 := hf _ h2
      rw [rsp_z] at h1
      unfold eg at h3 h4
      split at h1
      · rename_i c; rw [if_pos c] at h3 h4; omega
      · rename_i c; rw [if_neg c] at h3 h4; omega
    · exact ⟨i, i1, by rw [haC, i2]⟩
  obtain ⟨i, i1, i2⟩ := hcrit
  have he := (hW i i1).2.2.1
  have hce := (hedge _ he (hv _ he)).2.2 i i1 rfl
  have := sumE_lt (n := G.m) (k := eg (w i)) (f := fun e => @ite _ (adE G hi (ap f w a k) M e) (Classical.propDecidable _) (1 : Int) 0) (g := fun e => @ite _ (adE G hi f M e) (Classical.propDecidable _) (1 : Int) 0) he (fun e he9 => by
    have := (hedge e he9 (hv e he9)).2.1
    show @ite _ (adE G hi (ap f w a k) M e) (Classical.propDecidable _) (1 : Int) 0 ≤ @ite _ (adE G hi f M e) (Classical.propDecidable _) (1 : Int) 0
    split
    · rename_i c; rw [if_pos (this c)]; omega
    · split <;> omega) (by
    show @ite _ (adE G hi (ap f w a k) M (eg (w i))) (Classical.propDecidable _) (1 : Int) 0 < @ite _ (adE G hi f M (eg (w i))) (Classical.propDecidable _) (1 : Int) 0
    rw [if_neg (hce.2 i2), if_pos hce.1]
    decide)
  unfold adC
  omega
/-- levels as numbers that arcs keep -/
def clM (L : Nat → Int) (k : Int) (x : Nat) : Int := if L x ≤ k then L x else k
theorem way_levels (hG : GrOK G) (hs : s < G.n) (hst : s ≠ t) (htn : t < G.n) (h0 : kC G hi f s t ≠ 0) : vlM G hi f (clM (lvK G hi f s t) (kC G hi f s t)) ∧ clM (lvK G hi f s t) (kC G hi f s t) t = 0 ∧ clM (lvK G hi f s t) (kC G hi f s t) s = (kC G hi f s t : Int) ∧ kC G hi f s t + 1 ≤ G.n := by
  obtain ⟨hL, p0, pk, pl, hW⟩ := (wayC hG hs hst h0).1
  generalize pth G (fun _ => 0) hi f (lvK G hi f s t) (kC G hi f s t) s = p at *
  generalize lvK G hi f s t = L at *
  generalize kC G hi f s t = k at *
  obtain ⟨⟨l1, l2, l3⟩, lc⟩ := hL
  have hGi := hG.in
  have hFA : FAR9 = 1000000000 := rfl
  refine ⟨fun e he => ?_, ?_, ?_, ?_⟩
  · have c := lc e he
    have bu := l2 _ (hGi e he).1
    have bv := l2 _ (hGi e he).2
    unfold clM
    refine ⟨fun h => ?_, fun h => ?_⟩
    · by_cases hv : L (G.v e) < k
      · have := c.1 h hv
        rw [if_pos (show L (G.v e) ≤ k by omega)]
        split <;> omega
      · split <;> split <;> omega
    · by_cases hv : L (G.u e) < k
      · have := c.2 h hv
        rw [if_pos (show L (G.u e) ≤ k by omega)]
        split <;> omega
      · split <;> split <;> omega
  · have := (l1 t htn).2 rfl
    unfold clM
    rw [if_pos (by omega), this]
  · have := (pl 0 (by omega)).2
    rw [p0] at this
    unfold clM
    rw [if_pos (by omega), this]
    omega
  · by_cases hc : k + 1 ≤ G.n
    · exact hc
    exfalso
    obtain ⟨i, j, hij, hj, he⟩ := pigeon G.n p fun i hi9 => (pl i (by omega)).1
    have a := (pl i (by omega)).2
    have b := (pl j (by omega)).2
    rw [he] at a
    omega
theorem rounds_few (hG : GrOK G) (hs : s < G.n) (htn : t < G.n) (hst : s ≠ t) (hb : ∀ e, e < G.m → 0 ≤ hi e ∧ hi e ≤ 99) : ∀ (N j : Nat) (M : Nat → Int), vlM G hi (FC G hi s t j) M → M t = 0 → (∀ i, i < j → kC G hi (FC G hi s t i) s t ≠ 0) → M s ≤ (G.n : Int) - 1 → ((G.n : Int) - 1 - M s) * G.m + adC G hi (FC G hi s t j) M ≤ N → MC G hi s t ≤ j + N := by
  intro N
  induction N with
  | zero =>
    intro j M hv ht hj hMs hN
    by_cases h0 : kC G hi (FC G hi s t j) s t = 0
    · rw [MC_at hG hs htn hst hb hj h0]; omega
    exfalso
    obtain ⟨w1, w2, w3, w4⟩ := way_levels (hi := hi) (f := FC G hi s t j) hG hs hst htn h0
    have hfc := (FC_ok hG hs htn hst hb j).1
    have hge : M s ≤ (kC G hi (FC G hi s t j) s t : Int) := by
      obtain ⟨-, p0, pk, -, hW⟩ := (wayC (hi := hi) (f := FC G hi s t j) hG hs hst h0).1
      generalize pth G (fun _ => 0) hi (FC G hi s t j) (lvK G hi (FC G hi s t j) s t) (kC G hi (FC G hi s t j) s t) s = p at *
      have h2 : ∀ q, q ≤ kC G hi (FC G hi s t j) s t → M (p (kC G hi (FC G hi s t j) s t - q)) ≤ q := by
        intro q
        induction q with
        | zero => intro _; rw [Nat.sub_zero, pk, ht]; omega
        | succ q ih =>
          intro hq
          obtain ⟨-, -, a3, a4, a5, a6⟩ := hW (kC G hi (FC G hi s t j) s t - (q + 1)) (by omega)
          have := vl_arc hv a3 a6
          rw [← a4, ← a5, show kC G hi (FC G hi s t j) s t - (q + 1) + 1 = kC G hi (FC G hi s t j) s t - q by omega] at this
          have := ih (by omega)
          omega
      have := h2 _ (Nat.le_refl _)
      rw [Nat.sub_self, p0] at this
      exact this
    have hmm : 0 ≤ ((G.n : Int) - 1 - M s) * G.m := Int.mul_nonneg (by omega) (by omega)
    have hc0 := adC_bd (G := G) (hi := hi) (f := FC G hi s t j) (M := M)
    by_cases hMk : M s = (kC G hi (FC G hi s t j) s t : Int)
    · have := (round_step hG hs hst hb hfc h0 hv ht hMk).2
      have := adC_bd (G := G) (hi := hi) (f := nC G hi (FC G hi s t j) s t) (M := M)
      omega
    · have hm1 : 1 ≤ (G.m : Int) := by
        have := ((wayC (hi := hi) (f := FC G hi s t j) hG hs hst h0).1.2.2.2.2 0 (by omega)).2.2.1
        omega
      have := Int.mul_le_mul_of_nonneg_right (show 1 ≤ (G.n : Int) - 1 - M s by omega) (show 0 ≤ (G.m : Int) by omega)
      omega
  | succ N ih =>
    intro j M hv ht hj hMs hN
    by_cases h0 : kC G hi (FC G hi s t j) s t = 0
    · rw [MC_at hG hs htn hst hb hj h0]; omega
    obtain ⟨w1, w2, w3, w4⟩ := way_levels (hi := hi) (f := FC G hi s t j) hG hs hst htn h0
    have hfc := (FC_ok hG hs htn hst hb j).1
    have hge : M s ≤ (kC G hi (FC G hi s t j) s t : Int) := by
      obtain ⟨-, p0, pk, -, hW⟩ := (wayC (hi := hi) (f := FC G hi s t j) hG hs hst h0).1
      generalize pth G (fun _ => 0) hi (FC G hi s t j) (lvK G hi (FC G hi s t j) s t) (kC G hi (FC G hi s t j) s t) s = p at *
      have h2 : ∀ q, q ≤ kC G hi (FC G hi s t j) s t → M (p (kC G hi (FC G hi s t j) s t - q)) ≤ q := by
        intro q
        induction q with
        | zero => intro _; rw [Nat.sub_zero, pk, ht]; omega
        | succ q ih =>
          intro hq
          obtain ⟨-, -, a3, a4, a5, a6⟩ := hW (kC G hi (FC G hi s t j) s t - (q + 1)) (by omega)
          have := vl_arc hv a3 a6
          rw [← a4, ← a5, show kC G hi (FC G hi s t j) s t - (q + 1) + 1 = kC G hi (FC G hi s t j) s t - q by omega] at this
          have := ih (by omega)
          omega
      have := h2 _ (Nat.le_refl _)
      rw [Nat.sub_self, p0] at this
      exact this
    have hj1 : ∀ i, i < j + 1 → kC G hi (FC G hi s t i) s t ≠ 0 := fun i hi9 => by
      by_cases hij : i = j
      · rw [hij]; exact h0
      · exact hj i (by omega)
    have hFC : FC G hi s t (j + 1) = nC G hi (FC G hi s t j) s t := rfl
    have fin : ∀ M9 : Nat → Int, vlM G hi (FC G hi s t j) M9 → M9 t = 0 → M9 s = (kC G hi (FC G hi s t j) s t : Int) → ((G.n : Int) - 1 - M9 s) * G.m + adC G hi (FC G hi s t j) M9 ≤ N + 1 → MC G hi s t ≤ j + (N + 1) := by
      intro M9 v9 t9 s9 n9
      have hr := round_step hG hs hst hb hfc h0 v9 t9 s9
      rw [← hFC] at hr
      have := ih (j + 1) M9 hr.1 t9 hj1 (by omega) (by omega)
      omega
    by_cases hMk : M s = (kC G hi (FC G hi s t j) s t : Int)
    · exact fin M hv ht hMk (by omega)
    · refine fin _ w1 w2 w3 ?_
      rw [w3]
      have hc1 := adC_bd (G := G) (hi := hi) (f := FC G hi s t j) (M := clM (lvK G hi (FC G hi s t j) s t) (kC G hi (FC G hi s t j) s t))
      have hc0 := adC_bd (G := G) (hi := hi) (f := FC G hi s t j) (M := M)
      have h1 := Int.mul_le_mul_of_nonneg_right (show (G.n : Int) - 1 - (kC G hi (FC G hi s t j) s t : Int) + 1 ≤ (G.n : Int) - 1 - M s by omega) (show 0 ≤ (G.m : Int) by omega)
      rw [Int.add_mul, Int.one_mul] at h1
      omega
theorem MC_few (hG : GrOK G) (hs : s < G.n) (htn : t < G.n) (hst : s ≠ t) (hb : ∀ e, e < G.m → 0 ≤ hi e ∧ hi e ≤ 99) : MC G hi s t ≤ G.n * G.m := by
  have hn := hG.1
  have hc := sumE_0 (n := G.m) (f := fun e => @ite _ (adE G hi (FC G hi s t 0) (fun _ => 0) e) (Classical.propDecidable _) (1 : Int) 0) fun e _ => by
    show @ite _ (adE G hi (FC G hi s t 0) (fun _ => 0) e) (Classical.propDecidable _) (1 : Int) 0 = 0
    refine if_neg fun h => ?_
    rcases h with ⟨h, -⟩ | ⟨h, -⟩
    · have h9 : (0 : Int) = 0 + 1 := h; omega
    · have h9 : (0 : Int) = 0 + 1 := h; omega
  have h1 : (((G.n - 1) * G.m : Nat) : Int) = ((G.n : Int) - 1 - 0) * G.m := by
    rw [Int.natCast_mul, Int.natCast_sub (by omega), Int.sub_zero]
    rfl
  have := rounds_few hG hs htn hst hb ((G.n - 1) * G.m) 0 (fun _ => 0) (fun e _ => ⟨fun _ => by show (0 : Int) ≤ 0 + 1; omega, fun _ => by show (0 : Int) ≤ 0 + 1; omega⟩) rfl (fun i hi9 => absurd hi9 (Nat.not_lt_zero i)) (by show (0 : Int) ≤ _; omega) (by
    show ((G.n : Int) - 1 - 0) * G.m + adC G hi (FC G hi s t 0) (fun _ => 0) ≤ _
    unfold adC
    rw [hc, h1]
    omega)
  have h2 := Nat.mul_le_mul_right G.m (show G.n - 1 ≤ G.n by omega)
  omega
theorem AC_all {lo : Nat → Int} (hG : GrOK G) (hs : s < G.n) (htn : t < G.n) (hst : s ≠ t) (hb : ∀ e, e < G.m → 0 ≤ hi e ∧ hi e ≤ 99) (hlo : ∀ e, e < G.m → lo e = 0) : AC G hi s t (MC G hi s t) = amountF G lo hi s t := by
  obtain ⟨-, h0, -⟩ := MC_ok hG hs htn hst hb
  obtain ⟨hfc, hno⟩ := FC_ok hG hs htn hst hb (MC G hi s t)
  have hL := lvC_ok hG hi (FC G hi s t (MC G hi s t)) t
  have hfar : lvC G hi (FC G hi s t (MC G hi s t)) t s = FAR9 := by
    unfold kC at h0
    by_cases hc : lvC G hi (FC G hi s t (MC G hi s t)) t s = FAR9
    · exact hc
    · rw [if_neg hc] at h0
      have hz := (hL.1.2.1 s hs).resolve_left hc
      have := (hL.1.1 s hs).1 (by omega)
      exact absurd this hst
  have hclosed := fun x y (hr : RS G (fun _ => 0) hi (FC G hi s t (MC G hi s t)) x y) => LVs.closed hL (by have := hG.2.1; omega) hG.in hs hfar hr
  have hn8 := hG.2.1
  symm
  refine amount_eq hG.in hs htn hst (f := FC G hi s t (MC G hi s t)) ⟨fun e he => by rw [hlo e he]; exact hfc e he, fun x _ => hno x⟩ (fun S _ => ?_) (T := fun x => decide (lvC G hi (FC G hi s t (MC G hi s t)) t x = FAR9)) (decide_eq_true hfar) (decide_eq_false ?_) (fun e he => ⟨fun h1 h2 => ?_, fun h1 h2 => ?_⟩)
  · have := cutV_bd hG.2.2.1 (lo := lo) (hi := hi) (fun e he => by rw [hlo e he]; have := hb e he; omega) S
    unfold NONE9
    omega
  · have := (hL.1.1 t htn).2 rfl
    rw [this]
    decide
  · have h1 := of_decide_eq_true h1
    have h2 := of_decide_eq_false h2
    by_cases hc : FC G hi s t (MC G hi s t) e < hi e
    · exact absurd h1 (hclosed _ _ ⟨e, he, Or.inl ⟨rfl, rfl, hc⟩⟩ h2)
    · have := hfc e he; omega
  · have h1 := of_decide_eq_false h1
    have h2 := of_decide_eq_true h2
    rw [hlo e he]
    by_cases hc : 0 < FC G hi s t (MC G hi s t) e
    · exact absurd h2 (hclosed _ _ ⟨e, he, Or.inr ⟨rfl, rfl, hc⟩⟩ h1)
    · have := hfc e he; omega
end RBD
