/-! cheapest flows: arcs of a net by signs, rings, potentials -/
def GR (G : Gr) (lo hi co f : Nat → Int) (u x : Nat) (q : Int) : Prop := ∃ σ, σ < 64 ∧ eg σ < G.m ∧ 0 < rsp lo hi f σ ∧ bgn G σ = u ∧ edn G σ = x ∧ q = sgn σ (co (eg σ))
def BAs (G : Gr) (lo hi co f : Nat → Int) (S : Nat → Nat) : BA := (fun j => bgn G (S j), fun j => edn G (S j), fun j => sgn (S j) (co (eg (S j))), fun j => decide (eg (S j) < G.m ∧ 0 < rsp lo hi f (S j)))
def SgOK (m M : Nat) (S : Nat → Nat) : Prop := (∀ j, j < M → S j < 64) ∧ (∀ i j, i < M → j < M → S i = S j → i = j) ∧ ∀ σ, σ < 64 → eg σ < m → ∃ j, j < M ∧ S j = σ
def costF (G : Gr) (co f : Nat → Int) : Int := sumE G.m (fun e => f e * co e)
theorem bgn_ne {G : Gr} (hne : ∀ e, e < G.m → G.u e ≠ G.v e) {σ : Nat} (h : eg σ < G.m) : bgn G σ ≠ edn G σ := by
  unfold eg at h
  unfold bgn edn
  split at h
  · rename_i c; rw [if_pos c, if_pos c]; exact hne _ h
  · rename_i c; rw [if_neg c, if_neg c]; exact Ne.symm (hne _ h)
theorem sgn_bd {σ : Nat} {a : Int} (h : -20 ≤ a ∧ a ≤ 20) : -20 ≤ sgn σ a ∧ sgn σ a ≤ 20 := by
  unfold sgn
  split <;> omega
section CHP
variable {G : Gr} {lo hi co f : Nat → Int} {S : Nat → Nat} {M : Nat}
theorem BAs_ok (hG : GrIn G) (hne : ∀ e, e < G.m → G.u e ≠ G.v e) (hc : ∀ e, e < G.m → -20 ≤ co e ∧ co e ≤ 20) (hS : SgOK G.m M S) : ArcOK G.n M (BAs G lo hi co f S) (GR G lo hi co f) := by
  intro j hj ho
  have h := of_decide_eq_true ho
  exact ⟨bgn_lt hG h.1, edn_lt hG h.1, bgn_ne hne h.1, sgn_bd (hc _ h.1), S j, hS.1 j hj, h.1, h.2, rfl, rfl, rfl⟩
theorem BAs_all (hS : SgOK G.m M S) {u x : Nat} {q : Int} (h : GR G lo hi co f u x q) : ∃ i, i < M ∧ (BAs G lo hi co f S).o i = true ∧ (BAs G lo hi co f S).b i = u ∧ (BAs G lo hi co f S).e i = x ∧ (BAs G lo hi co f S).c i = q := by
  obtain ⟨σ, h1, h2, h3, h4, h5, h6⟩ := h
  obtain ⟨j, j1, j2⟩ := hS.2.2 σ h1 h2
  refine ⟨j, j1, decide_eq_true ?_, ?_, ?_, ?_⟩
  · rw [j2]; exact ⟨h2, h3⟩
  · show bgn G (S j) = u; rw [j2]; exact h4
  · show edn G (S j) = x; rw [j2]; exact h5
  · show sgn (S j) (co (eg (S j))) = q; rw [j2]; exact h6.symm
theorem nout_apR {w p : Nat → Nat} {a : Int} {k : Nat} (h : ∀ i, i < k → eg (w i) < G.m ∧ p i = edn G (w i) ∧ p (i + 1) = bgn G (w i)) (x : Nat) : nout G (ap f w a k) x = nout G f x + ((if p k = x then a else 0) - (if p 0 = x then a else 0)) := by
  induction k with
  | zero => show nout G f x = _; omega
  | succ k ih =>
    obtain ⟨h1, h2, h3⟩ := h k (by omega)
    show nout G (a1 (ap f w a k) (w k) a) x = _
    rw [nout_a1 _ h1, ih (fun i hi => h i (by omega)), h3, h2]
    omega
theorem cost_up {e : Nat} (he : e < G.m) (f : Nat → Int) (a : Int) : costF G co (upL f e (f e + a)) = costF G co f + a * co e := by
  unfold costF
  rw [sumE_at he (fun k => upL f e (f e + a) k * co k), sumE_at he (fun k => f k * co k)]
  have e1 : sumE G.m (fun k => if k = e then 0 else upL f e (f e + a) k * co k) = sumE G.m (fun k => if k = e then 0 else f k * co k) := by
    refine sumE_cong fun k _ => ?_
    by_cases h : k = e
    · rw [if_pos h, if_pos h]
    · rw [if_neg h, if_neg h, upL_n h]
  show sumE G.m (fun k => if k = e then 0 else upL f e (f e + a) k * co k) + upL f e (f e + a) e * co e = sumE G.m (fun k => if k = e then 0 else f k * co k) + f e * co e + a * co e
  rw [e1, upL_s, Int.add_mul]
  omega
theorem cost_ap {w : Nat → Nat} {a : Int} {k : Nat} (h : ∀ i, i < k → eg (w i) < G.m) : costF G co (ap f w a k) = costF G co f + a * sumE k (fun i => sgn (w i) (co (eg (w i)))) := by
  induction k with
  | zero => show costF G co f = _ + a * 0; omega
  | succ k ih =>
    show costF G co (upL (ap f w a k) (eg (w k)) (ap f w a k (eg (w k)) + sgn (w k) a)) = _ + a * (sumE k _ + sgn (w k) (co (eg (w k))))
    rw [cost_up (h k (by omega)), ih (fun i hi => h i (by omega)), Int.mul_add]
    have e : sgn (w k) a * co (eg (w k)) = a * sgn (w k) (co (eg (w k))) := by
      unfold sgn
      split
      · rfl
      · rw [Int.neg_mul, Int.mul_neg]
    rw [e]; omega
/-- what turning a ring brings -/
theorem ring_turn {b : Nat → Int} (hS : SgOK G.m M S) (hG : GrIn G) (hne : ∀ e, e < G.m → G.u e ≠ G.v e) (hc : ∀ e, e < G.m → -20 ≤ co e ∧ co e ≤ 20) (hf : FS G lo hi b f) {Z : Int} {S0 : Nat → Bool} {Q j : Nat} {L : Nat → Int} {via τ : Nat → Nat} (h : BFI G.n M (BAs G lo hi co f S) (GR G lo hi co f) Z S0 Q j L via τ) {x : Nat} (hx : x < G.n) (ht : (G.n - 1) * M < τ x) : ∃ l, 1 ≤ l ∧ l ≤ G.n ∧ chn (BAs G lo hi co f S) via x (G.n + l) = chn (BAs G lo hi co f S) via x G.n ∧ (∀ i, 1 ≤ i → i < l → chn (BAs G lo hi co f S) via x (G.n + i) ≠ chn (BAs G lo hi co f S) via x G.n) ∧ (∀ i, chn (BAs G lo hi co f S) via x (G.n + i) < G.n ∧ 0 < τ (chn (BAs G lo hi co f S) via x (G.n + i)) ∧ eg (S (via (chn (BAs G lo hi co f S) via x (G.n + i)))) < G.m ∧ 0 < rsp lo hi f (S (via (chn (BAs G lo hi co f S) via x (G.n + i))))) ∧ (∀ i k, i < l → k < l → eg (S (via (chn (BAs G lo hi co f S) via x (G.n + i)))) = eg (S (via (chn (BAs G lo hi co f S) via x (G.n + k)))) → i = k) ∧ ∀ a, 1 ≤ a → (∀ i, i < l → a ≤ rsp lo hi f (S (via (chn (BAs G lo hi co f S) via x (G.n + i))))) → FS G lo hi b (ap f (fun i => S (via (chn (BAs G lo hi co f S) via x (G.n + i)))) a l) ∧ costF G co (ap f (fun i => S (via (chn (BAs G lo hi co f S) via x (G.n + i)))) a l) + 1 ≤ costF G co f := by
  have hA := BAs_ok (lo := lo) (hi := hi) (f := f) hG hne hc hS
  obtain ⟨l, l1, l2, l3, l4, hall, hs⟩ := h.ring hA hx ht
  have hinf : ∀ i, via (chn (BAs G lo hi co f S) via x (G.n + i)) < M ∧ eg (S (via (chn (BAs G lo hi co f S) via x (G.n + i)))) < G.m ∧ 0 < rsp lo hi f (S (via (chn (BAs G lo hi co f S) via x (G.n + i)))) ∧ edn G (S (via (chn (BAs G lo hi co f S) via x (G.n + i)))) = chn (BAs G lo hi co f S) via x (G.n + i) := by
    intro i
    obtain ⟨a, b9⟩ := hall i
    obtain ⟨-, -, h3⟩ := h.1 _ a
    obtain ⟨y1, y2, y3, -⟩ := h3 b9
    have y4 := of_decide_eq_true y2
    exact ⟨y1, y4.1, y4.2, y3⟩
  have hnext : ∀ i, chn (BAs G lo hi co f S) via x (G.n + (i + 1)) = bgn G (S (via (chn (BAs G lo hi co f S) via x (G.n + i)))) := fun i => rfl
  have hdist : ∀ i k, i < k → k < l → chn (BAs G lo hi co f S) via x (G.n + i) ≠ chn (BAs G lo hi co f S) via x (G.n + k) := by
    intro i k hik hk
    have e1 := chn_add (A := BAs G lo hi co f S) (via := via) x G.n
    rw [e1, e1]
    refine ring_apart (l := l) ?_ ?_ hik hk
    · rw [← e1]; exact l3
    · intro i i1 i2; rw [← e1]; exact l4 i i1 i2
  generalize hu : (fun i => chn (BAs G lo hi co f S) via x (G.n + i)) = u at *
  have hu9 : ∀ i, chn (BAs G lo hi co f S) via x (G.n + i) = u i := fun i => congrFun hu i
  have hu0 : chn (BAs G lo hi co f S) via x G.n = u 0 := hu9 0
  simp only [hu9, hu0] at *
  clear hu hu9 hu0
  have hsum : sumE l (fun i => sgn (S (via (u i))) (co (eg (S (via (u i)))))) < 0 := hs
  have hne2 : ∀ i k, i < k → k < l → eg (S (via (u i))) ≠ eg (S (via (u k))) := by
    intro i k hik hk he
    obtain ⟨a1, a2, a3, a4⟩ := hinf i
    obtain ⟨b1, b2, b3, b4⟩ := hinf k
    have hn1 := hnext i
    have hn2 := hnext k
    have hd := hdist i k hik hk
    have hsg : S (via (u i)) ≠ S (via (u k)) := fun h => hd (by rw [← a4, ← b4, h])
    -- the same edge, gone along both ways
    have hopp : bgn G (S (via (u i))) = edn G (S (via (u k))) ∧ edn G (S (via (u i))) = bgn G (S (via (u k))) ∧ ∀ z, sgn (S (via (u i))) z = -sgn (S (via (u k))) z := by
      unfold eg at he
      unfold bgn edn sgn
      generalize S (via (u i)) = σ at he hsg
      generalize S (via (u k)) = ρ at he hsg
      by_cases c1 : σ < 32
      · by_cases c2 : ρ < 32
        · rw [if_pos c1, if_pos c2] at he; exact absurd he hsg
        · rw [if_pos c1, if_neg c2] at he
          rw [if_pos c1, if_neg c2, if_pos c1, if_neg c2]
          refine ⟨by rw [he], by rw [he], fun z => ?_⟩
          rw [if_pos c1, if_neg c2, Int.neg_neg]
      · by_cases c2 : ρ < 32
        · rw [if_neg c1, if_pos c2] at he
          rw [if_neg c1, if_pos c2, if_neg c1, if_pos c2]
          refine ⟨by rw [he], by rw [he], fun z => ?_⟩
          rw [if_neg c1, if_pos c2]
        · rw [if_neg c1, if_neg c2] at he
          omega
    obtain ⟨o1, o2, o3⟩ := hopp
    rw [b4, ← hn1] at o1
    rw [a4, ← hn2] at o2
    -- the corner behind i is k, that behind k is i: the ring has two edges
    have hk1 : k = i + 1 := by
      by_cases hc : i + 1 < k
      · exact absurd o1 (hdist (i + 1) k hc hk)
      · omega
    have hl2 : k + 1 = l ∧ i = 0 := by
      by_cases hc : k + 1 < l
      · exact absurd o2 (hdist i (k + 1) (by omega) hc)
      · have e : k + 1 = l := by omega
        rw [e, l3] at o2
        refine ⟨e, ?_⟩
        by_cases h0 : 0 < i
        · exact absurd o2.symm (hdist 0 i h0 (by omega))
        · omega
    obtain ⟨e1, e2⟩ := hl2
    have el : l = 2 := by omega
    rw [el] at hsum
    have hs2 : 0 + sgn (S (via (u 0))) (co (eg (S (via (u 0))))) + sgn (S (via (u 1))) (co (eg (S (via (u 1))))) < 0 := hsum
    rw [e2, hk1, e2] at he
    rw [e2, hk1, e2] at o3
    have := o3 (co (eg (S (via (u 0)))))
    rw [he] at this hs2
    have h01 : (0 + 1 : Nat) = 1 := rfl
    rw [h01] at this hs2
    omega
  have happ : ∀ i k, i < l → k < l → eg (S (via (u i))) = eg (S (via (u k))) → i = k := by
    intro i k hi9 hk9 he
    rcases Nat.lt_trichotomy i k with h1 | h1 | h1
    · exact absurd he (hne2 i k h1 hk9)
    · exact h1
    · exact absurd he.symm (hne2 k i h1 hi9)
  refine ⟨l, l1, l2, l3, l4, fun i => ⟨(hall i).1, (hall i).2, (hinf i).2.1, (hinf i).2.2.1⟩, happ, fun a ha hr => ⟨⟨?_, fun y hy => ?_⟩, ?_⟩⟩
  · exact ap_in (w := fun i => S (via (u i))) happ (by omega) hr hf.1
  · rw [nout_apR (p := u) (fun i hi9 => ⟨(hinf i).2.1, (hinf i).2.2.2.symm, hnext i⟩), l3, hf.2 y hy]
    omega
  · rw [cost_ap (fun i _ => (hinf i).2.1)]
    have := Int.mul_le_mul_of_nonneg_left (show sumE l (fun i => sgn (S (via (u i))) (co (eg (S (via (u i)))))) ≤ -1 by omega) (show 0 ≤ a by omega)
    omega
/-- potentials: what is cheapest -/
def PT (G : Gr) (lo hi co f π : Nat → Int) : Prop := ∀ e, e < G.m → (f e < hi e → 0 ≤ π (G.u e) + co e - π (G.v e)) ∧ (lo e < f e → π (G.u e) + co e - π (G.v e) ≤ 0)
theorem PT_of {π : Nat → Int} (hm : G.m ≤ 32) (h : ∀ u x q, GR G lo hi co f u x q → π x ≤ π u + q) : PT G lo hi co f π := by
  intro e he
  refine ⟨fun h1 => ?_, fun h1 => ?_⟩
  · have c1 : e < 32 := by omega
    have := h (G.u e) (G.v e) (co e) ⟨e, by omega, by unfold eg; rw [if_pos c1]; exact he, by unfold rsp; rw [if_pos c1]; omega, by unfold bgn; rw [if_pos c1], by unfold edn; rw [if_pos c1], by unfold sgn eg; rw [if_pos c1, if_pos c1]⟩
    omega
  · have c1 : ¬ e + 32 < 32 := by omega
    have c2 : e + 32 - 32 = e := by omega
    have := h (G.v e) (G.u e) (-co e) ⟨e + 32, by omega, by unfold eg; rw [if_neg c1, c2]; exact he, by unfold rsp; rw [if_neg c1, c2]; omega, by unfold bgn; rw [if_neg c1, c2], by unfold edn; rw [if_neg c1, c2], by unfold sgn eg; rw [if_neg c1, if_neg c1, c2]⟩
    omega
theorem PT_gr {π : Nat → Int} (h : PT G lo hi co f π) {u x : Nat} {q : Int} (hr : GR G lo hi co f u x q) : π x ≤ π u + q := by
  obtain ⟨σ, h1, h2, h3, h4, h5, h6⟩ := hr
  rw [← h4, ← h5, h6]
  unfold eg at h2
  unfold rsp at h3
  unfold bgn edn sgn eg
  by_cases c : σ < 32
  · rw [if_pos c] at h2 h3
    rw [if_pos c, if_pos c, if_pos c, if_pos c]
    have := (h σ h2).1 (by omega)
    omega
  · rw [if_neg c] at h2 h3
    rw [if_neg c, if_neg c, if_neg c, if_neg c]
    have := (h _ h2).2 (by omega)
    omega
theorem cost_rc {b π g : Nat → Int} (hG : GrIn G) (hf : ∀ x, x < G.n → nout G f x = b x) (hg : ∀ x, x < G.n → nout G g x = b x) : costF G co g - costF G co f = sumE G.m (fun e => (g e - f e) * (π (G.u e) + co e - π (G.v e))) := by
  have h1 := pairing hG f π
  have h2 := pairing hG g π
  have h3 : sumE G.n (fun x => π x * nout G f x) = sumE G.n (fun x => π x * nout G g x) := sumE_cong fun x hx => by rw [hf x hx, hg x hx]
  have h4 : sumE G.m (fun e => (g e - f e) * (π (G.u e) + co e - π (G.v e))) = (sumE G.m (fun e => g e * co e) - sumE G.m (fun e => f e * co e)) + (sumE G.m (fun e => g e * (π (G.u e) - π (G.v e))) - sumE G.m (fun e => f e * (π (G.u e) - π (G.v e)))) := by
    rw [← sumE_sub, ← sumE_sub, ← sumE_add]
    refine sumE_cong fun e _ => ?_
    rw [show π (G.u e) + co e - π (G.v e) = co e + (π (G.u e) - π (G.v e)) by omega, Int.sub_mul, Int.mul_add, Int.mul_add]
    omega
  unfold costF
  omega
theorem opt {b π g : Nat → Int} (hG : GrIn G) (hf : FS G lo hi b f) (hp : PT G lo hi co f π) (hg : FS G lo hi b g) : costF G co f ≤ costF G co g ∧ (costF G co g = costF G co f ↔ ∀ e, e < G.m → π (G.u e) + co e - π (G.v e) ≠ 0 → g e = f e) := by
  have h := cost_rc (co := co) (π := π) hG hf.2 hg.2
  have hnn : ∀ e, e < G.m → 0 ≤ (g e - f e) * (π (G.u e) + co e - π (G.v e)) := by
    intro e he
    have a := hp e he
    have b1 := hg.1 e he
    have b2 := hf.1 e he
    generalize π (G.u e) + co e - π (G.v e) = r at a
    rcases Int.lt_trichotomy (g e) (f e) with c | c | c
    · have := a.2 (by omega)
      have := Int.mul_nonneg (show 0 ≤ -(g e - f e) by omega) (show 0 ≤ -r by omega)
      rw [Int.neg_mul_neg] at this
      exact this
    · rw [c, Int.sub_self, Int.zero_mul]; exact Int.le_refl _
    · have := a.1 (by omega)
      exact Int.mul_nonneg (by omega) (by omega)
  have h0 := sumE_nonneg (n := G.m) (f := fun e => (g e - f e) * (π (G.u e) + co e - π (G.v e))) hnn
  refine ⟨by omega, fun he e hem hr => ?_, fun hz => ?_⟩
  · by_cases hc : g e = f e
    · exact hc
    exfalso
    have hpos : 0 < (g e - f e) * (π (G.u e) + co e - π (G.v e)) := by
      have a := hnn e hem
      have b9 : (g e - f e) * (π (G.u e) + co e - π (G.v e)) ≠ 0 := Int.mul_ne_zero (by omega) hr
      omega
    have := sumE_lt (n := G.m) (k := e) (f := fun _ => 0) (g := fun e => (g e - f e) * (π (G.u e) + co e - π (G.v e))) hem (fun k hk => hnn k hk) hpos
    rw [sumE_0 fun _ _ => rfl] at this
    omega
  · have : sumE G.m (fun e => (g e - f e) * (π (G.u e) + co e - π (G.v e))) = 0 := sumE_0 fun e he => by
      by_cases hr : π (G.u e) + co e - π (G.v e) = 0
      · rw [hr, Int.mul_zero]
      · rw [hz e he hr, Int.sub_self, Int.zero_mul]
    omega
def fxl (G : Gr) (lo hi co π : Nat → Int) (e : Nat) : Int := if π (G.u e) + co e - π (G.v e) < 0 then hi e else lo e
def fxh (G : Gr) (lo hi co π : Nat → Int) (e : Nat) : Int := if 0 < π (G.u e) + co e - π (G.v e) then lo e else hi e
theorem fx_flow {b π g : Nat → Int} (hG : GrIn G) (hf : FS G lo hi b f) (hp : PT G lo hi co f π) : FS G (fxl G lo hi co π) (fxh G lo hi co π) b g ↔ FS G lo hi b g ∧ costF G co g = costF G co f := by
  have hfix : ∀ e, e < G.m → (0 < π (G.u e) + co e - π (G.v e) → f e = lo e) ∧ (π (G.u e) + co e - π (G.v e) < 0 → f e = hi e) := by
    intro e he
    have a := hp e he
    have b := hf.1 e he
    generalize π (G.u e) + co e - π (G.v e) = r at a
    refine ⟨fun hr => ?_, fun hr => ?_⟩
    · by_cases hc : lo e < f e
      · have := a.2 hc; omega
      · omega
    · by_cases hc : f e < hi e
      · have := a.1 hc; omega
      · omega
  constructor
  · intro hg
    have hg9 : FS G lo hi b g := by
      refine ⟨fun e he => ?_, hg.2⟩
      have a := hg.1 e he
      have b := hf.1 e he
      unfold fxl fxh at a
      split at a <;> split at a <;> omega
    refine ⟨hg9, ((opt hG hf hp hg9).2).2 fun e he hr => ?_⟩
    have a := hg.1 e he
    have c := hfix e he
    unfold fxl fxh at a
    generalize π (G.u e) + co e - π (G.v e) = r at *
    split at a <;> split at a <;> omega
  · rintro ⟨hg, hc⟩
    refine ⟨fun e he => ?_, hg.2⟩
    have a := ((opt hG hf hp hg).2).1 hc e he
    have c := hfix e he
    have d := hg.1 e he
    unfold fxl fxh
    generalize π (G.u e) + co e - π (G.v e) = r at *
    split <;> split <;> omega
/-- the cheapest row: of the flows that cost least, the least row -/
def CHR (G : Gr) (lo hi co b z : Nat → Int) : Prop := FS G lo hi b z ∧ (∀ g, FS G lo hi b g → costF G co z ≤ costF G co g) ∧ ∀ g, FS G lo hi b g → costF G co g = costF G co z → ∀ p, p < G.m → (∀ q, q < p → g q = z q) → z p ≤ g p
theorem CHR.uniq {b z y : Nat → Int} (h : CHR G lo hi co b z) (h9 : CHR G lo hi co b y) : ∀ e, e < G.m → z e = y e := by
  have hc : costF G co y = costF G co z := by
    have a := h.2.1 y h9.1
    have b := h9.2.1 z h.1
    omega
  intro e
  induction e using Nat.strongRecOn with
  | ind e ih =>
    intro he
    have a := h.2.2 y h9.1 hc e he (fun q hq => (ih q hq (by omega)).symm)
    have b := h9.2.2 z h.1 hc.symm e he (fun q hq => ih q hq (by omega))
    omega
theorem FS_cong {b g z : Nat → Int} (h : ∀ e, e < G.m → g e = z e) (hg : FS G lo hi b g) : FS G lo hi b z := by
  refine ⟨fun e he => by rw [← h e he]; exact hg.1 e he, fun x hx => ?_⟩
  rw [← hg.2 x hx]
  exact sumE_cong fun e he => by rw [h e he]
theorem costF_cong {co9 g z : Nat → Int} (h : ∀ e, e < G.m → g e = z e) (h9 : ∀ e, e < G.m → co e = co9 e) : costF G co g = costF G co9 z := sumE_cong fun e he => by rw [h e he, h9 e he]
theorem lx_least {b : Nat → Int} {k : Nat} (hG : GrIn G) (hk : k ≤ G.m) {g : Nat → Int} (hg : FS G lo hi b g) {p : Nat} (hp : p < k) (he : ∀ q, q < p → g q = (lxC G lo hi b k).1 q) : (lxC G lo hi b k).1 p ≤ g p := by
  have hfs : FS G (lxC G lo hi b p).1 (lxC G lo hi b p).2 b g := by
    refine ⟨fun e hem => ?_, hg.2⟩
    by_cases hep : e < p
    · have a := he e hep
      rw [lxC_row (by omega : e < k), ← lxC_row hep] at a
      rw [← lxC_same hep, a]
      omega
    · rw [(lxC_after (by omega : p ≤ e)).1, (lxC_after (by omega : p ≤ e)).2]
      exact hg.1 e hem
  have := leastC_le hG hfs (show p < G.m by omega)
  rw [lxC_row hp]
  show upL _ p _ p ≤ _
  rw [upL_s]
  exact this
theorem CHR_of {b π : Nat → Int} (hG : GrIn G) (hf : FS G lo hi b f) (hp : PT G lo hi co f π) : CHR G lo hi co b (lxC G (fxl G lo hi co π) (fxh G lo hi co π) b G.m).1 := by
  have hfx := fun g => fx_flow (g := g) hG hf hp
  have hff := (hfx f).2 ⟨hf, rfl⟩
  obtain ⟨o1, g, g1, g2⟩ := lxC_ok hG hff (Nat.le_refl _)
  have hz : FS G (fxl G lo hi co π) (fxh G lo hi co π) b (lxC G (fxl G lo hi co π) (fxh G lo hi co π) b G.m).1 := by
    refine FS_cong (g := g) (fun e he => ?_) ⟨fun e he => ?_, g2⟩
    · have a := g1 e he
      rw [← lxC_same he] at a
      omega
    · have a := g1 e he
      have b := o1 e he
      omega
  have hz9 := (hfx _).1 hz
  refine ⟨hz9.1, fun g hg => ?_, fun g hg hc p hp hq => ?_⟩
  · rw [hz9.2]; exact (opt hG hf hp hg).1
  · exact lx_least hG (Nat.le_refl _) ((hfx g).2 ⟨hg, by rw [hc, hz9.2]⟩) hp hq
theorem lxF_C {s t : Nat} {a : Int} (hs : s < G.n) (ht : t < G.n) (hst : s ≠ t) (k : Nat) : lxF G lo hi s t a k = lxC G lo hi (isB s t a) k := by
  induction k with
  | zero => rfl
  | succ k ih =>
    show (upL (lxF G lo hi s t a k).1 k (leastF G (lxF G lo hi s t a k).1 (lxF G lo hi s t a k).2 s t a k), upL (lxF G lo hi s t a k).2 k (leastF G (lxF G lo hi s t a k).1 (lxF G lo hi s t a k).2 s t a k)) = _
    rw [ih, leastF_C hs ht hst]
    rfl
end CHP
