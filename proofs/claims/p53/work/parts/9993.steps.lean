/-! flow in steps: chains of cuts, and what is cheapest on the ring through the edge back -/
def subSs (B S n : Nat) : Bool := sumE n (fun x => if B.testBit x && !S.testBit x then 1 else 0) == 0
def lostF (G : Gr) (hi : Nat → Int) (B S : Nat) : Int := sumE G.m (fun e => if B.testBit (G.u e) && !S.testBit (G.v e) then hi e else 0)
def nowF (G : Gr) (hi : Nat → Int) (s t : Nat) : Nat → Nat → Int
  | 0 => fun _ => 0
  | k + 1 => fun S => if btw s t S then mnb 1000000 (fun B => decide (B &&& S = B) && btw s t B) (fun B => nowF G hi s t k B + lostF G hi B S) (S + 1) else 1000000
def inStepsG (G : Gr) (hi : Nat → Int) (s t k : Nat) : Int := mnb 1000000 (btw s t) (nowF G hi s t k) (2 ^ G.n)
def chnS (G : Gr) (hi : Nat → Int) (X : Nat → Nat) (k : Nat) : Int := sumE k (fun j => lostF G hi (X j) (X (j + 1)))
section STP
variable {G : Gr} {hi : Nat → Int} {s t : Nat}
theorem lost_bd (hm : G.m ≤ 16) (hb : ∀ e, e < G.m → 0 ≤ hi e ∧ hi e ≤ 99) (B S : Nat) : 0 ≤ lostF G hi B S ∧ lostF G hi B S ≤ 1584 := by
  have := sumE_bd (n := G.m) (f := fun e => if B.testBit (G.u e) && !S.testBit (G.v e) then hi e else 0) (a := 0) (b := 99) fun e he => by
    have := hb e he
    show 0 ≤ (if B.testBit (G.u e) && !S.testBit (G.v e) then hi e else 0) ∧ (if B.testBit (G.u e) && !S.testBit (G.v e) then hi e else 0) ≤ 99
    split <;> omega
  unfold lostF
  omega
theorem mnb_le0 (b : Int) (p : Nat → Bool) (f : Nat → Int) (n : Nat) : mnb b p f n ≤ b ∧ ∀ S, S < n → p S = true → mnb b p f n ≤ f S := by
  induction n with
  | zero => exact ⟨Int.le_refl _, fun S hS => absurd hS (Nat.not_lt_zero _)⟩
  | succ n ih =>
    obtain ⟨i1, i2⟩ := ih
    rw [mnb]
    cases hp : p n
    · rw [if_neg (by decide)]
      refine ⟨i1, fun S hS h => ?_⟩
      by_cases hn : S = n
      · rw [hn, hp] at h; cases h
      · exact i2 S (by omega) h
    · rw [if_pos rfl]
      refine ⟨by omega, fun S hS h => ?_⟩
      by_cases hn : S = n
      · rw [hn]; omega
      · have := i2 S (by omega) h; omega
theorem mnb_at (b : Int) (p : Nat → Bool) (f : Nat → Int) (n : Nat) : mnb b p f n = b ∨ ∃ S, S < n ∧ p S = true ∧ mnb b p f n = f S := by
  induction n with
  | zero => exact Or.inl rfl
  | succ n ih =>
    rw [mnb]
    cases hp : p n
    · rw [if_neg (by decide)]
      rcases ih with h | ⟨S, h1, h2, h3⟩
      · exact Or.inl h
      · exact Or.inr ⟨S, by omega, h2, h3⟩
    · rw [if_pos rfl]
      rcases Int.le_total (mnb b p f n) (f n) with hc | hc
      · rw [Int.min_eq_left hc]
        rcases ih with h | ⟨S, h1, h2, h3⟩
        · exact Or.inl h
        · exact Or.inr ⟨S, by omega, h2, h3⟩
      · rw [Int.min_eq_right hc]
        exact Or.inr ⟨n, by omega, hp, rfl⟩
theorem nowF_bd (hm : G.m ≤ 16) (hb : ∀ e, e < G.m → 0 ≤ hi e ∧ hi e ≤ 99) (k S : Nat) : 0 ≤ nowF G hi s t k S ∧ nowF G hi s t k S ≤ 1000000 := by
  induction k generalizing S with
  | zero => exact ⟨Int.le_refl _, by show (0 : Int) ≤ 1000000; omega⟩
  | succ k ih =>
    show 0 ≤ (if btw s t S then _ else (1000000 : Int)) ∧ (if btw s t S then _ else (1000000 : Int)) ≤ 1000000
    split
    · refine ⟨?_, (mnb_le0 _ _ _ _).1⟩
      rcases mnb_at 1000000 (fun B => decide (B &&& S = B) && btw s t B) (fun B => nowF G hi s t k B + lostF G hi B S) (S + 1) with h | ⟨B, -, -, h⟩
      · rw [h]; omega
      · rw [h]
        have := ih B
        have := lost_bd hm hb B S
        omega
    · omega
def Chn (n s t : Nat) (X : Nat → Nat) (k : Nat) : Prop := (∀ j, j ≤ k → btw s t (X j) = true ∧ X j < 2 ^ n) ∧ ∀ j, j < k → X j &&& X (j + 1) = X j
theorem sub_le {B S : Nat} (h : B &&& S = B) : B ≤ S := by rw [← h]; exact Nat.and_le_right
theorem now_le {X : Nat → Nat} {k : Nat} (h : Chn G.n s t X k) : nowF G hi s t k (X k) ≤ chnS G hi X k := by
  induction k with
  | zero => exact Int.le_refl _
  | succ k ih =>
    have a := ih ⟨fun j hj => h.1 j (by omega), fun j hj => h.2 j (by omega)⟩
    have b := h.1 (k + 1) (Nat.le_refl _)
    have c := h.1 k (by omega)
    have e := h.2 k (by omega)
    have hle := sub_le e
    show (if btw s t (X (k + 1)) then _ else (1000000 : Int)) ≤ chnS G hi X k + lostF G hi (X k) (X (k + 1))
    rw [if_pos b.1]
    have := (mnb_le0 1000000 (fun B => decide (B &&& X (k + 1) = B) && btw s t B) (fun B => nowF G hi s t k B + lostF G hi B (X (k + 1))) (X (k + 1) + 1)).2 (X k) (by omega) (by
      show (decide _ && _) = true
      rw [decide_eq_true e, c.1]; rfl)
    have h9 : mnb 1000000 (fun B => decide (B &&& X (k + 1) = B) && btw s t B) (fun B => nowF G hi s t k B + lostF G hi B (X (k + 1))) (X (k + 1) + 1) ≤ nowF G hi s t k (X k) + lostF G hi (X k) (X (k + 1)) := this
    omega
theorem now_at {n : Nat} (hm : G.m ≤ 16) (hb : ∀ e, e < G.m → 0 ≤ hi e ∧ hi e ≤ 99) {k S : Nat} (hk : k ≤ 8) (hS : btw s t S = true) (hSn : S < 2 ^ n) : nowF G hi s t k S ≤ 1584 * k ∧ ∃ X, X k = S ∧ Chn n s t X k ∧ nowF G hi s t k S = chnS G hi X k := by
  induction k generalizing S with
  | zero => exact ⟨by show (0 : Int) ≤ _; omega, fun _ => S, rfl, ⟨fun j _ => ⟨hS, hSn⟩, fun j hj => absurd hj (Nat.not_lt_zero _)⟩, rfl⟩
  | succ k ih =>
    have hself := ih (by omega) hS hSn
    have hl := lost_bd hm hb S S
    have e1 : nowF G hi s t (k + 1) S = mnb 1000000 (fun B => decide (B &&& S = B) && btw s t B) (fun B => nowF G hi s t k B + lostF G hi B S) (S + 1) := if_pos hS
    have h9 : mnb 1000000 (fun B => decide (B &&& S = B) && btw s t B) (fun B => nowF G hi s t k B + lostF G hi B S) (S + 1) ≤ nowF G hi s t k S + lostF G hi S S := (mnb_le0 1000000 (fun B => decide (B &&& S = B) && btw s t B) (fun B => nowF G hi s t k B + lostF G hi B S) (S + 1)).2 S (by omega) (by
      show (decide _ && _) = true
      rw [decide_eq_true (Nat.and_self S), hS]; rfl)
    rw [e1]
    refine ⟨by omega, ?_⟩
    rcases mnb_at 1000000 (fun B => decide (B &&& S = B) && btw s t B) (fun B => nowF G hi s t k B + lostF G hi B S) (S + 1) with h | ⟨B, b1, b2, b3⟩
    · omega
    · have b4 : (decide (B &&& S = B) && btw s t B) = true := b2
      rw [Bool.and_eq_true] at b4
      have b5 := of_decide_eq_true b4.1
      obtain ⟨-, X, x1, x2, x3⟩ := ih (S := B) (by omega) b4.2 (by omega)
      refine ⟨fun j => if j = k + 1 then S else X j, if_pos rfl, ⟨fun j hj => ?_, fun j hj => ?_⟩, ?_⟩
      · show btw s t (if j = k + 1 then S else X j) = true ∧ (if j = k + 1 then S else X j) < _
        by_cases hjk : j = k + 1
        · rw [if_pos hjk]; exact ⟨hS, hSn⟩
        · rw [if_neg hjk]; exact x2.1 j (by omega)
      · show (if j = k + 1 then S else X j) &&& (if j + 1 = k + 1 then S else X (j + 1)) = (if j = k + 1 then S else X j)
        have hj1 : ¬ j = k + 1 := by omega
        rw [if_neg hj1]
        by_cases hjk : j = k
        · rw [if_pos (by omega), hjk, x1]; exact b5
        · rw [if_neg (by omega)]; exact x2.2 j (by omega)
      · rw [b3]
        show nowF G hi s t k B + lostF G hi B S = sumE k (fun j => lostF G hi (if j = k + 1 then S else X j) (if j + 1 = k + 1 then S else X (j + 1))) + lostF G hi (if k = k + 1 then S else X k) (if k + 1 = k + 1 then S else X (k + 1))
        rw [if_neg (by omega), if_pos rfl, x1, x3]
        have : sumE k (fun j => lostF G hi (if j = k + 1 then S else X j) (if j + 1 = k + 1 then S else X (j + 1))) = chnS G hi X k := sumE_cong fun j hj => by
          rw [if_neg (by omega), if_neg (by omega)]
        rw [this]
/-- how often an edge is lost in a chain -/
def lostN (G : Gr) (X : Nat → Nat) (k e : Nat) : Int := sumE k (fun j => if (X j).testBit (G.u e) && !(X (j + 1)).testBit (G.v e) then 1 else 0)
theorem chnS_eq (X : Nat → Nat) (k : Nat) : chnS G hi X k = sumE G.m (fun e => hi e * lostN G X k e) := by
  unfold chnS lostF
  rw [sumE_swap]
  refine sumE_cong fun e _ => ?_
  unfold lostN
  rw [← sumE_mul]
  refine sumE_cong fun j _ => ?_
  show (if _ then hi e else 0) = hi e * (if _ then 1 else 0)
  split
  · rw [Int.mul_one]
  · rw [Int.mul_zero]
theorem lostN_nn (X : Nat → Nat) (k e : Nat) : 0 ≤ lostN G X k e := sumE_nonneg fun j _ => by
  show 0 ≤ (if _ then (1 : Int) else 0)
  split <;> omega
def offN (X : Nat → Nat) (k x : Nat) : Int := sumE k (fun j => if (X j).testBit x then 0 else 1)
theorem lostN_ge (X : Nat → Nat) (k e : Nat) : offN X (k + 1) (G.v e) - offN X (k + 1) (G.u e) - 1 ≤ lostN G X k e := by
  have key : ∀ k, offN X (k + 1) (G.v e) - offN X (k + 1) (G.u e) - 1 ≤ lostN G X k e - (if (X k).testBit (G.u e) then 0 else 1) := by
    intro k
    induction k with
    | zero =>
      show 0 + (if (X 0).testBit (G.v e) then (0 : Int) else 1) - (0 + (if (X 0).testBit (G.u e) then (0 : Int) else 1)) - 1 ≤ 0 - (if (X 0).testBit (G.u e) then (0 : Int) else 1)
      split <;> omega
    | succ k ih =>
      show offN X (k + 1) (G.v e) + (if (X (k + 1)).testBit (G.v e) then (0 : Int) else 1) - (offN X (k + 1) (G.u e) + (if (X (k + 1)).testBit (G.u e) then (0 : Int) else 1)) - 1 ≤ lostN G X k e + (if (X k).testBit (G.u e) && !(X (k + 1)).testBit (G.v e) then (1 : Int) else 0) - (if (X (k + 1)).testBit (G.u e) then (0 : Int) else 1)
      generalize (X k).testBit (G.u e) = p at ih
      generalize (X (k + 1)).testBit (G.v e) = q
      cases p <;> cases q <;> simp at ih ⊢ <;> omega
  have := key k
  split at this <;> omega
theorem offN_all {X : Nat → Nat} {k x : Nat} (b : Bool) (h : ∀ j, j < k → (X j).testBit x = b) : offN X k x = if b then 0 else (k : Int) := by
  unfold offN
  cases b
  · rw [if_neg (by decide)]
    have e1 : sumE k (fun j => if (X j).testBit x then (0 : Int) else 1) = sumE k (fun _ => 1) := sumE_cong fun j hj => by rw [h j hj]; rfl
    rw [e1, sumE_ones]
  · rw [if_pos rfl]
    exact sumE_0 fun j hj => by rw [h j hj]; rfl
theorem off_cnt (A B : Int) (hA : 0 ≤ A) (T : Nat) : sumE T (fun j => if A ≤ (j : Int) ∧ (j : Int) + 1 < B then 1 else 0) = max 0 (min (B - 1) T - A) := by
  induction T with
  | zero => show (0 : Int) = _; omega
  | succ T ih =>
    show sumE T _ + (if A ≤ (T : Int) ∧ (T : Int) + 1 < B then (1 : Int) else 0) = _
    rw [ih]
    split <;> omega
/-- what the ring through the edge back is worth, by corners' numbers -/
theorem steps_val {f : Nat → Int} (hG : GrIn G) (hs : s < G.n) (ht : t < G.n) (hn : ∀ x, x < G.n → nout (bk G s t) f x = 0) (a : Nat → Int) : f G.m * (a t - a s) = sumE G.m (fun e => f e * (a (G.v e) - a (G.u e))) := by
  have h := pairing (bk_in9 hG hs ht) f a
  have h0 : sumE (bk G s t).n (fun x => a x * nout (bk G s t) f x) = 0 := sumE_0 fun x hx => by rw [hn x hx, Int.mul_zero]
  rw [h0] at h
  have h1 : sumE (bk G s t).m (fun e => f e * (a ((bk G s t).u e) - a ((bk G s t).v e))) = sumE G.m (fun e => f e * (a ((bk G s t).u e) - a ((bk G s t).v e))) + f G.m * (a ((bk G s t).u G.m) - a ((bk G s t).v G.m)) := rfl
  rw [h1, bk_um, bk_vm] at h
  have h2 : sumE G.m (fun e => f e * (a ((bk G s t).u e) - a ((bk G s t).v e))) = -sumE G.m (fun e => f e * (a (G.v e) - a (G.u e))) := by
    have : -sumE G.m (fun e => f e * (a (G.v e) - a (G.u e))) = -1 * sumE G.m (fun e => f e * (a (G.v e) - a (G.u e))) := by omega
    rw [this, ← sumE_mul]
    refine sumE_cong fun e he => ?_
    rw [bk_u he, bk_v he, show a (G.u e) - a (G.v e) = -(a (G.v e) - a (G.u e)) by omega, Int.mul_neg]
    omega
  omega
theorem steps_weak {f : Nat → Int} {X : Nat → Nat} {T : Nat} (hG : GrIn G) (hs : s < G.n) (ht : t < G.n) (hn : ∀ x, x < G.n → nout (bk G s t) f x = 0) (hf : ∀ e, e < G.m → 0 ≤ f e ∧ f e ≤ hi e) (hX : Chn G.n s t X T) : ((T : Int) + 1) * f G.m - sumE G.m f ≤ chnS G hi X T := by
  have hv := steps_val hG hs ht hn (fun x => offN X (T + 1) x)
  have hbt : ∀ j, j < T + 1 → (X j).testBit s = true ∧ (X j).testBit t = false := fun j hj => by
    have := (hX.1 j (by omega)).1
    unfold btw at this
    revert this
    cases (X j).testBit s <;> cases (X j).testBit t <;> simp
  have es : offN X (T + 1) s = 0 := by rw [offN_all true fun j hj => (hbt j hj).1]; rfl
  have et : offN X (T + 1) t = (T : Int) + 1 := by rw [offN_all false fun j hj => (hbt j hj).2]; show ((T + 1 : Nat) : Int) = _; omega
  have hv9 : f G.m * (offN X (T + 1) t - offN X (T + 1) s) = sumE G.m (fun e => f e * (offN X (T + 1) (G.v e) - offN X (T + 1) (G.u e))) := hv
  rw [es, et, show (T : Int) + 1 - 0 = (T : Int) + 1 by omega, Int.mul_comm] at hv9
  rw [hv9, ← sumE_sub, chnS_eq]
  refine sumE_le fun e he => ?_
  have h1 := lostN_ge (G := G) X T e
  have h2 := lostN_nn (G := G) X T e
  have h3 := hf e he
  have h4 : f e * (offN X (T + 1) (G.v e) - offN X (T + 1) (G.u e)) - f e = f e * (offN X (T + 1) (G.v e) - offN X (T + 1) (G.u e) - 1) := by rw [Int.mul_sub _ _ 1, Int.mul_one]
  show f e * (offN X (T + 1) (G.v e) - offN X (T + 1) (G.u e)) - f e ≤ hi e * lostN G X T e
  rw [h4]
  have h5 := Int.mul_le_mul_of_nonneg_left h1 h3.1
  have h6 := Int.mul_le_mul_of_nonneg_right h3.2 h2
  omega
def coS (m k e : Nat) : Int := if e = m then -((k : Int) + 1) else 1
def clampI (T : Nat) (b : Int) : Int := if b < 0 then 0 else if (T : Int) + 1 < b then (T : Int) + 1 else b
theorem cl_c (T : Nat) (b : Int) : (b < 0 ∧ clampI T b = 0) ∨ ((T : Int) + 1 < b ∧ clampI T b = (T : Int) + 1) ∨ (0 ≤ b ∧ b ≤ (T : Int) + 1 ∧ clampI T b = b) := by
  unfold clampI
  split
  · left; exact ⟨by omega, rfl⟩
  · split
    · right; left; exact ⟨by omega, rfl⟩
    · right; right; exact ⟨by omega, by omega, rfl⟩
/-- no flow enters or leaves a set of corners where it can go one way only -/
theorem no_pass {f : Nat → Int} {H : Gr} (hH : GrIn H) (hn : ∀ x, x < H.n → nout H f x = 0) (hf : ∀ e, e < H.m → 0 ≤ f e) (p : Nat → Int) (hp : ∀ x, x < H.n → p x = 0 ∨ p x = 1) (h1 : ∀ e, e < H.m → p (H.u e) = 1 → p (H.v e) = 0 → f e = 0) : ∀ e, e < H.m → p (H.u e) = 0 → p (H.v e) = 1 → f e = 0 := by
  intro e he hu hv
  have h := pairing hH f p
  have h0 : sumE H.n (fun x => p x * nout H f x) = 0 := sumE_0 fun x hx => by rw [hn x hx, Int.mul_zero]
  rw [h0] at h
  by_cases hc : f e = 0
  · exact hc
  exfalso
  have hnp : ∀ k, k < H.m → f k * (p (H.u k) - p (H.v k)) ≤ 0 := by
    intro k hk
    have a := hp _ (hH k hk).1
    have b := hp _ (hH k hk).2
    rcases a with a | a <;> rcases b with b | b
    · rw [a, b, Int.sub_self, Int.mul_zero]; exact Int.le_refl _
    · rw [a, b]; have := hf k hk; omega
    · rw [h1 k hk a b, Int.zero_mul]; exact Int.le_refl _
    · rw [a, b, Int.sub_self, Int.mul_zero]; exact Int.le_refl _
  have := sumE_lt (n := H.m) (k := e) (f := fun k => f k * (p (H.u k) - p (H.v k))) (g := fun _ => 0) he hnp (by
    show f e * (p (H.u e) - p (H.v e)) < 0
    rw [hu, hv]; have := hf e he; omega)
  rw [sumE_0 (f := fun _ => 0) fun _ _ => rfl] at this
  omega
theorem steps_strong {f π lo9 hi9 : Nat → Int} {T : Nat} (hG : GrIn G) (hn8 : G.n ≤ 8) (hs : s < G.n) (ht : t < G.n) (hst : s ≠ t) (hl : ∀ e, e < G.m + 1 → lo9 e = 0) (hh : ∀ e, e < G.m → hi9 e = hi e) (hf : FS (bk G s t) lo9 hi9 (fun _ => 0) f) (hlast : f G.m < hi9 G.m) (hp : PT (bk G s t) lo9 hi9 (coS G.m T) f π) : ∃ X, Chn G.n s t X T ∧ chnS G hi X T = ((T : Int) + 1) * f G.m - sumE G.m f := by
  have hmm : G.m < (bk G s t).m := Nat.lt_succ_self _
  have hpe : ∀ e, e < G.m → (f e < hi e → π (G.v e) ≤ π (G.u e) + 1) ∧ (0 < f e → π (G.u e) + 1 ≤ π (G.v e)) ∧ 0 ≤ f e ∧ f e ≤ hi e := by
    intro e he
    have a := hp e (Nat.lt_succ_of_lt he)
    have b := hf.1 e (Nat.lt_succ_of_lt he)
    rw [bk_u he, bk_v he, hl e (by omega), hh e he, show coS G.m T e = 1 from if_neg (by omega)] at a
    rw [hl e (by omega), hh e he] at b
    exact ⟨fun h => by have := a.1 h; omega, fun h => by have := a.2 h; omega, b⟩
  have hbk := hp G.m hmm
  rw [bk_um, bk_vm, hl G.m (by omega), show coS G.m T G.m = -((T : Int) + 1) from if_pos rfl] at hbk
  have hbk1 := hbk.1 hlast
  have hfm : 0 ≤ f G.m := by have := hf.1 G.m hmm; rw [hl G.m (by omega)] at this; exact this.1
  have hfn : ∀ e, e < (bk G s t).m → 0 ≤ f e := fun e he => by
    have := hf.1 e he
    rw [hl e he] at this
    exact this.1
  -- corners' numbers
  have hcl := fun x => cl_c T (π x - π s)
  have has : clampI T (π s - π s) = 0 := by have := hcl s; omega
  have hat : clampI T (π t - π s) = (T : Int) + 1 := by have := hcl t; omega
  have hbd : ∀ x, 0 ≤ clampI T (π x - π s) ∧ clampI T (π x - π s) ≤ (T : Int) + 1 := fun x => by have := hcl x; omega
  -- no flow below the source's number
  have hlow : ∀ e, e < G.m → π (G.u e) < π (G.v e) → π (G.v e) ≤ π s → f e = 0 := by
    intro e he h1 h2
    have := no_pass (bk_in9 hG hs ht) hf.2 hfn (fun x => if π x < π (G.v e) then 0 else 1) (fun x _ => by
      show (if _ then (0 : Int) else 1) = 0 ∨ (if _ then (0 : Int) else 1) = 1
      split
      · left; rfl
      · right; rfl) (fun k hk hu hv => by
        have hu9 : (if π ((bk G s t).u k) < π (G.v e) then (0 : Int) else 1) = 1 := hu
        have hv9 : (if π ((bk G s t).v k) < π (G.v e) then (0 : Int) else 1) = 0 := hv
        split at hu9
        · omega
        split at hv9
        · rename_i c1 c2
          by_cases hkm : k = G.m
          · rw [hkm, bk_vm] at c2; omega
          · have hk9 : k < G.m := by have : k < G.m + 1 := hk; omega
            rw [bk_u hk9] at c1
            rw [bk_v hk9] at c2
            have := hpe k hk9
            by_cases hz : 0 < f k
            · have := this.2.1 hz; omega
            · omega
        · omega) e (Nat.lt_succ_of_lt he) (by rw [bk_u he]; exact if_pos h1) (by rw [bk_v he]; exact if_neg (by omega))
    exact this
  have hhigh : ∀ e, e < G.m → π (G.u e) < π (G.v e) → π s + ((T : Int) + 1) ≤ π (G.u e) → f e = 0 := by
    intro e he h1 h2
    have := no_pass (bk_in9 hG hs ht) hf.2 hfn (fun x => if π (G.u e) < π x then 1 else 0) (fun x _ => by
      show (if _ then (1 : Int) else 0) = 0 ∨ (if _ then (1 : Int) else 0) = 1
      split
      · right; rfl
      · left; rfl) (fun k hk hu hv => by
        have hu9 : (if π (G.u e) < π ((bk G s t).u k) then (1 : Int) else 0) = 1 := hu
        have hv9 : (if π (G.u e) < π ((bk G s t).v k) then (1 : Int) else 0) = 0 := hv
        split at hu9
        · split at hv9
          · omega
          · rename_i c1 c2
            by_cases hkm : k = G.m
            · rw [hkm, bk_um] at c1
              rw [hkm]
              by_cases hz : 0 < f G.m
              · have := hbk.2 hz; omega
              · omega
            · have hk9 : k < G.m := by have : k < G.m + 1 := hk; omega
              rw [bk_u hk9] at c1
              rw [bk_v hk9] at c2
              have := hpe k hk9
              by_cases hz : 0 < f k
              · have := this.2.1 hz; omega
              · omega
        · omega) e (Nat.lt_succ_of_lt he) (by rw [bk_u he]; exact if_neg (by omega)) (by rw [bk_v he]; exact if_pos h1)
    exact this
  refine ⟨fun k => mask (fun x => decide (clampI T (π x - π s) ≤ (k : Int))) G.n, ⟨fun j hj => ⟨?_, mask_lt _ _⟩, fun j hj => ?_⟩, ?_⟩
  · unfold btw
    show ((mask (fun x => decide (clampI T (π x - π s) ≤ (j : Int))) G.n).testBit s && !(mask (fun x => decide (clampI T (π x - π s) ≤ (j : Int))) G.n).testBit t) = true
    rw [mask_bit _ _ _ hs, mask_bit _ _ _ ht, has, hat, decide_eq_true (by omega), decide_eq_false (by omega)]; rfl
  · show mask (fun x => decide (clampI T (π x - π s) ≤ (j : Int))) G.n &&& mask (fun x => decide (clampI T (π x - π s) ≤ ((j + 1 : Nat) : Int))) G.n = mask (fun x => decide (clampI T (π x - π s) ≤ (j : Int))) G.n
    refine Nat.eq_of_testBit_eq fun i => ?_
    rw [Nat.testBit_and]
    by_cases hi9 : i < G.n
    · rw [mask_bit _ _ _ hi9, mask_bit _ _ _ hi9]
      by_cases hc : clampI T (π i - π s) ≤ (j : Int)
      · rw [decide_eq_true hc, decide_eq_true (by omega)]; rfl
      · rw [decide_eq_false hc]; rfl
    · have : (mask (fun x => decide (clampI T (π x - π s) ≤ (j : Int))) G.n).testBit i = false := Nat.testBit_lt_two_pow (Nat.lt_of_lt_of_le (mask_lt _ _) (Nat.pow_le_pow_right (by decide) (by omega)))
      rw [this]; rfl
  · have hv := steps_val hG hs ht hf.2 (fun x => clampI T (π x - π s))
    have hv9 : f G.m * (clampI T (π t - π s) - clampI T (π s - π s)) = sumE G.m (fun e => f e * (clampI T (π (G.v e) - π s) - clampI T (π (G.u e) - π s))) := hv
    rw [has, hat, show (T : Int) + 1 - 0 = (T : Int) + 1 by omega, Int.mul_comm] at hv9
    rw [hv9, ← sumE_sub, chnS_eq]
    refine sumE_cong fun e he => ?_
    have hN : lostN G (fun k => mask (fun x => decide (clampI T (π x - π s) ≤ (k : Int))) G.n) T e = max 0 (min (clampI T (π (G.v e) - π s) - 1) T - clampI T (π (G.u e) - π s)) := by
      rw [← off_cnt _ _ (hbd (G.u e)).1 T]
      refine sumE_cong fun j _ => ?_
      show (if (mask (fun x => decide (clampI T (π x - π s) ≤ (j : Int))) G.n).testBit (G.u e) && !(mask (fun x => decide (clampI T (π x - π s) ≤ ((j + 1 : Nat) : Int))) G.n).testBit (G.v e) then (1 : Int) else 0) = _
      rw [mask_bit _ _ _ (hG e he).1, mask_bit _ _ _ (hG e he).2]
      by_cases c1 : clampI T (π (G.u e) - π s) ≤ (j : Int)
      · by_cases c2 : (j : Int) + 1 < clampI T (π (G.v e) - π s)
        · have e1 : (if clampI T (π (G.u e) - π s) ≤ (j : Int) ∧ (j : Int) + 1 < clampI T (π (G.v e) - π s) then (1 : Int) else 0) = 1 := if_pos ⟨c1, c2⟩
          rw [e1, decide_eq_true c1, decide_eq_false (show ¬ clampI T (π (G.v e) - π s) ≤ ((j + 1 : Nat) : Int) by omega)]; rfl
        · have e1 : (if clampI T (π (G.u e) - π s) ≤ (j : Int) ∧ (j : Int) + 1 < clampI T (π (G.v e) - π s) then (1 : Int) else 0) = 0 := if_neg fun h => c2 h.2
          rw [e1, decide_eq_true c1, decide_eq_true (show clampI T (π (G.v e) - π s) ≤ ((j + 1 : Nat) : Int) by omega)]; rfl
      · have e1 : (if clampI T (π (G.u e) - π s) ≤ (j : Int) ∧ (j : Int) + 1 < clampI T (π (G.v e) - π s) then (1 : Int) else 0) = 0 := if_neg fun h => c1 h.1
        rw [e1, decide_eq_false c1]; rfl
    show hi e * lostN G _ T e = f e * (clampI T (π (G.v e) - π s) - clampI T (π (G.u e) - π s)) - f e
    have h4 : f e * (clampI T (π (G.v e) - π s) - clampI T (π (G.u e) - π s)) - f e = f e * (clampI T (π (G.v e) - π s) - clampI T (π (G.u e) - π s) - 1) := by rw [Int.mul_sub _ _ 1, Int.mul_one]
    rw [hN, h4]
    have q := hpe e he
    have cu := hcl (G.u e)
    have cv := hcl (G.v e)
    have bu := hbd (G.u e)
    have bv := hbd (G.v e)
    have z1 := hlow e he
    have z2 := hhigh e he
    generalize clampI T (π (G.v e) - π s) = av at *
    generalize clampI T (π (G.u e) - π s) = au at *
    by_cases c1 : au + 1 < av
    · have : f e = hi e := by
        by_cases hz : f e < hi e
        · have := q.1 hz; omega
        · omega
      rw [this, show max 0 (min (av - 1) (T : Int) - au) = av - au - 1 by omega]
    · rw [show max 0 (min (av - 1) (T : Int) - au) = 0 by omega, Int.mul_zero]
      by_cases c2 : av = au + 1
      · rw [show av - au - 1 = 0 by omega, Int.mul_zero]
      · have : f e = 0 := by
          by_cases hz : 0 < f e
          · have := q.2.1 hz; omega
          · omega
        rw [this, Int.zero_mul]
theorem steps_eq {f π lo9 hi9 : Nat → Int} {T : Nat} (hG : GrOK G) (hb : ∀ e, e < G.m → 0 ≤ hi e ∧ hi e ≤ 99) (hT : T ≤ 8) (hs : s < G.n) (ht : t < G.n) (hst : s ≠ t) (hl : ∀ e, e < G.m + 1 → lo9 e = 0) (hh : ∀ e, e < G.m → hi9 e = hi e) (hf : FS (bk G s t) lo9 hi9 (fun _ => 0) f) (hlast : f G.m < hi9 G.m) (hp : PT (bk G s t) lo9 hi9 (coS G.m T) f π) : ((T : Int) + 1) * f G.m - sumE G.m f = inStepsG G hi s t T := by
  obtain ⟨X, hX, hv⟩ := steps_strong hG.in hG.2.1 hs ht hst hl hh hf hlast hp
  have hXT := hX.1 T (Nat.le_refl _)
  have hle := now_le (hi := hi) hX
  have hnT := now_at (G := G) (s := s) (t := t) (k := T) (S := X T) (n := G.n) hG.2.2.1 hb hT hXT.1 hXT.2
  symm
  unfold inStepsG
  have hge : ∀ S, S < 2 ^ G.n → btw s t S = true → ((T : Int) + 1) * f G.m - sumE G.m f ≤ nowF G hi s t T S := by
    intro S hS hb9
    obtain ⟨-, Y, y1, y2, y3⟩ := now_at (G := G) (s := s) (t := t) (k := T) hG.2.2.1 hb hT hb9 hS
    rw [y3]
    exact steps_weak hG.in hs ht hf.2 (fun e he => by
      have := hf.1 e (Nat.lt_succ_of_lt he)
      rw [hl e (by omega), hh e he] at this
      exact this) y2
  have h1 := hge _ hXT.2 hXT.1
  refine mnb_eq (by omega) hge ⟨X T, hXT.2, hXT.1, by omega⟩
end STP
