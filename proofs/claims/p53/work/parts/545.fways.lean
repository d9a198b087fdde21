/-! signs of edges that are gone along, and ways -/
def eg (σ : Nat) : Nat := if σ < 32 then σ else σ - 32
def sgn (σ : Nat) (a : Int) : Int := if σ < 32 then a else -a
def bgn (G : Gr) (σ : Nat) : Nat := if σ < 32 then G.u σ else G.v (σ - 32)
def edn (G : Gr) (σ : Nat) : Nat := if σ < 32 then G.v σ else G.u (σ - 32)
def rsp (lo hi f : Nat → Int) (σ : Nat) : Int := if σ < 32 then hi σ - f σ else f (σ - 32) - lo (σ - 32)
def a1 (f : Nat → Int) (σ : Nat) (a : Int) : Nat → Int := upL f (eg σ) (f (eg σ) + sgn σ a)
def ap (f : Nat → Int) (w : Nat → Nat) (a : Int) : Nat → Nat → Int
  | 0 => f
  | i + 1 => a1 (ap f w a i) (w i) a
def mw (lim : Int) (g : Nat → Int) : Nat → Int
  | 0 => lim
  | i + 1 => if g i < mw lim g i then g i else mw lim g i
theorem mw_le {lim : Int} {g : Nat → Int} {k : Nat} : mw lim g k ≤ lim ∧ ∀ i, i < k → mw lim g k ≤ g i := by
  induction k with
  | zero => exact ⟨Int.le_refl _, fun i hi => by omega⟩
  | succ k ih =>
    rw [mw]
    by_cases h : g k < mw lim g k
    · rw [if_pos h]
      refine ⟨by omega, fun i hi => ?_⟩
      by_cases hik : i = k
      · rw [hik]; exact Int.le_refl _
      · have := ih.2 i (by omega); omega
    · rw [if_neg h]
      refine ⟨ih.1, fun i hi => ?_⟩
      by_cases hik : i = k
      · rw [hik]; omega
      · exact ih.2 i (by omega)
theorem mw_ge {lim b : Int} {g : Nat → Int} {k : Nat} (h : b ≤ lim) (hg : ∀ i, i < k → b ≤ g i) : b ≤ mw lim g k := by
  induction k with
  | zero => exact h
  | succ k ih =>
    rw [mw]
    have := ih (fun i hi => hg i (by omega))
    have := hg k (by omega)
    split <;> omega
theorem mw_cong {lim : Int} {g g9 : Nat → Int} {k : Nat} (h : ∀ i, i < k → g i = g9 i) : mw lim g k = mw lim g9 k := by
  induction k with
  | zero => rfl
  | succ k ih => rw [mw, mw, ih (fun i hi => h i (by omega)), h k (by omega)]
theorem nout_up {G : Gr} (f : Nat → Int) {e : Nat} (he : e < G.m) (a : Int) (x : Nat) : nout G (upL f e (f e + a)) x = nout G f x + ((if G.u e = x then a else 0) - (if G.v e = x then a else 0)) := by
  unfold nout
  rw [← sumE_one he ((if G.u e = x then a else 0) - (if G.v e = x then a else 0)), ← sumE_add]
  apply sumE_cong
  intro k hk
  rcases upL_c f e (f e + a) k with ⟨rfl, h⟩ | ⟨h1, h⟩
  · rw [h, if_pos rfl]
    split <;> split <;> omega
  · rw [h, if_neg h1]
    omega
theorem nout_a1 {G : Gr} (f : Nat → Int) {σ : Nat} (he : eg σ < G.m) (a : Int) (x : Nat) : nout G (a1 f σ a) x = nout G f x + ((if bgn G σ = x then a else 0) - (if edn G σ = x then a else 0)) := by
  unfold a1
  rw [nout_up f he]
  by_cases h : σ < 32
  · simp only [eg, sgn, bgn, edn, if_pos h]
  · simp only [eg, sgn, bgn, edn, if_neg h]
    split <;> split <;> omega
theorem nout_ap {G : Gr} {f : Nat → Int} {w p : Nat → Nat} {a : Int} {k : Nat} (h : ∀ i, i < k → eg (w i) < G.m ∧ p i = bgn G (w i) ∧ p (i + 1) = edn G (w i)) (x : Nat) : nout G (ap f w a k) x = nout G f x + ((if p 0 = x then a else 0) - (if p k = x then a else 0)) := by
  induction k with
  | zero => rw [ap]; omega
  | succ k ih =>
    obtain ⟨h1, h2, h3⟩ := h k (by omega)
    rw [ap, nout_a1 _ h1, ih (fun i hi => h i (by omega)), ← h2, ← h3]
    omega
theorem ap_off {f : Nat → Int} {w : Nat → Nat} {a : Int} {k e : Nat} (h : ∀ i, i < k → eg (w i) ≠ e) : ap f w a k e = f e := by
  induction k with
  | zero => rfl
  | succ k ih => rw [ap, a1, upL_n (fun z => h k (by omega) z.symm)]; exact ih (fun i hi => h i (by omega))
theorem ap_on {f : Nat → Int} {w : Nat → Nat} {a : Int} {k : Nat} (h : ∀ i j, i < k → j < k → eg (w i) = eg (w j) → i = j) {i : Nat} (hi : i < k) : ap f w a k (eg (w i)) = f (eg (w i)) + sgn (w i) a := by
  induction k with
  | zero => omega
  | succ k ih =>
    rw [ap, a1]
    by_cases hik : i = k
    · subst hik
      rw [upL_s, ap_off]
      intro j hj z
      have := h j i (by omega) (by omega) z
      omega
    · rw [upL_n (fun z => hik (h i k (by omega) (by omega) z))]
      exact ih (fun i j hi hj => h i j (by omega) (by omega)) (by omega)
/-- what is put on a way keeps within bounds -/
theorem ap_in {lo hi f : Nat → Int} {w : Nat → Nat} {a : Int} {k m : Nat} (h : ∀ i j, i < k → j < k → eg (w i) = eg (w j) → i = j) (ha : 0 ≤ a) (hr : ∀ i, i < k → a ≤ rsp lo hi f (w i)) (hb : ∀ e, e < m → lo e ≤ f e ∧ f e ≤ hi e) : ∀ e, e < m → lo e ≤ ap f w a k e ∧ ap f w a k e ≤ hi e := by
  intro e he
  have h1 := hb e he
  by_cases hx : ∃ i, i < k ∧ eg (w i) = e
  · obtain ⟨i, hi, rfl⟩ := hx
    have h2 := hr i hi
    rw [ap_on h hi]
    by_cases hs : w i < 32
    · simp only [eg, sgn, rsp, if_pos hs] at h1 h2 ⊢; omega
    · simp only [eg, sgn, rsp, if_neg hs] at h1 h2 ⊢; omega
  · rw [ap_off (fun i hi z => hx ⟨i, hi, z⟩)]
    exact h1
/-- far values, whatever the way -/
theorem ap_bd {f : Nat → Int} {w : Nat → Nat} {a A B : Int} {k m : Nat} (hA : -A ≤ a ∧ a ≤ A) (hw : ∀ i, i < k → eg (w i) < m) (hf : ∀ e, e < m → -B ≤ f e ∧ f e ≤ B) : ∀ e, e < m → -(B + k * A) ≤ ap f w a k e ∧ ap f w a k e ≤ B + k * A := by
  induction k with
  | zero => intro e he; have := hf e he; simp only [ap]; omega
  | succ k ih =>
    intro e he
    have ih := ih (fun i hi => hw i (by omega))
    have h1 : ((k + 1 : Nat) : Int) * A = k * A + A := by rw [Int.natCast_add, Int.add_mul]; omega
    rw [h1, ap, a1]
    have h2 : -A ≤ sgn (w k) a ∧ sgn (w k) a ≤ A := by unfold sgn; split <;> omega
    rcases upL_c (ap f w a k) (eg (w k)) (ap f w a k (eg (w k)) + sgn (w k) a) e with ⟨h3, h4⟩ | ⟨h3, h4⟩ <;> rw [h4]
    · have := ih (eg (w k)) (hw k (by omega)); omega
    · have := ih e he; omega
/-- the first open sign that leads from x to where the levels are nx: forward ones come first -/
def fwB (G : Gr) (hi f L : Nat → Int) (x : Nat) (nx : Int) (e : Nat) : Bool := decide (G.u e = x ∧ L (G.v e) = nx ∧ f e < hi e)
def bwB (G : Gr) (lo f L : Nat → Int) (x : Nat) (nx : Int) (e : Nat) : Bool := decide (G.v e = x ∧ L (G.u e) = nx ∧ lo e < f e)
def bks (p : Nat → Bool) : Nat → Int
  | 0 => -1
  | e + 1 => if bks p e = -1 then (if p e then (e : Int) + 32 else -1) else bks p e
theorem bks_c (p : Nat → Bool) (n : Nat) : (bks p n = -1 ∧ ∀ e, e < n → p e = false) ∨ ∃ e, e < n ∧ bks p n = (e : Int) + 32 ∧ p e = true ∧ ∀ j, j < e → p j = false := by
  induction n with
  | zero => exact Or.inl ⟨rfl, fun e he => by omega⟩
  | succ n ih =>
    rw [bks]
    rcases ih with ⟨h1, h2⟩ | ⟨e, h1, h2, h3, h4⟩
    · rw [h1, if_pos rfl]
      by_cases hp : p n = true
      · exact Or.inr ⟨n, by omega, by rw [if_pos hp], hp, h2⟩
      · rw [if_neg hp]
        refine Or.inl ⟨rfl, fun e he => ?_⟩
        by_cases hen : e = n
        · rw [hen]; simpa using hp
        · exact h2 e (by omega)
    · exact Or.inr ⟨e, by omega, by rw [h2, if_neg (by omega)], h3, h4⟩
def lsg (G : Gr) (lo hi f L : Nat → Int) (x : Nat) (nx : Int) : Int := if ff (fwB G hi f L x nx) G.m = -1 then bks (bwB G lo f L x nx) G.m else ff (fwB G hi f L x nx) G.m
/-- .. which exists where a node of that level is near -/
theorem lsg_ok {G : Gr} {lo hi f L : Nat → Int} {x : Nat} {nx : Int} (hm : G.m ≤ 32) (h : ∃ y, RS G lo hi f x y ∧ L y = nx) : ∃ σ : Nat, lsg G lo hi f L x nx = (σ : Int) ∧ σ < 64 ∧ eg σ < G.m ∧ bgn G σ = x ∧ L (edn G σ) = nx ∧ 0 < rsp lo hi f σ := by
  unfold lsg
  rcases ff_cases (fwB G hi f L x nx) G.m with ⟨h1, h2⟩ | ⟨e, h1, h2, h3, h4⟩
  · rw [h1, if_pos rfl]
    rcases bks_c (bwB G lo f L x nx) G.m with ⟨h5, h6⟩ | ⟨e, h5, h6, h7, h8⟩
    · exfalso
      obtain ⟨y, ⟨e, he, ⟨rfl, rfl, hr⟩ | ⟨rfl, rfl, hr⟩⟩, hy⟩ := h
      · have := h2 e he
        simp only [fwB, decide_eq_false_iff_not] at this
        exact this ⟨trivial, hy, hr⟩
      · have := h6 e he
        simp only [bwB, decide_eq_false_iff_not] at this
        exact this ⟨trivial, hy, hr⟩
    · rw [h6]
      have h9 := of_decide_eq_true h7
      have hs : ¬ e + 32 < 32 := by omega
      refine ⟨e + 32, by omega, by omega, ?_, ?_, ?_, ?_⟩
      · simp only [eg, if_neg hs, Nat.add_sub_cancel]; exact h5
      · simp only [bgn, if_neg hs, Nat.add_sub_cancel]; exact h9.1
      · simp only [edn, if_neg hs, Nat.add_sub_cancel]; exact h9.2.1
      · simp only [rsp, if_neg hs, Nat.add_sub_cancel]; omega
  · rw [h2, if_neg (by omega)]
    have h9 := of_decide_eq_true h3
    have hs : e < 32 := by omega
    refine ⟨e, rfl, by omega, ?_, ?_, ?_, ?_⟩
    · simp only [eg, if_pos hs]; exact h1
    · simp only [bgn, if_pos hs]; exact h9.1
    · simp only [edn, if_pos hs]; exact h9.2.1
    · simp only [rsp, if_pos hs]; omega
