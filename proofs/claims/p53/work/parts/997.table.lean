/-! tables that are rounded: a table as a graph, and the least near table -/
theorem sumE_split (n m : Nat) (f : Nat → Int) : sumE (n + m) f = sumE n f + sumE m (fun i => f (n + i)) := by
  induction m with
  | zero => show sumE n f = sumE n f + 0; omega
  | succ m ih => show sumE (n + m) f + f (n + m) = sumE n f + (sumE m (fun i => f (n + i)) + f (n + m)); omega
theorem sumE_ite (p : Prop) [Decidable p] (n : Nat) (f : Nat → Int) : sumE n (fun i => if p then f i else 0) = if p then sumE n f else 0 := by
  by_cases h : p
  · rw [if_pos h]; exact sumE_cong fun e _ => if_pos h
  · rw [if_neg h]; exact sumE_0 fun e _ => if_neg h
theorem sumE_hit {n k : Nat} (hk : k < n) (f : Nat → Int) : sumE n (fun e => if e = k then f e else 0) = f k := by
  rw [← sumE_one hk (f k)]
  refine sumE_cong fun e _ => ?_
  by_cases h : e = k
  · rw [if_pos h, if_pos h, h]
  · rw [if_neg h, if_neg h]
def rsT (k : Nat) (w : Nat → Int) (a : Nat) : Int := sumE k (fun b => w (a * k + b))
def csT (r k : Nat) (w : Nat → Int) (b : Nat) : Int := sumE r (fun a => w (a * k + b))
theorem sumE_grid (r k : Nat) (w : Nat → Int) : sumE (r * k) w = sumE r (rsT k w) := by
  induction r with
  | zero => rw [Nat.zero_mul]; rfl
  | succ r ih => rw [Nat.succ_mul, sumE_split, ih]; rfl
theorem sumE_grid2 (r k : Nat) (w : Nat → Int) : sumE (r * k) w = sumE k (csT r k w) := by
  rw [sumE_grid]; exact sumE_swap r k (fun a b => w (a * k + b))
theorem cell_lt {r k a b : Nat} (ha : a < r) (hb : b < k) : a * k + b < r * k := by
  have := Nat.mul_le_mul_right k (show a + 1 ≤ r from ha)
  rw [Nat.succ_mul] at this
  omega
theorem cell_div {k a b : Nat} (hb : b < k) : (a * k + b) / k = a := by
  rw [Nat.mul_comm a k, Nat.mul_add_div (by omega), Nat.div_eq_of_lt hb, Nat.add_zero]
theorem cell_mod {k a b : Nat} (hb : b < k) : (a * k + b) % k = b := by
  rw [Nat.mul_comm a k, Nat.mul_add_mod, Nat.mod_eq_of_lt hb]
theorem cell_of {r k p : Nat} (hp : p < r * k) : p / k < r ∧ p % k < k ∧ p / k * k + p % k = p := by
  have hk : 0 < k := by
    rcases Nat.eq_zero_or_pos k with h | h
    · rw [h, Nat.mul_zero] at hp; omega
    · exact h
  refine ⟨Nat.div_lt_of_lt_mul (by rw [Nat.mul_comm]; exact hp), Nat.mod_lt _ hk, ?_⟩
  rw [Nat.mul_comm]; exact Nat.div_add_mod p k
def tgU (r k e : Nat) : Nat := if e < r * k then e / k else if e < r * k + r then r + k else if e < r * k + r + k then r + (e - (r * k + r)) else r + k + 1
def tgV (r k e : Nat) : Nat := if e < r * k then r + e % k else if e < r * k + r then e - r * k else if e < r * k + r + k then r + k + 1 else r + k
def TG9 (r k : Nat) : Gr := (r + k + 2, r * k + r + k + 1, tgU r k, tgV r k)
def filT (r k : Nat) (w : Nat → Int) (e : Nat) : Int := if e < r * k then w e else if e < r * k + r then rsT k w (e - r * k) else if e < r * k + r + k then csT r k w (e - (r * k + r)) else sumE (r * k) w
section TBP
variable {r k : Nat}
theorem tg_1 {a b : Nat} (ha : a < r) (hb : b < k) : tgU r k (a * k + b) = a ∧ tgV r k (a * k + b) = r + b := by
  have h := cell_lt ha hb
  unfold tgU tgV
  rw [if_pos h, if_pos h, cell_div hb, cell_mod hb]
  exact ⟨rfl, rfl⟩
theorem tg_2 {a : Nat} (ha : a < r) : tgU r k (r * k + a) = r + k ∧ tgV r k (r * k + a) = a := by
  unfold tgU tgV
  generalize r * k = z
  have h1 : ¬ z + a < z := by omega
  have h2 : z + a < z + r := by omega
  rw [if_neg h1, if_neg h1, if_pos h2, if_pos h2]
  exact ⟨rfl, by omega⟩
theorem tg_3 {b : Nat} (hb : b < k) : tgU r k (r * k + r + b) = r + b ∧ tgV r k (r * k + r + b) = r + k + 1 := by
  unfold tgU tgV
  generalize r * k = z
  have h1 : ¬ z + r + b < z := by omega
  have h2 : ¬ z + r + b < z + r := by omega
  have h3 : z + r + b < z + r + k := by omega
  rw [if_neg h1, if_neg h1, if_neg h2, if_neg h2, if_pos h3, if_pos h3]
  exact ⟨by omega, rfl⟩
theorem tg_4 : tgU r k (r * k + r + k) = r + k + 1 ∧ tgV r k (r * k + r + k) = r + k := by
  unfold tgU tgV
  generalize r * k = z
  have h1 : ¬ z + r + k < z := by omega
  have h2 : ¬ z + r + k < z + r := by omega
  have h3 : ¬ z + r + k < z + r + k := by omega
  rw [if_neg h1, if_neg h1, if_neg h2, if_neg h2, if_neg h3, if_neg h3]
  exact ⟨rfl, rfl⟩
theorem fil_1 (w : Nat → Int) {p : Nat} (hp : p < r * k) : filT r k w p = w p := if_pos hp
theorem fil_2 (w : Nat → Int) {a : Nat} (ha : a < r) : filT r k w (r * k + a) = rsT k w a := by
  unfold filT
  have h1 : ¬ r * k + a < r * k := by omega
  have h2 : r * k + a < r * k + r := by omega
  rw [if_neg h1, if_pos h2, show r * k + a - r * k = a by omega]
theorem fil_3 (w : Nat → Int) {b : Nat} (hb : b < k) : filT r k w (r * k + r + b) = csT r k w b := by
  unfold filT
  have h1 : ¬ r * k + r + b < r * k := by omega
  have h2 : ¬ r * k + r + b < r * k + r := by omega
  have h3 : r * k + r + b < r * k + r + k := by omega
  rw [if_neg h1, if_neg h2, if_pos h3, show r * k + r + b - (r * k + r) = b by omega]
theorem fil_4 (w : Nat → Int) : filT r k w (r * k + r + k) = sumE (r * k) w := by
  unfold filT
  have h1 : ¬ r * k + r + k < r * k := by omega
  have h2 : ¬ r * k + r + k < r * k + r := by omega
  have h3 : ¬ r * k + r + k < r * k + r + k := by omega
  rw [if_neg h1, if_neg h2, if_neg h3]
/-- all edges of the table's graph, by their kind -/
theorem tg_all {P : Nat → Prop} (h1 : ∀ p, p < r * k → P p) (h2 : ∀ a, a < r → P (r * k + a)) (h3 : ∀ b, b < k → P (r * k + r + b)) (h4 : P (r * k + r + k)) : ∀ e, e < (TG9 r k).m → P e := by
  intro e he
  have he9 : e < r * k + r + k + 1 := he
  by_cases c1 : e < r * k
  · exact h1 e c1
  by_cases c2 : e < r * k + r
  · have := h2 (e - r * k) (by omega)
    rw [show r * k + (e - r * k) = e by omega] at this
    exact this
  by_cases c3 : e < r * k + r + k
  · have := h3 (e - (r * k + r)) (by omega)
    rw [show r * k + r + (e - (r * k + r)) = e by omega] at this
    exact this
  · rw [show e = r * k + r + k by omega]; exact h4
theorem TG9_in : GrIn (TG9 r k) ∧ ∀ e, e < (TG9 r k).m → (TG9 r k).u e ≠ (TG9 r k).v e := by
  have key : ∀ e, e < (TG9 r k).m → (tgU r k e < r + k + 2 ∧ tgV r k e < r + k + 2) ∧ tgU r k e ≠ tgV r k e := by
    refine tg_all (fun p hp => ?_) (fun a ha => ?_) (fun b hb => ?_) ?_
    · obtain ⟨c1, c2, c3⟩ := cell_of hp
      have h := tg_1 c1 c2
      rw [c3] at h
      rw [h.1, h.2]; omega
    · rw [(tg_2 ha).1, (tg_2 ha).2]; omega
    · rw [(tg_3 hb).1, (tg_3 hb).2]; omega
    · rw [tg_4.1, tg_4.2]; omega
  exact ⟨fun e he => (key e he).1, fun e he => (key e he).2⟩
theorem TG9_nout (f : Nat → Int) (x : Nat) : nout (TG9 r k) f x = sumE r (fun a => if a = x then rsT k f a - f (r * k + a) else 0) + sumE k (fun b => if r + b = x then f (r * k + r + b) - csT r k f b else 0) + (if r + k = x then sumE r (fun a => f (r * k + a)) - f (r * k + r + k) else 0) + (if r + k + 1 = x then f (r * k + r + k) - sumE k (fun b => f (r * k + r + b)) else 0) := by
  have A : sumE (r * k) (fun e => (if tgU r k e = x then f e else 0) - (if tgV r k e = x then f e else 0)) = sumE r (fun a => if a = x then rsT k f a else 0) - sumE k (fun b => if r + b = x then csT r k f b else 0) := by
    rw [sumE_grid]
    have e1 : sumE r (rsT k (fun e => (if tgU r k e = x then f e else 0) - (if tgV r k e = x then f e else 0))) = sumE r (fun a => (if a = x then rsT k f a else 0) - sumE k (fun b => if r + b = x then f (a * k + b) else 0)) := by
      refine sumE_cong fun a ha => ?_
      unfold rsT
      rw [← sumE_ite, ← sumE_sub]
      refine sumE_cong fun b hb => ?_
      show (if tgU r k (a * k + b) = x then _ else _) - (if tgV r k (a * k + b) = x then _ else _) = _
      rw [(tg_1 ha hb).1, (tg_1 ha hb).2]
    rw [e1, sumE_sub, sumE_swap r k (fun a b => if r + b = x then f (a * k + b) else 0)]
    congr 1
    exact sumE_cong fun b _ => sumE_ite (r + b = x) r (fun a => f (a * k + b))
  have B : sumE r (fun a => (if tgU r k (r * k + a) = x then f (r * k + a) else 0) - (if tgV r k (r * k + a) = x then f (r * k + a) else 0)) = (if r + k = x then sumE r (fun a => f (r * k + a)) else 0) - sumE r (fun a => if a = x then f (r * k + a) else 0) := by
    rw [← sumE_ite, ← sumE_sub]
    refine sumE_cong fun a ha => ?_
    show (if tgU r k (r * k + a) = x then _ else _) - (if tgV r k (r * k + a) = x then _ else _) = _
    rw [(tg_2 ha).1, (tg_2 ha).2]
  have C : sumE k (fun b => (if tgU r k (r * k + r + b) = x then f (r * k + r + b) else 0) - (if tgV r k (r * k + r + b) = x then f (r * k + r + b) else 0)) = sumE k (fun b => if r + b = x then f (r * k + r + b) else 0) - (if r + k + 1 = x then sumE k (fun b => f (r * k + r + b)) else 0) := by
    rw [← sumE_ite, ← sumE_sub]
    refine sumE_cong fun b hb => ?_
    show (if tgU r k (r * k + r + b) = x then _ else _) - (if tgV r k (r * k + r + b) = x then _ else _) = _
    rw [(tg_3 hb).1, (tg_3 hb).2]
  have D1 : sumE r (fun a => if a = x then rsT k f a - f (r * k + a) else 0) = sumE r (fun a => if a = x then rsT k f a else 0) - sumE r (fun a => if a = x then f (r * k + a) else 0) := by
    rw [← sumE_sub]
    refine sumE_cong fun a _ => ?_
    by_cases h : a = x
    · rw [if_pos h, if_pos h, if_pos h]
    · rw [if_neg h, if_neg h, if_neg h]; rfl
  have D2 : sumE k (fun b => if r + b = x then f (r * k + r + b) - csT r k f b else 0) = sumE k (fun b => if r + b = x then f (r * k + r + b) else 0) - sumE k (fun b => if r + b = x then csT r k f b else 0) := by
    rw [← sumE_sub]
    refine sumE_cong fun b _ => ?_
    by_cases h : r + b = x
    · rw [if_pos h, if_pos h, if_pos h]
    · rw [if_neg h, if_neg h, if_neg h]; rfl
  show sumE (r * k + r + k) (fun e => (if tgU r k e = x then f e else 0) - (if tgV r k e = x then f e else 0)) + ((if tgU r k (r * k + r + k) = x then f (r * k + r + k) else 0) - (if tgV r k (r * k + r + k) = x then f (r * k + r + k) else 0)) = _
  rw [sumE_split, sumE_split, A, B, C, D1, D2, tg_4.1, tg_4.2]
  by_cases h1 : r + k = x
  · have h2 : ¬ r + k + 1 = x := by omega
    rw [if_pos h1, if_pos h1, if_neg h2, if_neg h2, if_neg h2, if_pos h1]; omega
  · by_cases h2 : r + k + 1 = x
    · rw [if_neg h1, if_neg h1, if_pos h2, if_pos h2, if_pos h2, if_neg h1]; omega
    · rw [if_neg h1, if_neg h1, if_neg h2, if_neg h2, if_neg h2, if_neg h1]; omega
theorem rs_cong {w z : Nat → Int} (h : ∀ p, p < r * k → w p = z p) {a : Nat} (ha : a < r) : rsT k w a = rsT k z a := sumE_cong fun b hb => h _ (cell_lt ha hb)
theorem cs_cong {w z : Nat → Int} (h : ∀ p, p < r * k → w p = z p) {b : Nat} (hb : b < k) : csT r k w b = csT r k z b := sumE_cong fun a ha => h _ (cell_lt ha hb)
theorem fil_circ (w : Nat → Int) (x : Nat) : nout (TG9 r k) (filT r k w) x = 0 := by
  have f1 : ∀ p, p < r * k → filT r k w p = w p := fun p hp => fil_1 w hp
  have e1 : sumE r (fun a => if a = x then rsT k (filT r k w) a - filT r k w (r * k + a) else 0) = 0 := sumE_0 fun a ha => by rw [fil_2 w ha, rs_cong f1 ha, Int.sub_self, ite_self]
  have e2 : sumE k (fun b => if r + b = x then filT r k w (r * k + r + b) - csT r k (filT r k w) b else 0) = 0 := sumE_0 fun b hb => by rw [fil_3 w hb, cs_cong f1 hb, Int.sub_self, ite_self]
  have e3 : sumE r (fun a => filT r k w (r * k + a)) = sumE r (rsT k w) := sumE_cong fun a ha => fil_2 w ha
  have e4 : sumE k (fun b => filT r k w (r * k + r + b)) = sumE k (csT r k w) := sumE_cong fun b hb => fil_3 w hb
  rw [TG9_nout, e1, e2, fil_4, e3, e4, ← sumE_grid r k w, ← sumE_grid2 r k w, Int.sub_self, ite_self, ite_self]
  rfl
theorem circ_fil {f : Nat → Int} (h : ∀ x, x < r + k + 2 → nout (TG9 r k) f x = 0) : (∀ a, a < r → f (r * k + a) = rsT k f a) ∧ (∀ b, b < k → f (r * k + r + b) = csT r k f b) ∧ f (r * k + r + k) = sumE (r * k) f := by
  have h1 : ∀ a, a < r → f (r * k + a) = rsT k f a := by
    intro a ha
    have := h a (by omega)
    have c1 : ¬ r + k = a := by omega
    have c2 : ¬ r + k + 1 = a := by omega
    rw [TG9_nout, sumE_hit ha, sumE_0 fun b hb => if_neg (by omega), if_neg c1, if_neg c2] at this
    omega
  have h2 : ∀ b, b < k → f (r * k + r + b) = csT r k f b := by
    intro b hb
    have := h (r + b) (by omega)
    have c1 : ¬ r + k = r + b := by omega
    have c2 : ¬ r + k + 1 = r + b := by omega
    have c3 : sumE k (fun z => if r + z = r + b then f (r * k + r + z) - csT r k f z else 0) = f (r * k + r + b) - csT r k f b := by
      rw [← sumE_hit hb (fun z => f (r * k + r + z) - csT r k f z)]
      refine sumE_cong fun z _ => ?_
      by_cases hz : z = b
      · rw [if_pos hz, if_pos (by omega)]
      · rw [if_neg hz, if_neg (by omega)]
    rw [TG9_nout, sumE_0 fun a ha => if_neg (by omega), c3, if_neg c1, if_neg c2] at this
    omega
  refine ⟨h1, h2, ?_⟩
  have := h (r + k) (by omega)
  have c2 : ¬ r + k + 1 = r + k := by omega
  rw [TG9_nout, sumE_0 fun a ha => if_neg (by omega), sumE_0 fun b hb => if_neg (by omega), if_pos rfl, if_neg c2, sumE_cong h1, ← sumE_grid] at this
  omega
def TGl (r k : Nat) (te : Nat → Int) (e : Nat) : Int := filT r k te e / 10
def TGh (r k : Nat) (te : Nat → Int) (e : Nat) : Int := (filT r k te e + 9) / 10
theorem TG_nocrowd (te : Nat → Int) (S : Nat) : sOut (TG9 r k) (TGl r k te) S ≤ sIn (TG9 r k) (TGh r k te) S := by
  have h := cut_sum (TG9_in (r := r) (k := k)).1 (filT r k te) S
  rw [show sumE (TG9 r k).n (fun x => ind S x * nout (TG9 r k) (filT r k te) x) = 0 from sumE_0 fun x _ => by rw [fil_circ, Int.mul_zero]] at h
  have ha : 10 * sOut (TG9 r k) (TGl r k te) S ≤ sOut (TG9 r k) (filT r k te) S := by
    unfold sOut
    rw [← sumE_mul]
    refine sumE_le fun e _ => ?_
    unfold TGl
    split <;> omega
  have hb : sIn (TG9 r k) (filT r k te) S ≤ 10 * sIn (TG9 r k) (TGh r k te) S := by
    unfold sIn
    rw [← sumE_mul]
    refine sumE_le fun e _ => ?_
    unfold TGh
    split <;> omega
  omega
theorem fil_nn {te : Nat → Int} (ht : ∀ p, p < r * k → 0 ≤ te p ∧ te p ≤ 999) (hr : r ≤ 4) (hk : k ≤ 4) : ∀ e, e < (TG9 r k).m → 0 ≤ filT r k te e ∧ filT r k te e ≤ 16000 := by
  have hrk : r * k ≤ 16 := Nat.mul_le_mul hr hk
  refine tg_all (fun p hp => ?_) (fun a ha => ?_) (fun b hb => ?_) ?_
  · rw [fil_1 te hp]; have := ht p hp; omega
  · rw [fil_2 te ha]
    have := sumE_bd (n := k) (f := fun b => te (a * k + b)) (a := 0) (b := 999) fun b hb => ht _ (cell_lt ha hb)
    unfold rsT
    omega
  · rw [fil_3 te hb]
    have := sumE_bd (n := r) (f := fun a => te (a * k + b)) (a := 0) (b := 999) fun a ha => ht _ (cell_lt ha hb)
    unfold csT
    omega
  · rw [fil_4]
    have := sumE_bd (n := r * k) (f := te) (a := 0) (b := 999) ht
    generalize r * k = z at this hrk
    omega
theorem TG_ex {te : Nat → Int} (ht : ∀ p, p < r * k → 0 ≤ te p ∧ te p ≤ 999) (hr : r ≤ 4) (hk : k ≤ 4) : ∃ f, FS (TG9 r k) (TGl r k te) (TGh r k te) (fun _ => 0) f := by
  have hnn := fil_nn ht hr hk
  obtain ⟨f, f1, f2⟩ := hoff TG9_in.1 (l := TGl r k te) (h := TGh r k te) (fun e he => by have := hnn e he; unfold TGl TGh; omega) (fun S _ => TG_nocrowd te S) (Nat.le_refl _)
  refine ⟨f, fun e he => ?_, f2⟩
  have := f1 e he
  unfold mixk at this
  rw [if_pos he] at this
  exact this
def nearv (s d : Int) : Prop := d / 10 ≤ s ∧ s ≤ (d + 9) / 10
def GoodT (r k : Nat) (te w : Nat → Int) : Prop := (∀ p, p < r * k → nearv (w p) (te p)) ∧ (∀ a, a < r → nearv (rsT k w a) (rsT k te a)) ∧ (∀ b, b < k → nearv (csT r k w b) (csT r k te b)) ∧ nearv (sumE (r * k) w) (sumE (r * k) te)
theorem good_FS {te w : Nat → Int} (h : GoodT r k te w) : FS (TG9 r k) (TGl r k te) (TGh r k te) (fun _ => 0) (filT r k w) := by
  refine ⟨?_, fun x _ => fil_circ w x⟩
  unfold TGl TGh
  obtain ⟨g1, g2, g3, g4⟩ := h
  refine tg_all (fun p hp => ?_) (fun a ha => ?_) (fun b hb => ?_) ?_
  · rw [fil_1 te hp, fil_1 w hp]; exact g1 p hp
  · rw [fil_2 te ha, fil_2 w ha]; exact g2 a ha
  · rw [fil_3 te hb, fil_3 w hb]; exact g3 b hb
  · rw [fil_4, fil_4]; exact g4
theorem FS_good {te f : Nat → Int} (h : FS (TG9 r k) (TGl r k te) (TGh r k te) (fun _ => 0) f) : GoodT r k te f := by
  obtain ⟨h1, h2⟩ := h
  obtain ⟨c1, c2, c3⟩ := circ_fil h2
  unfold TGl TGh at h1
  have hm : (TG9 r k).m = r * k + r + k + 1 := rfl
  refine ⟨fun p hp => ?_, fun a ha => ?_, fun b hb => ?_, ?_⟩
  · have := h1 p (by omega); rw [fil_1 te hp] at this; exact this
  · have := h1 (r * k + a) (by omega); rw [fil_2 te ha, c1 a ha] at this; exact this
  · have := h1 (r * k + r + b) (by omega); rw [fil_3 te hb, c2 b hb] at this; exact this
  · have := h1 (r * k + r + k) (by omega); rw [fil_4, c3] at this; exact this
theorem good_cong {te w z : Nat → Int} (h : ∀ p, p < r * k → w p = z p) (hg : GoodT r k te w) : GoodT r k te z := by
  obtain ⟨g1, g2, g3, g4⟩ := hg
  refine ⟨fun p hp => ?_, fun a ha => ?_, fun b hb => ?_, ?_⟩
  · rw [← h p hp]; exact g1 p hp
  · rw [← rs_cong h ha]; exact g2 a ha
  · rw [← cs_cong h hb]; exact g3 b hb
  · rw [← sumE_cong h]; exact g4
def rndT (r k : Nat) (te : Nat → Int) (e : Nat) : Int := (lxC (TG9 r k) (TGl r k te) (TGh r k te) (fun _ => 0) (r * k)).1 e
theorem rnd_good {te : Nat → Int} (ht : ∀ p, p < r * k → 0 ≤ te p ∧ te p ≤ 999) (hr : r ≤ 4) (hk : k ≤ 4) : GoodT r k te (rndT r k te) := by
  obtain ⟨f, hf⟩ := TG_ex ht hr hk
  have hm : r * k ≤ (TG9 r k).m := by show r * k ≤ r * k + r + k + 1; omega
  obtain ⟨o1, g, g1, g2⟩ := lxC_ok TG9_in.1 hf hm
  refine good_cong (fun p hp => ?_) (FS_good (f := g) ⟨fun e he => ?_, g2⟩)
  · have a := g1 p (by omega)
    rw [← lxC_same hp] at a
    unfold rndT
    omega
  · have a := g1 e he
    have b := o1 e he
    omega
theorem rnd_le {te w : Nat → Int} (hg : GoodT r k te w) {p : Nat} (hp : p < r * k) (he : ∀ q, q < p → w q = rndT r k te q) : rndT r k te p ≤ w p := by
  have hm : p < (TG9 r k).m := by show p < r * k + r + k + 1; omega
  have h := good_FS hg
  have hfs : FS (TG9 r k) (lxC (TG9 r k) (TGl r k te) (TGh r k te) (fun _ => 0) p).1 (lxC (TG9 r k) (TGl r k te) (TGh r k te) (fun _ => 0) p).2 (fun _ => 0) (filT r k w) := by
    refine ⟨fun e hem => ?_, h.2⟩
    by_cases hep : e < p
    · have a := he e hep
      unfold rndT at a
      rw [lxC_row (by omega : e < r * k), ← lxC_row hep] at a
      rw [← lxC_same hep, fil_1 w (by omega), a]
      omega
    · rw [(lxC_after (by omega : p ≤ e)).1, (lxC_after (by omega : p ≤ e)).2]
      exact h.1 e hem
  have := leastC_le TG9_in.1 hfs hm
  rw [fil_1 w hp] at this
  unfold rndT
  rw [lxC_row hp]
  show upL _ p _ p ≤ _
  rw [upL_s]
  exact this
def NearAt (r k : Nat) (te w : Nat → Int) (p : Nat) : Prop := (p % k = k - 1 → nearv (rsT k w (p / k)) (rsT k te (p / k))) ∧ (p / k = r - 1 → nearv (csT r k w (p % k)) (csT r k te (p % k))) ∧ (p = r * k - 1 → nearv (sumE (r * k) w) (sumE (r * k) te))
theorem good_near {te w : Nat → Int} (h : GoodT r k te w) {p : Nat} (hp : p < r * k) : NearAt r k te w p := by
  obtain ⟨c1, c2, c3⟩ := cell_of hp
  exact ⟨fun _ => h.2.1 _ c1, fun _ => h.2.2.1 _ c2, fun _ => h.2.2.2⟩
theorem near_good {te w : Nat → Int} (hr : 1 ≤ r) (hk : 1 ≤ k) (h1 : ∀ p, p < r * k → nearv (w p) (te p)) (h2 : ∀ p, p < r * k → NearAt r k te w p) : GoodT r k te w := by
  refine ⟨h1, fun a ha => ?_, fun b hb => ?_, ?_⟩
  · have hb : k - 1 < k := by omega
    have := (h2 (a * k + (k - 1)) (cell_lt ha hb)).1
    rw [cell_mod hb, cell_div hb] at this
    exact this rfl
  · have ha : r - 1 < r := by omega
    have := (h2 ((r - 1) * k + b) (cell_lt ha hb)).2.1
    rw [cell_mod hb, cell_div hb] at this
    exact this rfl
  · have hp : 0 < r * k := Nat.mul_pos hr hk
    exact (h2 (r * k - 1) (by omega)).2.2 rfl
theorem near_cong {te w z : Nat → Int} {p : Nat} (hp : p < r * k) (h : ∀ q, q ≤ p → w q = z q) (hn : NearAt r k te w p) : NearAt r k te z p := by
  obtain ⟨c1, c2, c3⟩ := cell_of hp
  obtain ⟨n1, n2, n3⟩ := hn
  refine ⟨fun e => ?_, fun e => ?_, fun e => ?_⟩
  · have hs : rsT k w (p / k) = rsT k z (p / k) := sumE_cong fun b hb => h _ (by omega)
    rw [← hs]; exact n1 e
  · have hs : csT r k w (p % k) = csT r k z (p % k) := sumE_cong fun a ha => h _ (by
      have := Nat.mul_le_mul_right k (show a ≤ p / k by omega)
      omega)
    rw [← hs]; exact n2 e
  · have hs : sumE (r * k) w = sumE (r * k) z := sumE_cong fun q hq => h _ (by omega)
    rw [← hs]; exact n3 e
end TBP
