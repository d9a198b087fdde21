/-! the reference: tables -/
def MTB (I : xIn) (B : TB) : Prop := I (1, 0) 13 = (B.r : Int) ∧ I (1, 0) 14 = (B.k : Int) ∧ ∀ p, p < 16 → I (1, 12) p = B.te p
def nearB (s d : Int) : Bool := decide (d / 10 ≤ s ∧ s ≤ (d + 9) / 10)
theorem nearB_i {s d : Int} : nearB s d = true ↔ nearv s d := by unfold nearB nearv; rw [decide_eq_true_iff]
theorem tnC (k a b : Nat) : Int.toNat ((k : Int) * (a : Int) + (b : Int)) = a * k + b := by rw [Int.mul_comm, cast_cell, tnN]
theorem castC (k a b : Nat) : (k : Int) * (a : Int) + (b : Int) = ((a * k + b : Nat) : Int) := by rw [Int.mul_comm, cast_cell]
section BKP
variable {r k : Nat} {te w z : Nat → Int}
def LxP (z w : Nat → Int) (p : Nat) : Prop := ∃ j, j ≤ p ∧ (∀ q, q < j → w q = z q) ∧ w j < z j
def EqP (z w : Nat → Int) (p : Nat) : Prop := ∀ q, q ≤ p → w q = z q
def BkA (r k : Nat) (te w : Nat → Int) (p : Nat) : Prop := (∀ q, q ≤ p → q < r * k → nearv (w q) (te q)) ∧ ∀ q, q < p → NearAt r k te w q
def bkM (r k : Nat) (te w : Nat → Int) (n : Nat) : Int := sumE n (fun q => if w q = te q / 10 then ((8 ^ (r * k - q) : Nat) : Int) else 3 * ((8 ^ (r * k - q) : Nat) : Int))
theorem pw8 {n : Nat} (hn : n ≤ 16) : 1 ≤ ((8 ^ n : Nat) : Int) ∧ ((8 ^ n : Nat) : Int) ≤ 281474976710656 := by
  have h1 : 0 < 8 ^ n := Nat.pow_pos (by decide)
  have h2 : 8 ^ n ≤ 8 ^ 16 := Nat.pow_le_pow_right (by decide) hn
  have h3 : (8 : Nat) ^ 16 = 281474976710656 := by decide
  omega
theorem bkM_bd (hrk : r * k ≤ 16) (n : Nat) (hn : n ≤ 16) : 0 ≤ bkM r k te w n ∧ bkM r k te w n ≤ 13510798882111488 := by
  have := sumE_bd (n := n) (f := fun q => if w q = te q / 10 then ((8 ^ (r * k - q) : Nat) : Int) else 3 * ((8 ^ (r * k - q) : Nat) : Int)) (a := 0) (b := 844424930131968) fun q hq => by
    have := pw8 (n := r * k - q) (by omega)
    show 0 ≤ (if w q = te q / 10 then ((8 ^ (r * k - q) : Nat) : Int) else 3 * ((8 ^ (r * k - q) : Nat) : Int)) ∧ (if w q = te q / 10 then ((8 ^ (r * k - q) : Nat) : Int) else 3 * ((8 ^ (r * k - q) : Nat) : Int)) ≤ 844424930131968
    split <;> omega
  unfold bkM
  omega
theorem bkM_cong {v : Nat → Int} {n : Nat} (h : ∀ q, q < n → w q = v q) : bkM r k te w n = bkM r k te v n := sumE_cong fun q hq => by rw [h q hq]
theorem bkM_s (n : Nat) : bkM r k te w (n + 1) = bkM r k te w n + if w n = te n / 10 then ((8 ^ (r * k - n) : Nat) : Int) else 3 * ((8 ^ (r * k - n) : Nat) : Int) := rfl
theorem pw8_s {p : Nat} (h1 : 1 ≤ p) (hp : p ≤ r * k) : ((8 ^ (r * k - (p - 1)) : Nat) : Int) = 8 * ((8 ^ (r * k - p) : Nat) : Int) := by
  rw [show r * k - (p - 1) = (r * k - p) + 1 by omega, Nat.pow_succ]
  omega
theorem LxP_up {p : Nat} (v : Nat → Int) (h : ∀ q, q ≤ p → v q = w q) (hl : LxP z w p) : LxP z v (p + 1) := by
  obtain ⟨j, j1, j2, j3⟩ := hl
  exact ⟨j, by omega, fun q hq => by rw [h q (by omega)]; exact j2 q hq, by rw [h j j1]; exact j3⟩
end BKP
section TBM
variable {X : xX} {c : xCx} {I : xIn} {B : TB}
theorem ok_isNear (hX : xBase X) (d : Nat) {s e : Int} (hs : -100000 ≤ s ∧ s ≤ 100000) (he : -100000 ≤ e ∧ e ≤ 100000) : xRet rB X m_X10_isNear d [xi s, xi e] c I 0 0 (pv (nearB s e) I) xNo := by
  refine xRet_of hX pl_X10_isNear (LE1 rfl) fun V hV => rg_X10_isNear_0 hV I _ _ ⟨⟨by omega, by omega⟩, ⟨by omega, by omega⟩, fun h => pvI ?_, fun h => ⟨⟨by omega, by omega⟩, fun h2 => pvI ?_, fun h2 => pvI ?_⟩⟩
  · exact (decide_eq_false (fun q => by omega)).symm
  · exact (decide_eq_false (fun q => by omega)).symm
  · exact (decide_eq_true ⟨by omega, by omega⟩).symm
theorem sum_bd9 {n : Nat} {f : Nat → Int} {b : Int} (hn : n ≤ 16) (hb : 0 ≤ b ∧ b ≤ 1000) (h : ∀ x, x < n → -b ≤ f x ∧ f x ≤ b) : -16000 ≤ sumE n f ∧ sumE n f ≤ 16000 := by
  have := sumE_bd (n := n) (f := f) (a := -1000) (b := 1000) fun x hx => by have := h x hx; omega
  omega
variable {r k : Nat} {w te : Nat → Int}
theorem ok_isRowNear (hX : xBase X) (d : Nat) (h14 : I (1, 0) 14 = (k : Int)) (hk : k ≤ 4) (hrk : r * k ≤ 16) {a : Nat} (ha : a < r) (hw : ∀ b, b < k → -1000 ≤ I (1, 13) (a * k + b) ∧ I (1, 13) (a * k + b) ≤ 1000) (ht : ∀ p, p < r * k → I (1, 12) p = te p ∧ 0 ≤ te p ∧ te p ≤ 999) : xRet rB X m_X10_isRowNear (d + 1) [xr (1, 0), xi (a : Int)] c I 0 0 (pv (nearB (rsT k (I (1, 13)) a) (rsT k te a)) I) xNo := by
  have e1 : sumE k (fun b => I (1, 12) (a * k + b)) = rsT k te a := sumE_cong fun b hb => (ht _ (cell_lt ha hb)).1
  have b1 := sum_bd9 (n := k) (f := fun b => I (1, 13) (a * k + b)) (b := 1000) (by omega) (by omega) hw
  have b2 := sum_bd9 (n := k) (f := fun b => te (a * k + b)) (b := 1000) (by omega) (by omega) fun b hb => by have := ht _ (cell_lt ha hb); omega
  refine xRet_of hX pl_X10_isRowNear (LE1 rfl) fun V hV => rg_X10_isRowNear_0 hV I _ ?_
  refine up_to0 (m := k) (W := fun b => V 7 [(0, xr (1, 0)), (1, xi (a : Int)), (2, xi (sumE b (fun b => I (1, 13) (a * k + b)))), (3, xi (sumE b (fun b => I (1, 12) (a * k + b)))), (4, xi (b : Int))] [] (I, xst c) 0 0) ?_ ?_
  · refine rg_X10_isRowNear_7 hV I _ _ _ _ ⟨⟨by omega, by omega⟩, fun _ => ?_, fun h => by rw [h14] at h; omega⟩
    rw [e1]
    refine ⟨_, ok_isNear hX d ⟨by omega, by omega⟩ (e := rsT k te a) ⟨by unfold rsT; omega, by unfold rsT; omega⟩, ?_⟩
    rintro _ _ ⟨rfl, rfl⟩
    exact pvI rfl
  · intro b hb ih
    have hc := cell_lt ha hb
    refine rg_X10_isRowNear_7 hV I _ _ _ _ ⟨⟨by omega, by omega⟩, fun h => by rw [h14] at h; omega, fun _ => ?_⟩
    rw [h14, castC, tnN]
    refine ⟨⟨by omega, by omega⟩, ?_⟩
    rintro _ rfl _ rfl
    exact ih
theorem ok_isColumnNear (hX : xBase X) (d : Nat) (h13 : I (1, 0) 13 = (r : Int)) (h14 : I (1, 0) 14 = (k : Int)) (hr : r ≤ 4) (hrk : r * k ≤ 16) {b : Nat} (hb : b < k) (hw : ∀ a, a < r → -1000 ≤ I (1, 13) (a * k + b) ∧ I (1, 13) (a * k + b) ≤ 1000) (ht : ∀ p, p < r * k → I (1, 12) p = te p ∧ 0 ≤ te p ∧ te p ≤ 999) : xRet rB X m_X10_isColumnNear (d + 1) [xr (1, 0), xi (b : Int)] c I 0 0 (pv (nearB (csT r k (I (1, 13)) b) (csT r k te b)) I) xNo := by
  have e1 : sumE r (fun a => I (1, 12) (a * k + b)) = csT r k te b := sumE_cong fun a ha => (ht _ (cell_lt ha hb)).1
  have b1 := sum_bd9 (n := r) (f := fun a => I (1, 13) (a * k + b)) (b := 1000) (by omega) (by omega) hw
  have b2 := sum_bd9 (n := r) (f := fun a => te (a * k + b)) (b := 1000) (by omega) (by omega) fun a ha => by have := ht _ (cell_lt ha hb); omega
  refine xRet_of hX pl_X10_isColumnNear (LE1 rfl) fun V hV => rg_X10_isColumnNear_0 hV I _ ?_
  refine up_to0 (m := r) (W := fun a => V 7 [(0, xr (1, 0)), (1, xi (b : Int)), (2, xi (sumE a (fun a => I (1, 13) (a * k + b)))), (3, xi (sumE a (fun a => I (1, 12) (a * k + b)))), (4, xi (a : Int))] [] (I, xst c) 0 0) ?_ ?_
  · refine rg_X10_isColumnNear_7 hV I _ _ _ _ ⟨⟨by omega, by omega⟩, fun _ => ?_, fun h => by rw [h13] at h; omega⟩
    rw [e1]
    refine ⟨_, ok_isNear hX d ⟨by omega, by omega⟩ (e := csT r k te b) ⟨by unfold csT; omega, by unfold csT; omega⟩, ?_⟩
    rintro _ _ ⟨rfl, rfl⟩
    exact pvI rfl
  · intro a ha ih
    have hc := cell_lt ha hb
    refine rg_X10_isColumnNear_7 hV I _ _ _ _ ⟨⟨by omega, by omega⟩, fun h => by rw [h13] at h; omega, fun _ => ?_⟩
    rw [h14, castC, tnN]
    refine ⟨⟨by omega, by omega⟩, ?_⟩
    rintro _ rfl _ rfl
    exact ih
theorem ok_areAllNear (hX : xBase X) (d : Nat) (h13 : I (1, 0) 13 = (r : Int)) (h14 : I (1, 0) 14 = (k : Int)) (hrk : r * k ≤ 16) (hw : ∀ p, p < r * k → -1000 ≤ I (1, 13) p ∧ I (1, 13) p ≤ 1000) (ht : ∀ p, p < r * k → I (1, 12) p = te p ∧ 0 ≤ te p ∧ te p ≤ 999) : xRet rB X m_X10_areAllNear (d + 1) [xr (1, 0)] c I 0 0 (pv (nearB (sumE (r * k) (I (1, 13))) (sumE (r * k) te)) I) xNo := by
  have e1 : sumE (r * k) (I (1, 12)) = sumE (r * k) te := sumE_cong fun p hp => (ht p hp).1
  have b1 := sum_bd9 (n := r * k) (f := I (1, 13)) (b := 1000) hrk (by omega) hw
  have b2 := sum_bd9 (n := r * k) (f := te) (b := 1000) hrk (by omega) fun p hp => by have := ht p hp; omega
  have hm : (r : Int) * (k : Int) = ((r * k : Nat) : Int) := (Int.natCast_mul r k).symm
  refine xRet_of hX pl_X10_areAllNear (LE1 rfl) fun V hV => rg_X10_areAllNear_0 hV I ?_
  generalize r * k = N at *
  refine up_to0 (m := N) (W := fun p => V 6 [(0, xr (1, 0)), (1, xi (sumE p (I (1, 13)))), (2, xi (sumE p (I (1, 12)))), (3, xi (p : Int))] [] (I, xst c) 0 0) ?_ ?_
  · refine rg_X10_areAllNear_6 hV I _ _ _ ?_
    rw [h13, h14, hm, e1]
    refine ⟨⟨by omega, by omega⟩, ⟨by omega, by omega⟩, fun _ => ⟨_, ok_isNear hX d ⟨by omega, by omega⟩ ⟨by omega, by omega⟩, ?_⟩, fun h => by omega⟩
    rintro _ _ ⟨rfl, rfl⟩
    exact pvI rfl
  · intro p hp ih
    refine rg_X10_areAllNear_6 hV I _ _ _ ?_
    rw [h13, h14, hm, tnN]
    refine ⟨⟨by omega, by omega⟩, ⟨by omega, by omega⟩, fun h => by omega, fun _ => ⟨⟨by omega, by omega⟩, ?_⟩⟩
    rintro _ rfl _ rfl
    exact ih
theorem ok_areNear (hX : xBase X) (d : Nat) (h13 : I (1, 0) 13 = (r : Int)) (h14 : I (1, 0) 14 = (k : Int)) (hr : 1 ≤ r ∧ r ≤ 4) (hk : 1 ≤ k ∧ k ≤ 4) {p : Nat} (hp : p < r * k) (hw : ∀ q, q ≤ p → -1000 ≤ I (1, 13) q ∧ I (1, 13) q ≤ 1000) (ht : ∀ p, p < r * k → I (1, 12) p = te p ∧ 0 ≤ te p ∧ te p ≤ 999) : xRet rB X m_X10_areNear (d + 2) [xr (1, 0), xi (p : Int)] c I 0 0 (fun v I9 => I9 = I ∧ (v = true ↔ NearAt r k te (I (1, 13)) p)) xNo := by
  obtain ⟨c1, c2, c3⟩ := cell_of hp
  have hrk := rk16 hr.2 hk.2
  have hmod : (p : Int) % (k : Int) = ((p % k : Nat) : Int) := (Int.natCast_emod p k).symm
  have hdiv : (p : Int) / (k : Int) = ((p / k : Nat) : Int) := (Int.natCast_ediv p k).symm
  have hm : (r : Int) * (k : Int) = ((r * k : Nat) : Int) := (Int.natCast_mul r k).symm
  have hP0 : (0 : Int) ≤ ((p / k : Nat) : Int) := Int.natCast_nonneg _
  have hQ0 : (0 : Int) ≤ ((p % k : Nat) : Int) := Int.natCast_nonneg _
  refine xRet_of hX pl_X10_areNear (LE1 rfl) fun V hV => ?_
  -- the last test
  have t93 : ∀ s0 : Int, (s0 = 0 ∨ s0 = 1) → (s0 = 1 ↔ (p % k = k - 1 → nearv (rsT k (I (1, 13)) (p / k)) (rsT k te (p / k))) ∧ (p / k = r - 1 → nearv (csT r k (I (1, 13)) (p % k)) (csT r k te (p % k)))) → V 93 [(0, xr (1, 0)), (1, xi (p : Int))] [xi s0] (I, xst c) 0 0 := by
    intro s0 h01 hs0
    refine rg_X10_areNear_93 hV I _ _ ⟨⟨by omega, by omega⟩, fun h => ⟨rfl, ?_⟩, fun h => ?_⟩
    · constructor
      · intro h; cases h
      · intro h
        have := hs0.2 ⟨h.1, h.2.1⟩
        omega
    · have h12 := hs0.1 (by omega)
      rw [h13, h14, hm]
      refine ⟨⟨by omega, by omega⟩, ⟨by omega, by omega⟩, fun h2 => ⟨rfl, ?_⟩, fun h2 => ?_⟩
      · exact ⟨fun _ => ⟨h12.1, h12.2, fun e => by omega⟩, fun _ => rfl⟩
      · have hpe : p = r * k - 1 := by omega
        refine ⟨_, ok_areAllNear hX d h13 h14 hrk (fun q hq => hw q (by omega)) ht, ?_⟩
        rintro _ J ⟨rfl, rfl⟩
        refine ⟨fun h => ⟨rfl, ?_⟩, fun h => ⟨rfl, ?_⟩⟩
        · constructor
          · intro h; cases h
          · intro h9
            have := nearB_i.2 (h9.2.2 hpe)
            rw [h] at this
            exact this
        · exact ⟨fun _ => ⟨h12.1, h12.2, fun _ => nearB_i.1 h⟩, fun _ => rfl⟩
  -- the column
  have t64 : ∀ s0 l3 : Int, (s0 = 0 ∨ s0 = 1) → (l3 = 0 ∨ l3 = 1) → (l3 = 1 ↔ p / k = r - 1) → (s0 = 1 ↔ (p % k = k - 1 → nearv (rsT k (I (1, 13)) (p / k)) (rsT k te (p / k)))) → V 64 [(0, xr (1, 0)), (1, xi (p : Int)), (3, xi l3)] [xi s0] (I, xst c) 0 0 := by
    intro s0 l3 h01 l01 hl hs0
    refine rg_X10_areNear_64 hV I _ _ _ ⟨⟨by omega, by omega⟩, fun h => rg_X10_areNear_92 hV I _ (t93 0 (Or.inl rfl) ⟨fun h => absurd h (by decide), fun h9 => by have := hs0.2 h9.1; omega⟩), fun h => ⟨⟨by omega, by omega⟩, fun h2 => rg_X10_areNear_88 hV I _ (t93 1 (Or.inr rfl) ⟨fun _ => ⟨hs0.1 (by omega), fun e => by have := hl.2 e; omega⟩, fun _ => rfl⟩), fun h2 => ?_⟩⟩
    rw [h14, hmod]
    refine ⟨⟨by omega, by omega⟩, ⟨by omega, by omega⟩, ?_⟩
    have hrow := hl.1 (by omega)
    refine ⟨_, ok_isColumnNear hX d h13 h14 hr.2 hrk c2 (fun a ha => hw _ ?_) ht, ?_⟩
    · have := Nat.mul_le_mul_right k (show a ≤ p / k by omega)
      omega
    rintro _ J ⟨rfl, rfl⟩
    refine ⟨fun z => rg_X10_areNear_92 hV J _ (t93 0 (Or.inl rfl) ⟨fun h => absurd h (by decide), fun h9 => ?_⟩), fun z => rg_X10_areNear_88 hV J _ (t93 1 (Or.inr rfl) ⟨fun _ => ⟨hs0.1 (by omega), fun _ => nearB_i.1 z⟩, fun _ => rfl⟩)⟩
    have := nearB_i.2 (h9.2 hrow)
    rw [z] at this
    cases this
  -- the row
  have t41 : ∀ s0 l2 : Int, (s0 = 0 ∨ s0 = 1) → (l2 = 0 ∨ l2 = 1) → (s0 = 1 ↔ p / k = r - 1) → (l2 = 1 ↔ p % k = k - 1) → V 41 [(0, xr (1, 0)), (1, xi (p : Int)), (2, xi l2)] [xi s0] (I, xst c) 0 0 := by
    intro s0 l2 h01 l01 hs hl
    refine rg_X10_areNear_41 hV I _ _ _ ⟨⟨by omega, by omega⟩, fun h => rg_X10_areNear_59 hV I _ _ (t64 1 s0 (Or.inr rfl) h01 hs ⟨fun _ e => by have := hl.2 e; omega, fun _ => rfl⟩), fun h => ?_⟩
    rw [h14, hdiv]
    refine ⟨⟨by omega, by omega⟩, ⟨by omega, by omega⟩, ?_⟩
    have hcol := hl.1 (by omega)
    refine ⟨_, ok_isRowNear hX d h14 hk.2 hrk c1 (fun b hb => hw _ (by omega)) ht, ?_⟩
    rintro _ J ⟨rfl, rfl⟩
    refine ⟨fun z => t64 0 s0 (Or.inl rfl) h01 hs ⟨fun h => absurd h (by decide), fun h9 => ?_⟩, fun z => rg_X10_areNear_59 hV J _ _ (t64 1 s0 (Or.inr rfl) h01 hs ⟨fun _ _ => nearB_i.1 z, fun _ => rfl⟩)⟩
    have := nearB_i.2 (h9 hcol)
    rw [z] at this
    cases this
  have t20 : ∀ s0 : Int, (s0 = 0 ∨ s0 = 1) → (s0 = 1 ↔ p % k = k - 1) → V 20 [(0, xr (1, 0)), (1, xi (p : Int))] [xi s0] (I, xst c) 0 0 := by
    intro s0 h01 hs
    refine rg_X10_areNear_20 hV I _ _ ?_
    rw [h13, h14, hdiv]
    refine ⟨⟨by omega, by omega⟩, ⟨by omega, by omega⟩, ⟨by omega, by omega⟩, ⟨by omega, by omega⟩, fun h => t41 0 s0 (Or.inl rfl) h01 ⟨fun h => absurd h (by decide), fun h9 => by omega⟩ hs, fun h => t41 1 s0 (Or.inr rfl) h01 ⟨fun _ => by omega, fun _ => rfl⟩ hs⟩
  refine rg_X10_areNear_0 hV I _ ?_
  rw [h14, hmod]
  exact ⟨⟨by omega, by omega⟩, ⟨by omega, by omega⟩, ⟨by omega, by omega⟩, ⟨by omega, by omega⟩, fun h => t20 0 (Or.inl rfl) ⟨fun h => absurd h (by decide), fun h9 => by omega⟩, fun h => t20 1 (Or.inr rfl) ⟨fun _ => by omega, fun _ => rfl⟩⟩
end TBM
