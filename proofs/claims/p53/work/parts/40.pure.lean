/-! plain facts: bits of sets, sums, loops -/
theorem n_I (n : Nat) : Int32.ofInt (n : Int) = nI n := Int32.ofInt_eq_ofNat (n := n)
theorem nI_tb (n : Nat) : (nI n).toBitVec = BitVec.ofNat 32 n := rfl
theorem i_bv {x y : Int32} (h : x.toBitVec = y.toBitVec) : x = y := Int32.toBitVec_inj.mp h
theorem nI_and (a b : Nat) : nI a &&& nI b = nI (a &&& b) := by
  apply i_bv
  apply BitVec.eq_of_toNat_eq
  simp [nI_tb, Nat.and_mod_two_pow]
theorem nI_or (a b : Nat) : nI a ||| nI b = nI (a ||| b) := by
  apply i_bv
  apply BitVec.eq_of_toNat_eq
  simp [nI_tb, Nat.or_mod_two_pow]
theorem n_toI {n : Nat} (h : n ≤ 2147483647) : (nI n).toInt = (n : Int) := nI_toInt (by omega)
theorem v_and_nat {a b : Nat} (ha : a ≤ 2147483647) : v_iand (a : Int) (b : Int) = ((a &&& b : Nat) : Int) := by
  unfold v_iand
  rw [n_I, n_I, nI_and, n_toI]
  exact Nat.le_trans Nat.and_le_left ha
theorem v_or_nat {a b : Nat} (ha : a < 2 ^ 31) (hb : b < 2 ^ 31) : v_ior (a : Int) (b : Int) = ((a ||| b : Nat) : Int) := by
  unfold v_ior
  rw [n_I, n_I, nI_or, n_toI]
  have := Nat.or_lt_two_pow ha hb
  omega
theorem sh_ct : ∀ k : Fin 32, ((nI k.val &&& 31).toBitVec.smod 32).toNat = k.val := by decide +kernel
theorem v_shr_nat {a k : Nat} (ha : a ≤ 2147483647) (hk : k < 32) : v_ishr (a : Int) (k : Int) = ((a / 2 ^ k : Nat) : Int) := by
  unfold v_ishr
  rw [n_I, n_I, pk_shrN (by omega) (nI k &&& 31) k (sh_ct ⟨k, hk⟩), n_toI]
  exact Nat.le_trans (Nat.div_le_self _ _) ha
theorem v_shl_nat {a k : Nat} (hk : k < 32) (ha : a * 2 ^ k ≤ 2147483647) : v_ishl (a : Int) (k : Int) = ((a * 2 ^ k : Nat) : Int) := by
  unfold v_ishl
  rw [n_I, n_I, pk_shlN (nI k &&& 31) k (sh_ct ⟨k, hk⟩) (by omega), n_toI ha]
theorem v_bit {S k : Nat} (hS : S ≤ 2147483647) (hk : k < 32) : v_iand (v_ishr (S : Int) (k : Int)) 1 = xbi (S.testBit k) := by
  rw [v_shr_nat hS hk, show (1 : Int) = ((1 : Nat) : Int) from rfl, v_and_nat (Nat.le_trans (Nat.div_le_self _ _) hS), Nat.and_one_is_mod]
  have h : S.testBit k = decide (S / 2 ^ k % 2 = 1) := Nat.testBit_eq_decide_div_mod_eq
  rw [h]
  rcases Nat.mod_two_eq_zero_or_one (S / 2 ^ k) with h2 | h2 <;> rw [h2] <;> rfl
/-- what is in b and not in a -/
def nd (b a : Nat) : Nat := b ^^^ (b &&& a)
theorem nd_bit (b a i : Nat) : (nd b a).testBit i = (b.testBit i && !a.testBit i) := by
  unfold nd
  rw [Nat.testBit_xor, Nat.testBit_and]
  cases b.testBit i <;> cases a.testBit i <;> rfl
theorem nd_le (b a : Nat) : nd b a ≤ b := by
  have h : nd b a = b &&& nd b a := by
    apply Nat.eq_of_testBit_eq
    intro i
    rw [Nat.testBit_and, nd_bit]
    cases b.testBit i <;> rfl
  rw [h]
  exact Nat.and_le_left
theorem v_not (a : Int) : v_ixor a (-1) = (~~~(Int32.ofInt a)).toInt := by
  unfold v_ixor
  congr 1
  apply i_bv
  show (Int32.ofInt a).toBitVec ^^^ BitVec.allOnes 32 = ~~~(Int32.ofInt a).toBitVec
  exact BitVec.xor_allOnes
theorem v_andnot {b a : Nat} (hb : b ≤ 2147483647) : v_iand (b : Int) (v_ixor (a : Int) (-1)) = ((nd b a : Nat) : Int) := by
  rw [v_not]
  unfold v_iand
  rw [Int32.ofInt_toInt, n_I, n_I]
  have : nI b &&& ~~~(nI a) = nI (nd b a) := by
    apply i_bv
    show BitVec.ofNat 32 b &&& ~~~(BitVec.ofNat 32 a) = BitVec.ofNat 32 (nd b a)
    apply BitVec.eq_of_getLsbD_eq
    intro i hi
    rw [BitVec.getLsbD_and, BitVec.getLsbD_not, BitVec.getLsbD_ofNat, BitVec.getLsbD_ofNat, BitVec.getLsbD_ofNat, nd_bit]
    simp only [hi, decide_true, Bool.true_and]
  rw [this, n_toI (Nat.le_trans (nd_le b a) hb)]
theorem v_and_m1 {a : Nat} (ha : a ≤ 2147483647) : v_iand (-1) (a : Int) = (a : Int) := by
  unfold v_iand
  rw [n_I]
  have : Int32.ofInt (-1) &&& nI a = nI a := by
    apply i_bv
    show BitVec.allOnes 32 &&& (nI a).toBitVec = _
    exact BitVec.allOnes_and
  rw [this, n_toI ha]
/-! sums over edges -/
def sumE : Nat → (Nat → Int) → Int
  | 0, _ => 0
  | n + 1, f => sumE n f + f n
theorem sumE_cong {n : Nat} {f g : Nat → Int} (h : ∀ e, e < n → f e = g e) : sumE n f = sumE n g := by
  induction n with
  | zero => rfl
  | succ n ih => rw [sumE, sumE, ih (fun e he => h e (by omega)), h n (by omega)]
theorem sumE_add (n : Nat) (f g : Nat → Int) : sumE n (fun e => f e + g e) = sumE n f + sumE n g := by
  induction n with
  | zero => rfl
  | succ n ih => rw [sumE, sumE, sumE, ih]; omega
theorem sumE_sub (n : Nat) (f g : Nat → Int) : sumE n (fun e => f e - g e) = sumE n f - sumE n g := by
  induction n with
  | zero => rfl
  | succ n ih => rw [sumE, sumE, sumE, ih]; omega
theorem sumE_mul (n : Nat) (a : Int) (f : Nat → Int) : sumE n (fun e => a * f e) = a * sumE n f := by
  induction n with
  | zero => simp [sumE]
  | succ n ih => rw [sumE, sumE, ih, Int.mul_add]
theorem sumE_0 {n : Nat} {f : Nat → Int} (h : ∀ e, e < n → f e = 0) : sumE n f = 0 := by
  induction n with
  | zero => rfl
  | succ n ih => rw [sumE, ih (fun e he => h e (by omega)), h n (by omega)]; rfl
theorem sumE_le {n : Nat} {f g : Nat → Int} (h : ∀ e, e < n → f e ≤ g e) : sumE n f ≤ sumE n g := by
  induction n with
  | zero => exact Int.le_refl _
  | succ n ih => rw [sumE, sumE]; have := ih (fun e he => h e (by omega)); have := h n (by omega); omega
theorem sumE_bd {n : Nat} {f : Nat → Int} {a b : Int} (h : ∀ e, e < n → a ≤ f e ∧ f e ≤ b) : n * a ≤ sumE n f ∧ sumE n f ≤ n * b := by
  induction n with
  | zero => simp [sumE]
  | succ n ih =>
    have h1 := ih (fun e he => h e (by omega))
    have h2 := h n (by omega)
    rw [sumE]
    have e1 : ((n + 1 : Nat) : Int) * a = n * a + a := by rw [Int.natCast_add]; simp [Int.add_mul]
    have e2 : ((n + 1 : Nat) : Int) * b = n * b + b := by rw [Int.natCast_add]; simp [Int.add_mul]
    omega
theorem sumE_swap (n m : Nat) (f : Nat → Nat → Int) : sumE n (fun i => sumE m (fun j => f i j)) = sumE m (fun j => sumE n (fun i => f i j)) := by
  induction n with
  | zero => simp [sumE]; exact (sumE_0 (fun _ _ => rfl)).symm
  | succ n ih => rw [sumE, ih, ← sumE_add]; rfl
theorem sumE_one {n k : Nat} (hk : k < n) (a : Int) : sumE n (fun e => if e = k then a else 0) = a := by
  induction n with
  | zero => omega
  | succ n ih =>
    rw [sumE]
    by_cases h : n = k
    · subst h
      rw [sumE_0 (fun e he => if_neg (by omega)), if_pos rfl]; omega
    · rw [ih (by omega), if_neg h]; omega
/-- a sum in which one place is given apart -/
theorem sumE_at {n k : Nat} (hk : k < n) (f : Nat → Int) : sumE n f = sumE n (fun e => if e = k then 0 else f e) + f k := by
  have := sumE_add n (fun e => if e = k then 0 else f e) (fun e => if e = k then f k else 0)
  rw [sumE_one hk] at this
  rw [← this]
  apply sumE_cong
  intro e he
  by_cases h : e = k
  · subst h; simp
  · simp [h]
theorem sumE_nonneg {n : Nat} {f : Nat → Int} (h : ∀ e, e < n → 0 ≤ f e) : 0 ≤ sumE n f := by
  have := sumE_le (n := n) (f := fun _ => 0) (g := f) h
  rw [sumE_0 (fun _ _ => rfl)] at this
  exact this
/-! loops -/
theorem up_to {m : Nat} {W : Nat → Prop} (hend : W m) (hstep : ∀ e, e < m → W (e + 1) → W e) : ∀ e, e ≤ m → W e := by
  have h : ∀ j, j ≤ m → W (m - j) := by
    intro j
    induction j with
    | zero => intro _; exact hend
    | succ j ih =>
      intro hj
      have := ih (by omega)
      exact hstep (m - (j + 1)) (by omega) (by rw [show m - (j + 1) + 1 = m - j by omega]; exact this)
  intro e he
  have := h (m - e) (by omega)
  rwa [show m - (m - e) = e by omega] at this
theorem up_to0 {m : Nat} {W : Nat → Prop} (hend : W m) (hstep : ∀ e, e < m → W (e + 1) → W e) : W 0 := up_to hend hstep 0 (Nat.zero_le _)
/-- nothing but v is handed back, and nothing is changed -/
def pv {α : Type} (x : α) (I : xIn) : α → xIn → Prop := fun v I9 => v = x ∧ I9 = I
theorem pvI {α : Type} {x y : α} {I : xIn} (h : y = x) : pv x I y I := ⟨h, rfl⟩
theorem tnN (n : Nat) : Int.toNat (n : Int) = n := rfl
theorem pow2_le8 {n : Nat} (h : n ≤ 8) : 2 ^ n ≤ 256 := Nat.pow_le_pow_right (by omega) h
