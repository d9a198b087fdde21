/-! flows and cuts: what goes from a node, pairing with numbers on nodes -/
def nout (G : Gr) (f : Nat → Int) (x : Nat) : Int := sumE G.m (fun e => (if G.u e = x then f e else 0) - (if G.v e = x then f e else 0))
def GrIn (G : Gr) : Prop := ∀ e, e < G.m → G.u e < G.n ∧ G.v e < G.n
theorem GrOK.in {G : Gr} (h : GrOK G) : GrIn G := fun e he => ⟨(h.2.2.2 e he).1, (h.2.2.2 e he).2.1⟩
theorem sumE_pick {n k : Nat} (hk : k < n) (p : Nat → Int) (a : Int) : sumE n (fun x => p x * (if k = x then a else 0)) = p k * a := by
  have h := sumE_one hk (p k * a)
  rw [← h]
  apply sumE_cong
  intro x hx
  by_cases h : x = k
  · subst h; simp
  · rw [if_neg (fun z => h z.symm), if_neg h, Int.mul_zero]
theorem pairing {G : Gr} (hG : GrIn G) (f p : Nat → Int) : sumE G.n (fun x => p x * nout G f x) = sumE G.m (fun e => f e * (p (G.u e) - p (G.v e))) := by
  have h1 : sumE G.n (fun x => p x * nout G f x) = sumE G.n (fun x => sumE G.m (fun e => p x * (if G.u e = x then f e else 0) - p x * (if G.v e = x then f e else 0))) := by
    apply sumE_cong
    intro x hx
    unfold nout
    rw [← sumE_mul]
    apply sumE_cong
    intro e he
    rw [Int.mul_sub]
  rw [h1, sumE_swap]
  apply sumE_cong
  intro e he
  rw [sumE_sub, sumE_pick (hG e he).1, sumE_pick (hG e he).2, Int.mul_sub, Int.mul_comm (p (G.u e)), Int.mul_comm (p (G.v e))]
/-- a set as numbers on nodes -/
def ind (S x : Nat) : Int := if S.testBit x then 1 else 0
theorem cut_pair (G : Gr) (f : Nat → Int) (S : Nat) : sumE G.m (fun e => f e * (ind S (G.u e) - ind S (G.v e))) = sOut G f S - sIn G f S := by
  unfold sOut sIn
  rw [← sumE_sub]
  apply sumE_cong
  intro e he
  unfold ind lvs ens
  cases S.testBit (G.u e) <;> cases S.testBit (G.v e) <;> simp
theorem cut_sum {G : Gr} (hG : GrIn G) (f : Nat → Int) (S : Nat) : sOut G f S - sIn G f S = sumE G.n (fun x => ind S x * nout G f x) := by rw [pairing hG, cut_pair]
/-- a flow of the amount a from s to t within bounds -/
def isB (s t : Nat) (a : Int) (x : Nat) : Int := if x = s then a else if x = t then -a else 0
def FS (G : Gr) (lo hi b f : Nat → Int) : Prop := (∀ e, e < G.m → lo e ≤ f e ∧ f e ≤ hi e) ∧ ∀ x, x < G.n → nout G f x = b x
def bS (n : Nat) (b : Nat → Int) (S : Nat) : Int := sumE n (fun x => ind S x * b x)
theorem FS.cut {G : Gr} {lo hi b f : Nat → Int} (hG : GrIn G) (h : FS G lo hi b f) (S : Nat) : sOut G f S - sIn G f S = bS G.n b S := by
  rw [cut_sum hG]
  exact sumE_cong fun x hx => by rw [h.2 x hx]
theorem sOut_le {G : Gr} {f g : Nat → Int} (S : Nat) (h : ∀ e, e < G.m → f e ≤ g e) : sOut G f S ≤ sOut G g S := sumE_le fun e he => by
  by_cases hl : lvs G S e = true
  · rw [if_pos hl, if_pos hl]; exact h e he
  · rw [if_neg hl, if_neg hl]; exact Int.le_refl _
theorem sIn_le {G : Gr} {f g : Nat → Int} (S : Nat) (h : ∀ e, e < G.m → f e ≤ g e) : sIn G f S ≤ sIn G g S := sumE_le fun e he => by
  by_cases hl : ens G S e = true
  · rw [if_pos hl, if_pos hl]; exact h e he
  · rw [if_neg hl, if_neg hl]; exact Int.le_refl _
/-- an edge that enters a set, given apart -/
theorem sIn_at {G : Gr} {S e : Nat} (g : Nat → Int) (he : e < G.m) (hl : ens G S e = true) : sIn G g S = sumE G.m (fun k => if k = e then 0 else if ens G S k then g k else 0) + g e := by
  unfold sIn
  rw [sumE_at he (fun k => if ens G S k then g k else 0)]
  simp only [hl, if_true]
/-- what a cut says of an edge that enters it, for every flow -/
theorem FS.bound {G : Gr} {lo hi b f : Nat → Int} (hG : GrIn G) (h : FS G lo hi b f) {S e : Nat} (he : e < G.m) (hl : ens G S e = true) : sOut G lo S - bS G.n b S - (sIn G hi S - hi e) ≤ f e := by
  have h1 := h.cut hG S
  have h2 := sOut_le (G := G) (f := lo) (g := f) S (fun e he => (h.1 e he).1)
  have h3 : sumE G.m (fun k => if k = e then 0 else if ens G S k then f k else 0) ≤ sumE G.m (fun k => if k = e then 0 else if ens G S k then hi k else 0) := sumE_le fun k hk => by
    by_cases hke : k = e
    · simp [hke]
    · by_cases hlk : ens G S k = true
      · simp only [hke, hlk, if_true, if_false]; exact (h.1 k hk).2
      · simp [hke, hlk]
  have h4 := sIn_at f he hl
  have h5 := sIn_at hi he hl
  omega
/-- .. and where it is tight -/
theorem FS.tight {G : Gr} {lo hi b f : Nat → Int} (hG : GrIn G) (h : FS G lo hi b f) {S e : Nat} (he : e < G.m) (hl : ens G S e = true) (h1 : ∀ k, k < G.m → lvs G S k = true → f k = lo k) (h2 : ∀ k, k < G.m → k ≠ e → ens G S k = true → f k = hi k) : f e = sOut G lo S - bS G.n b S - (sIn G hi S - hi e) := by
  have h3 := h.cut hG S
  have h4 : sOut G f S = sOut G lo S := sumE_cong fun k hk => by
    by_cases hlk : lvs G S k = true
    · simp only [hlk, if_true]; exact h1 k hk hlk
    · simp [hlk]
  have h5 : sumE G.m (fun k => if k = e then 0 else if ens G S k then f k else 0) = sumE G.m (fun k => if k = e then 0 else if ens G S k then hi k else 0) := sumE_cong fun k hk => by
    by_cases hke : k = e
    · simp [hke]
    · by_cases hlk : ens G S k = true
      · simp only [hke, hlk, if_true, if_false]; exact h2 k hk hke hlk
      · simp [hke, hlk]
  have h6 := sIn_at f he hl
  have h7 := sIn_at hi he hl
  omega
theorem bS_flow {n s t : Nat} (hs : s < n) (ht : t < n) (hst : s ≠ t) (a : Int) (S : Nat) : bS n (isB s t a) S = -beyondF s t a S := by
  unfold bS
  have h1 : sumE n (fun x => ind S x * isB s t a x) = sumE n (fun x => ind S x * (if s = x then a else 0)) + sumE n (fun x => ind S x * (if t = x then -a else 0)) := by
    rw [← sumE_add]
    apply sumE_cong
    intro x hx
    rw [← Int.mul_add]
    congr 1
    unfold isB
    by_cases h1 : s = x
    · subst h1
      rw [if_pos rfl, if_pos rfl, if_neg (fun z => hst z.symm)]; omega
    · rw [if_neg h1, if_neg (show ¬ x = s from fun z => h1 z.symm)]
      by_cases h2 : t = x
      · rw [if_pos h2, if_pos h2.symm]; omega
      · rw [if_neg h2, if_neg (show ¬ x = t from fun z => h2 z.symm)]; rfl
  rw [h1, sumE_pick hs, sumE_pick ht]
  unfold ind beyondF btw
  cases S.testBit s <;> cases S.testBit t <;> simp <;> omega
/-! sets as numbers: any set of nodes has one -/
def mask (p : Nat → Bool) : Nat → Nat
  | 0 => 0
  | k + 1 => mask p k + (if p k then 2 ^ k else 0)
theorem mask_lt (p : Nat → Bool) (n : Nat) : mask p n < 2 ^ n := by
  induction n with
  | zero => exact Nat.one_pos
  | succ n ih => rw [mask, Nat.pow_succ]; split <;> omega
theorem mask_bit (p : Nat → Bool) : ∀ (n i : Nat), i < n → (mask p n).testBit i = p i := by
  intro n
  induction n with
  | zero => intro i hi; omega
  | succ n ih =>
    intro i hi
    rw [mask]
    have hlt := mask_lt p n
    by_cases hin : i = n
    · subst hin
      by_cases hp : p i = true
      · rw [if_pos hp, Nat.add_comm, Nat.testBit_two_pow_add_eq, Nat.testBit_lt_two_pow hlt, hp]; rfl
      · rw [if_neg hp, Nat.add_zero, Nat.testBit_lt_two_pow hlt]; simpa using hp
    · by_cases hp : p n = true
      · rw [if_pos hp, Nat.add_comm, Nat.testBit_two_pow_add_gt (by omega)]; exact ih i (by omega)
      · rw [if_neg hp, Nat.add_zero]; exact ih i (by omega)
