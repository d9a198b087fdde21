/-! least costs by passes over all arcs: what holds while they go on -/
abbrev BA : Type := (Nat → Nat) × (Nat → Nat) × (Nat → Int) × (Nat → Bool)
abbrev BA.b (A : BA) : Nat → Nat := A.1
abbrev BA.e (A : BA) : Nat → Nat := A.2.1
abbrev BA.c (A : BA) : Nat → Int := A.2.2.1
abbrev BA.o (A : BA) : Nat → Bool := A.2.2.2
def ArcOK (n M : Nat) (A : BA) (R : Nat → Nat → Int → Prop) : Prop := ∀ j, j < M → A.o j = true → A.b j < n ∧ A.e j < n ∧ A.b j ≠ A.e j ∧ (-20 ≤ A.c j ∧ A.c j ≤ 20) ∧ R (A.b j) (A.e j) (A.c j)
def cntZ (n : Nat) (Z : Int) (L : Nat → Int) : Int := sumE n (fun x => if L x = Z then 0 else 1)
def wk (n : Nat) (R : Nat → Nat → Int → Prop) (S0 : Nat → Bool) : Nat → Nat → Int → Prop
  | 0 => fun x a => x < n ∧ S0 x = true ∧ a = 0
  | k + 1 => fun x a => ∃ u q, R u x q ∧ wk n R S0 k u (a - q)
def iniL (Z : Int) (S0 : Nat → Bool) (x : Nat) : Int := if S0 x then 0 else Z
def BFa (M : Nat) (A : BA) (Z : Int) (S0 : Nat → Bool) (T : Nat) (L : Nat → Int) (via τ : Nat → Nat) (x : Nat) : Prop := τ x ≤ T ∧ (τ x = 0 → L x = iniL Z S0 x) ∧ (0 < τ x → via x < M ∧ A.o (via x) = true ∧ A.e (via x) = x ∧ L x ≠ Z ∧ L (A.b (via x)) ≠ Z ∧ L (A.b (via x)) + A.c (via x) ≤ L x ∧ (τ x ≤ τ (A.b (via x)) → L (A.b (via x)) + A.c (via x) < L x) ∧ (M < τ x → τ x < τ (A.b (via x)) + M))
def BFI (n M : Nat) (A : BA) (R : Nat → Nat → Int → Prop) (Z : Int) (S0 : Nat → Bool) (Q j : Nat) (L : Nat → Int) (via τ : Nat → Nat) : Prop := (∀ x, x < n → BFa M A Z S0 (Q + j) L via τ x) ∧ (∀ x, x < n → L x = Z ∨ (-(20 * ((Q + j : Nat) : Int)) ≤ L x ∧ L x ≤ 20 * cntZ n Z L)) ∧ (∀ i t, i < M → A.o i = true → ((t = Q + i + 1 ∧ i < j) ∨ (t + M = Q + i + 1 ∧ j ≤ i ∧ M ≤ Q)) → τ (A.b i) ≤ t → L (A.b i) ≠ Z → L (A.e i) ≤ L (A.b i) + A.c i) ∧ (∀ x, x < n → L x ≠ Z → ∃ k, wk n R S0 k x (L x)) ∧ ∀ x, x < n → S0 x = true → L x ≠ Z ∧ L x ≤ 0
theorem cntZ_le (n : Nat) (Z : Int) (L : Nat → Int) : 0 ≤ cntZ n Z L ∧ cntZ n Z L ≤ n := by
  have := sumE_bd (n := n) (f := fun x => if L x = Z then 0 else 1) (a := 0) (b := 1) fun e _ => by
    show 0 ≤ (if L e = Z then (0 : Int) else 1) ∧ (if L e = Z then (0 : Int) else 1) ≤ 1
    split <;> omega
  unfold cntZ
  omega
theorem cntZ_up {n : Nat} {Z : Int} {L : Nat → Int} {x : Nat} {a : Int} (hx : x < n) (ha : a ≠ Z) : cntZ n Z (upL L x a) = cntZ n Z L + if L x = Z then 1 else 0 := by
  unfold cntZ
  rw [sumE_at hx (fun y => if upL L x a y = Z then 0 else 1), sumE_at hx (fun y => if L y = Z then 0 else 1)]
  have e1 : sumE n (fun y => if y = x then 0 else if upL L x a y = Z then (0 : Int) else 1) = sumE n (fun y => if y = x then 0 else if L y = Z then (0 : Int) else 1) := by
    refine sumE_cong fun y _ => ?_
    by_cases h : y = x
    · rw [if_pos h, if_pos h]
    · rw [if_neg h, if_neg h, upL_n h]
  have e2 : (if upL L x a x = Z then (0 : Int) else 1) = 1 := by rw [upL_s]; exact if_neg ha
  show sumE n (fun y => if y = x then 0 else if upL L x a y = Z then (0 : Int) else 1) + (if upL L x a x = Z then (0 : Int) else 1) = sumE n (fun y => if y = x then 0 else if L y = Z then (0 : Int) else 1) + (if L x = Z then (0 : Int) else 1) + _
  rw [e1, e2]
  split <;> omega
theorem pigeon : ∀ (n : Nat) (f : Nat → Nat), (∀ i, i ≤ n → f i < n) → ∃ i j, i < j ∧ j ≤ n ∧ f i = f j := by
  intro n
  induction n with
  | zero => intro f h; have := h 0 (Nat.le_refl _); omega
  | succ n ih =>
    intro f h
    by_cases hex : ∃ i, i ≤ n ∧ f i = f (n + 1)
    · obtain ⟨i, hi, he⟩ := hex
      exact ⟨i, n + 1, by omega, Nat.le_refl _, he⟩
    · have hne : ∀ i, i ≤ n → f i ≠ f (n + 1) := fun i hi he => hex ⟨i, hi, he⟩
      have hl := h (n + 1) (Nat.le_refl _)
      obtain ⟨i, j, hij, hj, he⟩ := ih (fun i => if f (n + 1) < f i then f i - 1 else f i) (fun i hi => by
        have a := hne i hi
        have b := h i (by omega)
        show (if f (n + 1) < f i then f i - 1 else f i) < n
        split <;> omega)
      have a := hne i (by omega)
      have b := hne j hj
      refine ⟨i, j, hij, by omega, ?_⟩
      have he9 : (if f (n + 1) < f i then f i - 1 else f i) = (if f (n + 1) < f j then f j - 1 else f j) := he
      split at he9 <;> split at he9 <;> omega
section BFP
variable {n M : Nat} {A : BA} {R : Nat → Nat → Int → Prop} {Z : Int} {S0 : Nat → Bool} {Q j : Nat} {L : Nat → Int} {via τ : Nat → Nat}
theorem BFI.ini (hZ : 20 * (n : Int) + 20 < Z) (via : Nat → Nat) : BFI n M A R Z S0 0 0 (iniL Z S0) via (fun _ => 0) := by
  refine ⟨fun x hx => ⟨Nat.zero_le _, fun _ => rfl, fun h => absurd h (Nat.lt_irrefl 0)⟩, fun x hx => ?_, fun i t hi ho h => by omega, fun x hx hL => ⟨0, hx, ?_⟩, fun x hx hS => ?_⟩
  · have := cntZ_le n Z (iniL Z S0)
    unfold iniL
    split
    · right; unfold iniL at this; omega
    · left; rfl
  · unfold iniL at hL ⊢
    by_cases h : S0 x = true
    · rw [if_pos h]; exact ⟨h, rfl⟩
    · rw [if_neg h] at hL; exact absurd rfl hL
  · unfold iniL
    rw [if_pos hS]
    omega
theorem BFI.bd (h : BFI n M A R Z S0 Q j L via τ) {x : Nat} (hx : x < n) : L x = Z ∨ (-(20 * ((Q + j : Nat) : Int)) ≤ L x ∧ L x ≤ 20 * n) := by
  rcases h.2.1 x hx with h | h
  · exact Or.inl h
  · have := cntZ_le n Z L
    right; omega
theorem BFI.skip (h : BFI n M A R Z S0 Q j L via τ) (hs : A.o j = true → L (A.b j) ≠ Z → L (A.e j) ≤ L (A.b j) + A.c j) : BFI n M A R Z S0 Q (j + 1) L via τ := by
  obtain ⟨h1, h2, h3, h4⟩ := h
  refine ⟨fun x hx => ?_, fun x hx => ?_, fun i t hi ho ht => ?_, h4⟩
  · obtain ⟨a, b, c⟩ := h1 x hx
    exact ⟨by omega, b, c⟩
  · rcases h2 x hx with a | a
    · exact Or.inl a
    · right; omega
  · by_cases hij : i = j
    · intro _ hb
      rw [hij] at ho hb ⊢
      exact hs ho hb
    · exact h3 i t hi ho (by omega)
theorem BFI.put (hA : ArcOK n M A R) (hZ : 20 * (n : Int) + 20 < Z) (hQ : Q = 0 ∨ M ≤ Q) (h : BFI n M A R Z S0 Q j L via τ) (hj : j < M) (ho : A.o j = true) (hb : L (A.b j) ≠ Z) (hl : L (A.b j) + A.c j < L (A.e j)) : BFI n M A R Z S0 Q (j + 1) (upL L (A.e j) (L (A.b j) + A.c j)) (upN via (A.e j) j) (upN τ (A.e j) (Q + j + 1)) := by
  obtain ⟨a1, a2, a3, a4, a5⟩ := hA j hj ho
  have hbd := (h.bd a1).resolve_left hb
  obtain ⟨h1, h2, h3, h4, h5⟩ := h
  have hb9 := (h2 _ a1).resolve_left hb
  have hv : L (A.b j) + A.c j ≠ Z := by omega
  have hc := cntZ_up (L := L) a2 hv
  refine ⟨fun x hx => ?_, fun x hx => ?_, fun i t hi hoi ht => ?_, fun x hx => ?_, fun x hx hS => ?_⟩
  · obtain ⟨x1, x2, x3⟩ := h1 x hx
    unfold BFa
    clear hc hb9 hbd h2
    by_cases hxe : x = A.e j
    · rw [hxe, upN_s, upN_s, upL_s, upL_n a3, upN_n a3]
      refine ⟨by omega, fun h => by omega, fun _ => ⟨hj, ho, rfl, hv, hb, Int.le_refl _, fun h => ?_, fun hM => ?_⟩⟩
      · have := (h1 _ a1).1; omega
      · by_cases hc9 : τ (A.b j) + M ≤ Q + j + 1
        · have := h3 j (Q + j + 1 - M) hj ho (Or.inr ⟨by omega, Nat.le_refl _, by omega⟩) (by omega) hb
          omega
        · show Q + j + 1 < τ (A.b j) + M
          omega
    · rw [upN_n hxe, upN_n hxe, upL_n hxe]
      refine ⟨by omega, x2, fun ht => ?_⟩
      obtain ⟨y1, y2, y3, y4, y5, y6, y7, y8⟩ := x3 ht
      refine ⟨y1, y2, y3, y4, ?_, ?_, ?_, ?_⟩
      · by_cases hq : A.b (via x) = A.e j
        · rw [hq, upL_s]; exact hv
        · rw [upL_n hq]; exact y5
      · by_cases hq : A.b (via x) = A.e j
        · rw [hq, upL_s]; rw [hq] at y6; omega
        · rw [upL_n hq]; exact y6
      · by_cases hq : A.b (via x) = A.e j
        · rw [hq, upL_s]; rw [hq] at y6; intro _; omega
        · rw [upL_n hq, upN_n hq]; exact y7
      · by_cases hq : A.b (via x) = A.e j
        · rw [hq, upN_s]; intro _; omega
        · rw [upN_n hq]; exact y8
  · by_cases hxe : x = A.e j
    · right
      rw [hxe, upL_s, hc]
      rcases h2 _ a2 with hz | hz
      · rw [if_pos hz]; omega
      · split <;> omega
    · rw [upL_n hxe, hc]
      rcases h2 x hx with hz | hz
      · exact Or.inl hz
      · right; split <;> omega
  · intro hτ hL
    obtain ⟨i1, i2, i3, -, -⟩ := hA i hi hoi
    by_cases hq : A.b i = A.e j
    · exfalso
      rw [hq, upN_s] at hτ
      have hne : i ≠ j := fun h => a3 (by rw [← hq, h])
      omega
    · rw [upN_n hq] at hτ
      rw [upL_n hq] at hL ⊢
      by_cases hij : i = j
      · rw [hij, upL_s]; exact Int.le_refl _
      · have := h3 i t hi hoi (by omega) hτ hL
        by_cases he : A.e i = A.e j
        · rw [he, upL_s]; rw [he] at this; omega
        · rw [upL_n he]; exact this
  · by_cases hxe : x = A.e j
    · intro _
      rw [hxe, upL_s]
      obtain ⟨k, hk⟩ := h4 _ a1 hb
      exact ⟨k + 1, A.b j, A.c j, a5, by rw [show L (A.b j) + A.c j - A.c j = L (A.b j) by omega]; exact hk⟩
    · rw [upL_n hxe]; exact h4 x hx
  · have := h5 x hx hS
    by_cases hxe : x = A.e j
    · rw [hxe, upL_s]; rw [hxe] at this; omega
    · rw [upL_n hxe]; exact this
theorem BFI.turn (h : BFI n M A R Z S0 Q M L via τ) : BFI n M A R Z S0 (Q + M) 0 L via τ := by
  obtain ⟨h1, h2, h3, h4⟩ := h
  exact ⟨h1, h2, fun i t hi ho ht => h3 i t hi ho (by omega), h4⟩
theorem BFI.unturn (h : BFI n M A R Z S0 (Q + M) 0 L via τ) : BFI n M A R Z S0 Q M L via τ := by
  obtain ⟨h1, h2, h3, h4⟩ := h
  exact ⟨h1, h2, fun i t hi ho ht => h3 i t hi ho (by omega), h4⟩
theorem BFI_cong {L9 : Nat → Int} (h : ∀ x, x < n → L x = L9 x) (hA : ∀ j, j < M → A.o j = true → A.b j < n ∧ A.e j < n) (hB : BFI n M A R Z S0 Q j L9 via τ) : BFI n M A R Z S0 Q j L via τ := by
  obtain ⟨h1, h2, h3, h4, h5⟩ := hB
  have hc : cntZ n Z L = cntZ n Z L9 := sumE_cong fun x hx => by rw [h x hx]
  refine ⟨fun x hx => ?_, fun x hx => by rw [h x hx, hc]; exact h2 x hx, fun i t hi ho ht => ?_, fun x hx => by rw [h x hx]; exact h4 x hx, fun x hx => by rw [h x hx]; exact h5 x hx⟩
  · obtain ⟨a, b, c⟩ := h1 x hx
    refine ⟨a, fun h0 => by rw [h x hx]; exact b h0, fun h0 => ?_⟩
    obtain ⟨y1, y2, y3⟩ := c h0
    rw [h x hx, h _ (hA _ y1 y2).1]
    exact ⟨y1, y2, y3⟩
  · rw [h _ (hA i hi ho).1, h _ (hA i hi ho).2]
    exact h3 i t hi ho ht
/-- a pass in which nothing fell: all arcs are content -/
theorem BFI.feas (hA : ArcOK n M A R) (hZ : 20 * (n : Int) + 20 < Z) (h : BFI n M A R Z S0 Q M L via τ) (hq : ∀ x, x < n → τ x ≤ Q) {i : Nat} (hi : i < M) (ho : A.o i = true) (hb : L (A.b i) ≠ Z) : L (A.e i) ≠ Z ∧ L (A.e i) ≤ L (A.b i) + A.c i := by
  obtain ⟨a1, a2, a3, a4, a5⟩ := hA i hi ho
  have := h.2.2.1 i (Q + i + 1) hi ho (Or.inl ⟨rfl, hi⟩) (by have := hq _ a1; omega) hb
  have hbd := (h.bd a1).resolve_left hb
  omega
def chn (A : BA) (via : Nat → Nat) (x : Nat) : Nat → Nat
  | 0 => x
  | i + 1 => A.b (via (chn A via x i))
theorem chn_add (x a i : Nat) : chn A via x (a + i) = chn A via (chn A via x a) i := by
  induction i with
  | zero => rfl
  | succ i ih => show A.b (via (chn A via x (a + i))) = _; rw [ih]; rfl
theorem BFI.back (hA : ArcOK n M A R) (h : BFI n M A R Z S0 Q j L via τ) {x q : Nat} (hx : x < n) (ht : q * M < τ x) : ∀ i, i ≤ q → chn A via x i < n ∧ (q - i) * M < τ (chn A via x i) := by
  intro i
  induction i with
  | zero => exact fun _ => ⟨hx, ht⟩
  | succ i ih =>
    intro hi
    obtain ⟨i1, i2⟩ := ih (by omega)
    obtain ⟨-, -, h3⟩ := h.1 _ i1
    obtain ⟨y1, y2, y3, y4, y5, y6, y7, y8⟩ := h3 (by omega)
    refine ⟨(hA _ y1 y2).1, ?_⟩
    rw [show q - i = q - (i + 1) + 1 by omega, Nat.succ_mul] at i2
    have := y8 (by omega)
    show _ < τ (A.b (via (chn A via x i)))
    omega
theorem tele (u : Nat → Int) (l : Nat) : sumE l (fun i => u i - u (i + 1)) = u 0 - u l := by
  induction l with
  | zero => show (0 : Int) = u 0 - u 0; omega
  | succ l ih => show sumE l _ + (u l - u (l + 1)) = _; rw [ih]; omega
/-- the ring on which a corner lies that fell too late -/
theorem BFI.ring (hA : ArcOK n M A R) (h : BFI n M A R Z S0 Q j L via τ) {x : Nat} (hx : x < n) (ht : (n - 1) * M < τ x) : ∃ l, 1 ≤ l ∧ l ≤ n ∧ chn A via x (n + l) = chn A via x n ∧ (∀ i, 1 ≤ i → i < l → chn A via x (n + i) ≠ chn A via x n) ∧ (∀ i, chn A via x (n + i) < n ∧ 0 < τ (chn A via x (n + i))) ∧ sumE l (fun i => A.c (via (chn A via x (n + i)))) < 0 := by
  have hb := h.back hA hx ht
  have hfr : ∀ i, i + 1 ≤ n → chn A via x i < n ∧ 0 < τ (chn A via x i) := fun i hi => by
    obtain ⟨a, b⟩ := hb i (by omega)
    exact ⟨a, by omega⟩
  have hlt : ∀ i, i ≤ n → chn A via x i < n := by
    intro i hi
    by_cases hin : i + 1 ≤ n
    · exact (hfr i hin).1
    · obtain ⟨a, b⟩ := hfr (n - 1) (by omega)
      obtain ⟨-, -, h3⟩ := h.1 _ a
      have e : i = n - 1 + 1 := by omega
      rw [e]
      exact (hA _ (h3 b).1 (h3 b).2.1).1
  obtain ⟨p, q, hpq, hqn, he⟩ := pigeon n (chn A via x) hlt
  have hper : chn A via x n = chn A via x (n - (q - p)) := by
    have e1 : n = q + (n - q) := by omega
    have e2 : n - (q - p) = p + (n - q) := by omega
    rw [e2, chn_add, he, ← chn_add, ← e1]
  have hd1 : 1 ≤ q - p := by omega
  have hdn : q - p ≤ n := by omega
  generalize q - p = d at hper hd1 hdn
  have hh : chn A via x (n + d) = chn A via x n := by
    rw [chn_add, hper, ← chn_add, show n - d + d = n by omega, hper]
  have hall : ∀ i, chn A via x (n + i) < n ∧ 0 < τ (chn A via x (n + i)) := by
    intro i
    induction i using Nat.strongRecOn with
    | ind i ih =>
      by_cases hid : i < d
      · rw [chn_add, hper, ← chn_add]
        exact hfr _ (by omega)
      · have := ih (i - d) (by omega)
        rw [show n + i = n + d + (i - d) by omega, chn_add, hh, ← chn_add]
        exact this
  have hmin : ∀ d, 1 ≤ d → d ≤ n → chn A via x (n + d) = chn A via x n → ∃ l, 1 ≤ l ∧ l ≤ n ∧ chn A via x (n + l) = chn A via x n ∧ ∀ i, 1 ≤ i → i < l → chn A via x (n + i) ≠ chn A via x n := by
    intro d
    induction d using Nat.strongRecOn with
    | ind d ih =>
      intro h1 h2 h3
      by_cases hex : ∃ i, 1 ≤ i ∧ i < d ∧ chn A via x (n + i) = chn A via x n
      · obtain ⟨i, i1, i2, i3⟩ := hex
        exact ih i i2 i1 (by omega) i3
      · exact ⟨d, h1, h2, h3, fun i i1 i2 i3 => hex ⟨i, i1, i2, i3⟩⟩
  obtain ⟨l, l1, l2, l3, l4⟩ := hmin d hd1 hdn hh
  refine ⟨l, l1, l2, l3, l4, hall, ?_⟩
  have hex : ∃ k, k < l ∧ τ (chn A via x (n + k)) ≤ τ (chn A via x (n + (k + 1))) := by
    by_cases hex : ∃ k, k < l ∧ τ (chn A via x (n + k)) ≤ τ (chn A via x (n + (k + 1)))
    · exact hex
    exfalso
    have key : ∀ k, k ≤ l → τ (chn A via x (n + k)) + k ≤ τ (chn A via x n) := by
      intro k
      induction k with
      | zero => exact fun _ => Nat.le_refl _
      | succ k ih =>
        intro hk
        have a := ih (by omega)
        by_cases hc : τ (chn A via x (n + k)) ≤ τ (chn A via x (n + (k + 1)))
        · exact absurd ⟨k, by omega, hc⟩ hex
        · omega
    have := key l (Nat.le_refl _)
    rw [l3] at this
    omega
  obtain ⟨k, k1, k2⟩ := hex
  have hstep : ∀ i, A.c (via (chn A via x (n + i))) ≤ L (chn A via x (n + i)) - L (chn A via x (n + (i + 1))) ∧ (τ (chn A via x (n + i)) ≤ τ (chn A via x (n + (i + 1))) → A.c (via (chn A via x (n + i))) < L (chn A via x (n + i)) - L (chn A via x (n + (i + 1)))) := by
    intro i
    obtain ⟨a, b⟩ := hall i
    obtain ⟨-, -, h3⟩ := h.1 _ a
    obtain ⟨y1, y2, y3, y4, y5, y6, y7, y8⟩ := h3 b
    have e : chn A via x (n + (i + 1)) = A.b (via (chn A via x (n + i))) := rfl
    rw [e]
    exact ⟨by omega, fun hq => by have := y7 hq; omega⟩
  have hs := sumE_lt (n := l) (k := k) (f := fun i => A.c (via (chn A via x (n + i)))) (g := fun i => L (chn A via x (n + i)) - L (chn A via x (n + (i + 1)))) k1 (fun i _ => (hstep i).1) ((hstep k).2 k2)
  have ht := tele (fun i => L (chn A via x (n + i))) l
  have ht9 : sumE l (fun i => L (chn A via x (n + i)) - L (chn A via x (n + (i + 1)))) = L (chn A via x n) - L (chn A via x (n + l)) := ht
  rw [ht9, l3] at hs
  omega
/-- where potentials stand nothing falls so late -/
theorem BFI.calm (hA : ArcOK n M A R) (h : BFI n M A R Z S0 Q j L via τ) {π : Nat → Int} (hπ : ∀ i, i < M → A.o i = true → π (A.e i) ≤ π (A.b i) + A.c i) {x : Nat} (hx : x < n) : τ x ≤ (n - 1) * M := by
  by_cases hc : τ x ≤ (n - 1) * M
  · exact hc
  exfalso
  obtain ⟨l, l1, l2, l3, -, hall, hs⟩ := h.ring hA hx (by omega)
  have hstep : sumE l (fun i => π (chn A via x (n + i)) - π (chn A via x (n + (i + 1)))) ≤ sumE l (fun i => A.c (via (chn A via x (n + i)))) := by
    refine sumE_le fun i _ => ?_
    obtain ⟨a, b⟩ := hall i
    obtain ⟨-, -, h3⟩ := h.1 _ a
    obtain ⟨y1, y2, y3, -⟩ := h3 b
    have := hπ _ y1 y2
    rw [y3] at this
    have e : chn A via x (n + (i + 1)) = A.b (via (chn A via x (n + i))) := rfl
    rw [e]
    omega
  have ht : sumE l (fun i => π (chn A via x (n + i)) - π (chn A via x (n + (i + 1)))) = π (chn A via x n) - π (chn A via x (n + l)) := tele (fun i => π (chn A via x (n + i))) l
  rw [ht, l3] at hstep
  omega
/-- corners of a ring are apart -/
theorem ring_apart {x l : Nat} (l3 : chn A via x l = x) (l4 : ∀ i, 1 ≤ i → i < l → chn A via x i ≠ x) {p q : Nat} (hpq : p < q) (hq : q < l) : chn A via x p ≠ chn A via x q := by
  intro he
  refine l4 (p + (l - q)) (by omega) (by omega) ?_
  rw [chn_add, he, ← chn_add, show q + (l - q) = l by omega, l3]
def DST (n : Nat) (R : Nat → Nat → Int → Prop) (S0 : Nat → Bool) (Z : Int) (D : Nat → Int) : Prop := (∀ x, x < n → D x ≠ Z → ∃ k, wk n R S0 k x (D x)) ∧ (∀ x, x < n → S0 x = true → D x ≠ Z ∧ D x ≤ 0) ∧ ∀ u x q, R u x q → D u ≠ Z → D x ≠ Z ∧ D x ≤ D u + q
theorem DST.wk {D : Nat → Int} (h : DST n R S0 Z D) : ∀ (k x : Nat) (a : Int), wk n R S0 k x a → D x ≠ Z ∧ D x ≤ a := by
  intro k
  induction k with
  | zero =>
    rintro x a ⟨h1, h2, h3⟩
    have := h.2.1 x h1 h2
    exact ⟨this.1, by omega⟩
  | succ k ih =>
    rintro x a ⟨u, q, h1, h2⟩
    have a1 := ih u _ h2
    have a2 := h.2.2 u x q h1 a1.1
    exact ⟨a2.1, by omega⟩
theorem DST.uniq {Z9 : Int} {D E : Nat → Int} (h : DST n R S0 Z D) (h9 : DST n R S0 Z9 E) {x : Nat} (hx : x < n) : (D x = Z ↔ E x = Z9) ∧ (D x ≠ Z → D x = E x) := by
  have a : D x ≠ Z → E x ≠ Z9 ∧ E x ≤ D x := fun hd => by
    obtain ⟨k, hk⟩ := h.1 x hx hd
    exact h9.wk k x _ hk
  have b : E x ≠ Z9 → D x ≠ Z ∧ D x ≤ E x := fun hd => by
    obtain ⟨k, hk⟩ := h9.1 x hx hd
    exact h.wk k x _ hk
  refine ⟨⟨fun hd => ?_, fun he => ?_⟩, fun hd => ?_⟩
  · by_cases he : E x = Z9
    · exact he
    · exact absurd hd (b he).1
  · by_cases hd : D x = Z
    · exact hd
    · exact absurd he (a hd).1
  · have a1 := a hd
    have b1 := b a1.1
    omega
theorem BFI.dst (hA : ArcOK n M A R) (hZ : 20 * (n : Int) + 20 < Z) (h : BFI n M A R Z S0 Q M L via τ) (hq : ∀ x, x < n → τ x ≤ Q) (hR : ∀ u x q, R u x q → ∃ i, i < M ∧ A.o i = true ∧ A.b i = u ∧ A.e i = x ∧ A.c i = q) : DST n R S0 Z L := by
  refine ⟨h.2.2.2.1, h.2.2.2.2, fun u x q hr hu => ?_⟩
  obtain ⟨i, i1, i2, i3, i4, i5⟩ := hR u x q hr
  rw [← i3] at hu ⊢
  rw [← i4, ← i5]
  exact h.feas hA hZ hq i1 i2 hu
theorem DST_cong {R9 : Nat → Nat → Int → Prop} {D : Nat → Int} (h : DST n R S0 Z D) (hR : ∀ u x q, R u x q ↔ R9 u x q) : DST n R9 S0 Z D := by
  have : R = R9 := funext fun u => funext fun x => funext fun q => propext (hR u x q)
  rw [← this]; exact h
end BFP
