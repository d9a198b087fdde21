/-! searches over sets, as the loops make them -/
/-- the first place below n with p, or -1 -/
def ff (p : Nat → Bool) : Nat → Int
  | 0 => -1
  | n + 1 => if ff p n = -1 then (if p n then (n : Int) else -1) else ff p n
theorem ff_none {p : Nat → Bool} {n : Nat} (h : ∀ S, S < n → p S = false) : ff p n = -1 := by
  induction n with
  | zero => rfl
  | succ n ih => rw [ff, ih (fun S hS => h S (by omega)), if_pos rfl, if_neg (by rw [h n (by omega)]; decide)]
theorem ff_hit {p : Nat → Bool} {n s : Nat} (hs : s < n) (hp : p s = true) (h : ∀ S, S < s → p S = false) : ff p n = s := by
  induction n with
  | zero => omega
  | succ n ih =>
    rw [ff]
    by_cases hn : s = n
    · subst hn
      rw [ff_none h, if_pos rfl, if_pos hp]
    · rw [ih (by omega), if_neg (by omega)]
theorem ff_cases (p : Nat → Bool) (n : Nat) : (ff p n = -1 ∧ ∀ S, S < n → p S = false) ∨ ∃ s, s < n ∧ ff p n = s ∧ p s = true ∧ ∀ S, S < s → p S = false := by
  induction n with
  | zero => exact Or.inl ⟨rfl, fun S hS => by omega⟩
  | succ n ih =>
    rw [ff]
    rcases ih with ⟨h1, h2⟩ | ⟨s, h1, h2, h3, h4⟩
    · rw [h1, if_pos rfl]
      by_cases hp : p n = true
      · exact Or.inr ⟨n, by omega, by rw [if_pos hp], hp, h2⟩
      · rw [if_neg hp]
        refine Or.inl ⟨rfl, fun S hS => ?_⟩
        by_cases hS2 : S = n
        · subst hS2; simpa using hp
        · exact h2 S (by omega)
    · exact Or.inr ⟨s, by omega, by rw [h2, if_neg (by omega)], h3, h4⟩
theorem ff_cong {p q : Nat → Bool} {n : Nat} (h : ∀ S, S < n → p S = q S) : ff p n = ff q n := by
  induction n with
  | zero => rfl
  | succ n ih => rw [ff, ff, ih (fun S hS => h S (by omega)), h n (by omega)]
/-- the least value where p holds, none if it never holds -/
def mn (none : Int) (p : Nat → Bool) (f : Nat → Int) : Nat → Int
  | 0 => none
  | n + 1 => if p n then (if mn none p f n = none ∨ f n < mn none p f n then f n else mn none p f n) else mn none p f n
/-- the greatest of b and the values where p holds -/
def mx (b : Int) (p : Nat → Bool) (f : Nat → Int) : Nat → Int
  | 0 => b
  | n + 1 => if p n then max (mx b p f n) (f n) else mx b p f n
theorem mn_spec {none : Int} {p : Nat → Bool} {f : Nat → Int} {n : Nat} (hf : ∀ S, S < n → f S ≠ none) : (mn none p f n = none ∧ ∀ S, S < n → p S = false) ∨ (mn none p f n ≠ none ∧ (∃ S, S < n ∧ p S = true ∧ mn none p f n = f S) ∧ ∀ S, S < n → p S = true → mn none p f n ≤ f S) := by
  induction n with
  | zero => exact Or.inl ⟨rfl, fun S hS => by omega⟩
  | succ n ih =>
    have ih := ih (fun S hS => hf S (by omega))
    rw [mn]
    by_cases hp : p n = true
    · rw [if_pos hp]
      rcases ih with ⟨h1, h2⟩ | ⟨h1, ⟨S, h2, h3, h4⟩, h5⟩
      · rw [h1, if_pos (Or.inl rfl)]
        refine Or.inr ⟨hf n (by omega), ⟨n, by omega, hp, rfl⟩, fun S hS hpS => ?_⟩
        by_cases hS2 : S = n
        · subst hS2; exact Int.le_refl _
        · rw [h2 S (by omega)] at hpS; cases hpS
      · by_cases hlt : f n < mn none p f n
        · rw [if_pos (Or.inr hlt)]
          refine Or.inr ⟨hf n (by omega), ⟨n, by omega, hp, rfl⟩, fun T hT hpT => ?_⟩
          by_cases hT2 : T = n
          · subst hT2; exact Int.le_refl _
          · have := h5 T (by omega) hpT; omega
        · rw [if_neg (by intro z; rcases z with z | z <;> contradiction)]
          refine Or.inr ⟨h1, ⟨S, by omega, h3, h4⟩, fun T hT hpT => ?_⟩
          by_cases hT2 : T = n
          · subst hT2; omega
          · exact h5 T (by omega) hpT
    · rw [if_neg hp]
      rcases ih with ⟨h1, h2⟩ | ⟨h1, ⟨S, h2, h3, h4⟩, h5⟩
      · refine Or.inl ⟨h1, fun S hS => ?_⟩
        by_cases hS2 : S = n
        · subst hS2; simpa using hp
        · exact h2 S (by omega)
      · refine Or.inr ⟨h1, ⟨S, by omega, h3, h4⟩, fun T hT hpT => ?_⟩
        by_cases hT2 : T = n
        · subst hT2; contradiction
        · exact h5 T (by omega) hpT
theorem mx_spec (b : Int) (p : Nat → Bool) (f : Nat → Int) (n : Nat) : b ≤ mx b p f n ∧ (∀ S, S < n → p S = true → f S ≤ mx b p f n) ∧ (mx b p f n = b ∨ ∃ S, S < n ∧ p S = true ∧ mx b p f n = f S) := by
  induction n with
  | zero => exact ⟨Int.le_refl _, fun S hS => by omega, Or.inl rfl⟩
  | succ n ih =>
    obtain ⟨h1, h2, h3⟩ := ih
    rw [mx]
    by_cases hp : p n = true
    · rw [if_pos hp]
      refine ⟨by omega, fun S hS hpS => ?_, ?_⟩
      · by_cases hS2 : S = n
        · subst hS2; omega
        · have := h2 S (by omega) hpS; omega
      · by_cases hlt : mx b p f n ≤ f n
        · exact Or.inr ⟨n, by omega, hp, by omega⟩
        · rcases h3 with h3 | ⟨S, h4, h5, h6⟩
          · exact Or.inl (by omega)
          · exact Or.inr ⟨S, by omega, h5, by omega⟩
    · rw [if_neg hp]
      refine ⟨h1, fun S hS hpS => ?_, ?_⟩
      · by_cases hS2 : S = n
        · subst hS2; contradiction
        · exact h2 S (by omega) hpS
      · rcases h3 with h3 | ⟨S, h4, h5, h6⟩
        · exact Or.inl h3
        · exact Or.inr ⟨S, by omega, h5, h6⟩
/-! what the reference asks of sets -/
def crowdP (G : Gr) (lo hi : Nat → Int) (s t S : Nat) : Bool := (S.testBit s == S.testBit t) && decide (sIn G hi S < sOut G lo S)
def btw (s t S : Nat) : Bool := S.testBit s && !S.testBit t
def cutV (G : Gr) (lo hi : Nat → Int) (S : Nat) : Int := sOut G hi S - sIn G lo S
def NONE9 : Int := -1000000
def amountF (G : Gr) (lo hi : Nat → Int) (s t : Nat) : Int := if 0 ≤ ff (crowdP G lo hi s t) (2 ^ G.n) then NONE9 else mn NONE9 (btw s t) (cutV G lo hi) (2 ^ G.n)
def beyondF (s t : Nat) (a : Int) (S : Nat) : Int := if btw t s S then a else if btw s t S then -a else 0
def leastF (G : Gr) (lo hi : Nat → Int) (s t : Nat) (a : Int) (e : Nat) : Int := mx (lo e) (fun S => ens G S e) (fun S => sOut G lo S + beyondF s t a S - (sIn G hi S - hi e)) (2 ^ G.n)
/-- bounds all of which lie between -z and z -/
def bdz (m : Nat) (z : Int) (lo hi : Nat → Int) : Prop := 0 ≤ z ∧ ∀ e, e < m → (-z ≤ lo e ∧ lo e ≤ z) ∧ (-z ≤ hi e ∧ hi e ≤ z)
section MF
variable {X : xX} {c : xCx} {I : xIn} {i : Nat} {G : Gr} {lo hi : Nat → Int} {z : Int}
theorem bdz.out {m : Nat} (h : bdz m z lo hi) : ∀ e, e < m → -z ≤ lo e ∧ lo e ≤ z := fun e he => (h.2 e he).1
theorem bdz.in {m : Nat} (h : bdz m z lo hi) : ∀ e, e < m → -z ≤ hi e ∧ hi e ≤ z := fun e he => (h.2 e he).2
theorem beyond_bd {s t S : Nat} {a z : Int} (hz : 0 ≤ z) (ha : -z ≤ a ∧ a ≤ z) : -z ≤ beyondF s t a S ∧ beyondF s t a S ≤ z := by
  unfold beyondF
  split
  · exact ha
  · split <;> omega
end MF
