/-! searches over sets, as the loops make them -/
/-- the first place below n with p, or -1 -/
def ff (p : Nat → Bool) : Nat → Int
  | 0 => -1
  | n + 1 => if ff p n = -1 then (if p n then (n : Int) else -1) else ff p n
theorem ff_none {p : Nat → Bool} {n : Nat} (h : ∀ S, S < n → p S = false) : ff p n = -1 := by
  induction n with
  | zero => rfl
  | succ n ih => rw [ff, ih (fun S hS => h S (by omega)), if_pos rfl, if_neg (by rw [h n (by omega)]; decide)]
theorem ff_hit {p : Nat → Bool} {n s : Nat} (hs : s < n) (hp : p s = true) (h : ∀ S, S < s → p S = false) : ff p n = s := by
  induction n with
  | zero => omega
  | succ n ih =>
    rw [ff]
    by_cases hn : s = n
    · subst hn
      rw [ff_none h, if_pos rfl, if_pos hp]
    · rw [ih (by omega), if_neg (by omega)]
theorem ff_cases (p : Nat → Bool) (n : Nat) : (ff p n = -1 ∧ ∀ S, S < n → p S = false) ∨ ∃ s, s < n ∧ ff p n = s ∧ p s = true ∧ ∀ S, S < s → p S = false := by
  induction n with
  | zero => exact Or.inl ⟨rfl, fun S hS => by omega⟩
  | succ n ih =>
    rw [ff]
    rcases ih with ⟨h1, h2⟩ | ⟨s, h1, h2, h3, h4⟩
    · rw [h1, if_pos rfl]
      by_cases hp : p n = true
      · exact Or.inr ⟨n, by omega, by rw [if_pos hp], hp, h2⟩
      · rw [if_neg hp]
        refine Or.inl ⟨rfl, fun S hS => ?_⟩
        by_cases hS2 : S = n
        · subst hS2; simpa using hp
        · exact h2 S (by omega)
    · exact Or.inr ⟨s, by omega, by rw [h2, if_neg (by omega)], h3, h4⟩
theorem ff_cong {p q : Nat → Bool} {n : Nat} (h : ∀ S, S < n → p S = q S) : ff p n = ff q n := by
  induction n with
  | zero => rfl
  | succ n ih => rw [ff, ff, ih (fun S hS => h S (by omega)), h n (by omega)]
/-- the least value where p holds, none if it never holds -/
def mn (none : Int) (p : Nat → Bool) (f : Nat → Int) : Nat → Int
  | 0 => none
  | n + 1 => if p n then (if mn none p f n = none ∨ f n < mn none p f n then f n else mn none p f n) else mn none p f n
/-- the greatest of b and the values where p holds -/
def mx (b : Int) (p : Nat → Bool) (f : Nat → Int) : Nat → Int
  | 0 => b
  | n + 1 => if p n then max (mx b p f n) (f n) else mx b p f n
theorem mn_spec {none : Int} {p : Nat → Bool} {f : Nat → Int} {n : Nat} (hf : ∀ S, S < n → f S ≠ none) : (mn none p f n = none ∧ ∀ S, S < n → p S = false) ∨ (mn none p f n ≠ none ∧ (∃ S, S < n ∧ p S = true ∧ mn none p f n = f S) ∧ ∀ S, S < n → p S = true → mn none p f n ≤ f S) := by
  induction n with
  | zero => exact Or.inl ⟨rfl, fun S hS => by omega⟩
  | succ n ih =>
    have ih := ih (fun S hS => hf S (by omega))
    rw [mn]
    by_cases hp : p n = true
    · rw [if_pos hp]
      rcases ih with ⟨h1, h2⟩ | ⟨h1, ⟨S, h2, h3, h4⟩, h5⟩
      · rw [h1, if_pos (Or.inl rfl)]
        refine Or.inr ⟨hf n (by omega), ⟨n, by omega, hp, rfl⟩, fun S hS hpS => ?_⟩
        by_cases hS2 : S = n
        · subst hS2; exact Int.le_refl _
        · rw [h2 S (by omega)] at hpS; cases hpS
      · by_cases hlt : f n < mn none p f n
        · rw [if_pos (Or.inr hlt)]
          refine Or.inr ⟨hf n (by omega), ⟨n, by omega, hp, rfl⟩, fun T hT hpT => ?_⟩
          by_cases hT2 : T = n
          · subst hT2; exact Int.le_refl _
          · have := h5 T (by omega) hpT; omega
        · rw [if_neg (by intro z; rcases z with z | z <;> contradiction)]
          refine Or.inr ⟨h1, ⟨S, by omega, h3, h4⟩, fun T hT hpT => ?_⟩
          by_cases hT2 : T = n
          · subst hT2; omega
          · exact h5 T (by omega) hpT
    · rw [if_neg hp]
      rcases ih with ⟨h1, h2⟩ | ⟨h1, ⟨S, h2, h3, h4⟩, h5⟩
      · refine Or.inl ⟨h1, fun S hS => ?_⟩
        by_cases hS2 : S = n
        · subst hS2; simpa using hp
        · exact h2 S (by omega)
      · refine Or.inr ⟨h1, ⟨S, by omega, h3, h4⟩, fun T hT hpT => ?_⟩
        by_cases hT2 : T = n
        · subst hT2; contradiction
        · exact h5 T (by omega) hpT
theorem mx_spec (b : Int) (p : Nat → Bool) (f : Nat → Int) (n : Nat) : b ≤ mx b p f n ∧ (∀ S, S < n → p S = true → f S ≤ mx b p f n) ∧ (mx b p f n = b ∨ ∃ S, S < n ∧ p S = true ∧ mx b p f n = f S) := by
  induction n with
  | zero => exact ⟨Int.le_refl _, fun S hS => by omega, Or.inl rfl⟩
  | succ n ih =>
    obtain ⟨h1, h2, h3⟩ := ih
    rw [mx]
    by_cases hp : p n = true
    · rw [if_pos hp]
      refine ⟨by omega, fun S hS hpS => ?_, ?_⟩
      · by_cases hS2 : S = n
        · subst hS2; omega
        · have := h2 S (by omega) hpS; omega
      · by_cases hlt : mx b p f n ≤ f n
        · exact Or.inr ⟨n, by omega, hp, by omega⟩
        · rcases h3 with h3 | ⟨S, h4, h5, h6⟩
          · exact Or.inl (by omega)
          · exact Or.inr ⟨S, by omega, h5, by omega⟩
    · rw [if_neg hp]
      refine ⟨h1, fun S hS hpS => ?_, ?_⟩
      · by_cases hS2 : S = n
        · subst hS2; contradiction
        · exact h2 S (by omega) hpS
      · rcases h3 with h3 | ⟨S, h4, h5, h6⟩
        · exact Or.inl h3
        · exact Or.inr ⟨S, by omega, h5, h6⟩
/-! what the reference asks of sets -/
def crowdP (G : Gr) (lo hi : Nat → Int) (s t S : Nat) : Bool := (S.testBit s == S.testBit t) && decide (sIn G hi S < sOut G lo S)
def btw (s t S : Nat) : Bool := S.testBit s && !S.testBit t
def cutV (G : Gr) (lo hi : Nat → Int) (S : Nat) : Int := sOut G hi S - sIn G lo S
def NONE9 : Int := -1000000
def amountF (G : Gr) (lo hi : Nat → Int) (s t : Nat) : Int := if 0 ≤ ff (crowdP G lo hi s t) (2 ^ G.n) then NONE9 else mn NONE9 (btw s t) (cutV G lo hi) (2 ^ G.n)
def beyondF (s t : Nat) (a : Int) (S : Nat) : Int := if btw t s S then a else if btw s t S then -a else 0
def leastF (G : Gr) (lo hi : Nat → Int) (s t : Nat) (a : Int) (e : Nat) : Int := mx (lo e) (fun S => ens G S e) (fun S => sOut G lo S + beyondF s t a S - (sIn G hi S - hi e)) (2 ^ G.n)
/-- bounds all of which lie between -z and z -/
def bdz (m : Nat) (z : Int) (lo hi : Nat → Int) : Prop := 0 ≤ z ∧ ∀ e, e < m → (-z ≤ lo e ∧ lo e ≤ z) ∧ (-z ≤ hi e ∧ hi e ≤ z)
section MF
variable {X : xX} {c : xCx} {I : xIn} {i : Nat} {G : Gr} {lo hi : Nat → Int} {z : Int}
theorem bdz.out {m : Nat} (h : bdz m z lo hi) : ∀ e, e < m → -z ≤ lo e ∧ lo e ≤ z := fun e he => (h.2 e he).1
theorem bdz.in {m : Nat} (h : bdz m z lo hi) : ∀ e, e < m → -z ≤ hi e ∧ hi e ≤ z := fun e he => (h.2 e he).2
theorem ok_setsN (hX : xBase X) (d : Nat) (hG : GrOK G) (hM : MG I i G) {N : Nat} (hN : 2 ^ G.n = N) : xRet rI X m_X10_sets d [xr (1, 0), xi (i : Int)] c I 0 0 (pv (N : Int) I) xNo := hN ▸ ok_sets hX d hG hM
theorem ok_proof (hX : xBase X) (d : Nat) (hG : GrOK G) (hM : MG I i G) (hB : MB I G.m lo hi) (hz : bdz G.m z lo hi) (hz9 : z ≤ 100000) {s t : Nat} (hs : s < 32) (ht : t < 32) : xRet rI X m_X10_proof (d + 3) [xr (1, 0), xi (i : Int), xi (s : Int), xi (t : Int)] c I 0 0 (pv (ff (crowdP G lo hi s t) (2 ^ G.n)) I) xNo := by
  have g2 := pow2_le8 hG.2.1
  generalize hN : 2 ^ G.n = N at g2 ⊢
  refine xRet_of hX pl_X10_proof (LE1 rfl) fun V hV => rg_X10_proof_0 hV I _ _ _ ?_
  refine up_to0 (m := N) (W := fun S => (∀ T, T < S → crowdP G lo hi s t T = false) → V 3 [(0, xr (1, 0)), (1, xi (i : Int)), (2, xi (s : Int)), (3, xi (t : Int)), (4, xi (S : Int))] [] (I, xst c) 0 0) ?_ ?_ (fun T hT => by omega)
  · intro hno
    refine rg_X10_proof_3 hV I _ _ _ _ ⟨_, ok_setsN hX (d + 2) hG hM hN, ?_⟩
    rintro _ _ ⟨rfl, rfl⟩
    exact ⟨⟨by omega, by omega⟩, ⟨by omega, by omega⟩, fun _ => pvI (ff_none hno).symm, fun h => by omega⟩
  · intro S hS ih hno
    have hS2 : S ≤ 2147483647 := by omega
    have b1 := sOut_bd (S := S) hG.2.2.1 hz.1 hz.out
    have b2 := sIn_bd (S := S) hG.2.2.1 hz.1 hz.in
    refine rg_X10_proof_3 hV I _ _ _ _ ⟨_, ok_setsN hX (d + 2) hG hM hN, ?_⟩
    rintro _ _ ⟨rfl, rfl⟩
    refine ⟨⟨by omega, by omega⟩, ⟨by omega, by omega⟩, fun h => by omega, fun _ => ⟨_, ok_has hX (d + 2) rfl rfl hS2 hs, ?_⟩⟩
    rintro _ _ ⟨rfl, rfl⟩
    refine ⟨_, ok_has hX (d + 2) rfl rfl hS2 ht, ?_⟩
    rintro _ _ ⟨rfl, rfl⟩
    have next : crowdP G lo hi s t S = false → ∀ T, T < S + 1 → crowdP G lo hi s t T = false := fun h T hT => by
      by_cases hTS : T = S
      · rw [hTS]; exact h
      · exact hno T (by omega)
    refine ⟨fun hne => ih (next (by unfold crowdP; rw [beq_eq_false_iff_ne.mpr hne]; rfl)), fun heq => ⟨_, ok_leastOut hX d hG hM hB hS2, ?_⟩⟩
    rintro _ _ ⟨rfl, rfl⟩
    refine ⟨_, ok_mostIn hX d hG hM hB hS2, ?_⟩
    rintro _ _ ⟨rfl, rfl⟩
    refine ⟨⟨by omega, by omega⟩, ⟨by omega, by omega⟩, fun h => ih (next ?_), fun h => pvI (ff_hit hS ?_ hno).symm⟩
    · unfold crowdP; rw [heq, decide_eq_false (by omega)]; simp
    · unfold crowdP; rw [heq, decide_eq_true h]; simp
theorem ok_amount (hX : xBase X) (d : Nat) (hG : GrOK G) (hM : MG I i G) (hB : MB I G.m lo hi) (hz : bdz G.m z lo hi) (hz9 : z ≤ 10000) {s t : Nat} (hs : s < 32) (ht : t < 32) : xRet rI X m_X10_amount (d + 4) [xr (1, 0), xi (i : Int), xi (s : Int), xi (t : Int)] c I 0 0 (pv (amountF G lo hi s t) I) xNo := by
  have g2 := pow2_le8 hG.2.1
  have hpf := ff_cases (crowdP G lo hi s t) (2 ^ G.n)
  have hA : amountF G lo hi s t = if 0 ≤ ff (crowdP G lo hi s t) (2 ^ G.n) then NONE9 else mn NONE9 (btw s t) (cutV G lo hi) (2 ^ G.n) := rfl
  refine xRet_of hX pl_X10_amount (LE1 rfl) fun V hV => rg_X10_amount_0 hV I _ _ _ ⟨_, ok_proof hX d hG hM hB hz (by omega) hs ht, ?_⟩
  rintro _ _ ⟨rfl, rfl⟩
  generalize hN : 2 ^ G.n = N at g2 hpf hA ⊢
  refine ⟨by rcases hpf with ⟨h, -⟩ | ⟨q, h1, h2, -⟩ <;> constructor <;> omega, fun h => ?_, fun h => pvI (by rw [hA, if_pos h]; rfl)⟩
  rw [if_neg (by omega)] at hA
  refine up_to0 (m := N) (W := fun S => V 20 [(0, xr (1, 0)), (1, xi (i : Int)), (2, xi (s : Int)), (3, xi (t : Int)), (4, xi (mn NONE9 (btw s t) (cutV G lo hi) S)), (5, xi (S : Int))] [] (_, xst c) 0 0) ?_ ?_
  · refine rg_X10_amount_20 hV _ _ _ _ _ _ ⟨_, ok_setsN hX (d + 3) hG hM hN, ?_⟩
    rintro _ _ ⟨rfl, rfl⟩
    exact ⟨⟨by omega, by omega⟩, ⟨by omega, by omega⟩, fun _ => pvI hA.symm, fun h => by omega⟩
  · intro S hS ih
    have hS2 : S ≤ 2147483647 := by omega
    have hcv : ∀ T, -320000 ≤ cutV G lo hi T ∧ cutV G lo hi T ≤ 320000 := fun T => by
      have b1 := sOut_bd (S := T) hG.2.2.1 hz.1 hz.in
      have b2 := sIn_bd (S := T) hG.2.2.1 hz.1 hz.out
      unfold cutV; omega
    have hmn := mn_spec (none := NONE9) (p := btw s t) (f := cutV G lo hi) (n := S) (fun T _ => by have := hcv T; unfold NONE9; omega)
    have hr : xin (mn NONE9 (btw s t) (cutV G lo hi) S) := by
      rcases hmn with ⟨h1, -⟩ | ⟨-, ⟨T, -, -, h1⟩, -⟩
      · rw [h1]; exact ⟨by decide, by decide⟩
      · rw [h1]; have := hcv T; constructor <;> omega
    rw [mn] at ih
    refine rg_X10_amount_20 hV _ _ _ _ _ _ ⟨_, ok_setsN hX (d + 3) hG hM hN, ?_⟩
    rintro _ _ ⟨rfl, rfl⟩
    refine ⟨⟨by omega, by omega⟩, ⟨by omega, by omega⟩, fun h => by omega, fun _ => ⟨_, ok_isBetween hX (d + 2) hS2 hs ht, ?_⟩⟩
    rintro _ _ ⟨rfl, rfl⟩
    change (btw s t S = false → _) ∧ (btw s t S = true → _)
    refine ⟨fun z9 => by rw [if_neg (by rw [z9]; decide)] at ih; exact ih, fun z9 => ⟨_, ok_sumOf hX d hG hM hB hS2, ?_⟩⟩
    rintro _ _ ⟨rfl, rfl⟩
    rw [if_pos z9] at ih
    have hc := hcv S
    change xin _ ∧ (mn NONE9 (btw s t) (cutV G lo hi) S = NONE9 → V 20 [(0, xr (1, 0)), (1, xi (i : Int)), (2, xi (s : Int)), (3, xi (t : Int)), (4, xi (cutV G lo hi S)), (5, xi ((S : Int) + 1))] [] (_, xst c) 0 0) ∧ _
    refine ⟨hr, fun h1 => by rw [if_pos (Or.inl h1)] at ih; exact ih, fun h1 => ⟨⟨by unfold cutV at hc; omega, by unfold cutV at hc; omega⟩, fun h2 => ?_, fun h2 => ?_⟩⟩
    · have h2 : mn NONE9 (btw s t) (cutV G lo hi) S ≤ cutV G lo hi S := h2
      rw [if_neg (by rintro (q | q); exact h1 q; omega)] at ih; exact ih
    · have h2 : cutV G lo hi S < mn NONE9 (btw s t) (cutV G lo hi) S := h2
      rw [if_pos (Or.inr h2)] at ih; exact ih
theorem ok_beyond (hX : xBase X) (d : Nat) {S s t : Nat} {a : Int} (hS : S ≤ 2147483647) (hs : s < 32) (ht : t < 32) : xRet rI X m_X10_beyond (d + 1) [xi (S : Int), xi (s : Int), xi (t : Int), xi a] c I 0 0 (pv (beyondF s t a S) I) xNo := by
  refine xRet_of hX pl_X10_beyond (LE1 rfl) fun V hV => ?_
  have h20 : S.testBit t = false ∨ S.testBit s = true → V 20 [(0, xi (S : Int)), (1, xi (s : Int)), (2, xi (t : Int)), (3, xi a)] [] (I, xst c) 0 0 := by
    intro hor
    refine rg_X10_beyond_20 hV I _ _ _ _ ⟨_, ok_has hX d rfl rfl hS hs, ?_⟩
    rintro _ _ ⟨rfl, rfl⟩
    refine ⟨fun z => pvI ?_, fun z => ⟨_, ok_has hX d rfl rfl hS ht, ?_⟩⟩
    · unfold beyondF btw
      rw [z] at hor ⊢
      rcases hor with h | h
      · simp [h]
      · cases h
    · rintro _ _ ⟨rfl, rfl⟩
      refine ⟨fun w => pvI ?_, fun w => pvI ?_⟩ <;> unfold beyondF btw <;> simp [z, w]
  refine rg_X10_beyond_0 hV I _ _ _ _ ⟨_, ok_has hX d rfl rfl hS ht, ?_⟩
  rintro _ _ ⟨rfl, rfl⟩
  refine ⟨fun z => h20 (Or.inl z), fun z => ⟨_, ok_has hX d rfl rfl hS hs, ?_⟩⟩
  rintro _ _ ⟨rfl, rfl⟩
  exact ⟨fun w => h20 (Or.inr w), fun w => pvI (by unfold beyondF btw; simp [z, w])⟩
theorem beyond_bd {s t S : Nat} {a z : Int} (hz : 0 ≤ z) (ha : -z ≤ a ∧ a ≤ z) : -z ≤ beyondF s t a S ∧ beyondF s t a S ≤ z := by
  unfold beyondF
  split
  · exact ha
  · split <;> omega
theorem ok_leastOf (hX : xBase X) (d : Nat) (hG : GrOK G) (hM : MG I i G) (hB : MB I G.m lo hi) (hz : bdz G.m z lo hi) (hz9 : z ≤ 10000) {s t e : Nat} {a : Int} (hs : s < 32) (ht : t < 32) (ha : -1000000 ≤ a ∧ a ≤ 1000000) (he : e < G.m) : xRet rI X m_X10_leastOf (d + 3) [xr (1, 0), xi (i : Int), xi (s : Int), xi (t : Int), xi a, xi (e : Int)] c I 0 0 (pv (leastF G lo hi s t a e) I) xNo := by
  have g2 := pow2_le8 hG.2.1
  have g3 := hG.2.2.1
  unfold leastF
  generalize hN : 2 ^ G.n = N at g2 ⊢
  have hlo := (hB e he).1
  have hhi := (hB e he).2
  have hbz := hz.2 e he
  refine xRet_of hX pl_X10_leastOf (LE1 rfl) fun V hV => rg_X10_leastOf_0 hV I _ _ _ _ _ ⟨⟨by omega, by omega⟩, fun x hx => ?_⟩
  rw [tnN, hlo] at hx
  subst hx
  have hval : ∀ T, -2000000 ≤ sOut G lo T + beyondF s t a T - (sIn G hi T - hi e) ∧ sOut G lo T + beyondF s t a T - (sIn G hi T - hi e) ≤ 2000000 := fun T => by
    have b1 := sOut_bd (S := T) hG.2.2.1 hz.1 hz.out
    have b2 := sIn_bd (S := T) hG.2.2.1 hz.1 hz.in
    have b3 := beyond_bd (s := s) (t := t) (S := T) (by omega) ha
    omega
  refine up_to0 (m := N) (W := fun S => V 12 [(0, xr (1, 0)), (1, xi (i : Int)), (2, xi (s : Int)), (3, xi (t : Int)), (4, xi a), (5, xi (e : Int)), (6, xi (mx (lo e) (fun S => ens G S e) (fun S => sOut G lo S + beyondF s t a S - (sIn G hi S - hi e)) S)), (7, xi (S : Int))] [] (I, xst c) 0 0) ?_ ?_
  · refine rg_X10_leastOf_12 hV I _ _ _ _ _ _ _ ⟨_, ok_setsN hX (d + 2) hG hM hN, ?_⟩
    rintro _ _ ⟨rfl, rfl⟩
    exact ⟨⟨by omega, by omega⟩, ⟨by omega, by omega⟩, fun _ => pvI rfl, fun h => by omega⟩
  · intro S hS ih
    have hS2 : S ≤ 2147483647 := by omega
    have hr : xin (mx (lo e) (fun S => ens G S e) (fun S => sOut G lo S + beyondF s t a S - (sIn G hi S - hi e)) S) := by
      rcases (mx_spec (lo e) (fun S => ens G S e) (fun S => sOut G lo S + beyondF s t a S - (sIn G hi S - hi e)) S).2.2 with h1 | ⟨T, -, -, h1⟩
      · rw [h1]; constructor <;> omega
      · rw [h1]; have := hval T; constructor <;> omega
    have hvS := hval S
    rw [mx] at ih
    refine rg_X10_leastOf_12 hV I _ _ _ _ _ _ _ ⟨_, ok_setsN hX (d + 2) hG hM hN, ?_⟩
    rintro _ _ ⟨rfl, rfl⟩
    refine ⟨⟨by omega, by omega⟩, ⟨by omega, by omega⟩, fun h => by omega, fun _ => ⟨_, ok_enters hX (d + 1) hG hM he hS2, ?_⟩⟩
    rintro _ _ ⟨rfl, rfl⟩
    refine ⟨fun w => by rw [if_neg (by rw [w]; decide)] at ih; exact ih, fun w => ⟨_, ok_leastOut hX d hG hM hB hS2, ?_⟩⟩
    rw [if_pos w] at ih
    rintro _ _ ⟨rfl, rfl⟩
    refine ⟨_, ok_beyond hX (d + 1) hS2 hs ht, ?_⟩
    rintro _ _ ⟨rfl, rfl⟩
    refine ⟨_, ok_mostIn hX d hG hM hB hS2, ?_⟩
    rintro _ _ ⟨rfl, rfl⟩
    rw [tnN, hhi]
    refine ⟨⟨by omega, by omega⟩, _, ok_max hX (d + 2) hr ⟨by omega, by omega⟩, ?_⟩
    rintro _ _ ⟨rfl, rfl⟩
    exact ih
end MF
