/-! sets of least sum: the class keeps them as it looks, the reference adds them up -/
theorem v_pow {n : Nat} (hn : n ≤ 8) : v_ishl 1 (n : Int) = ((2 ^ n : Nat) : Int) := by
  have := pow2_le8 hn
  rw [show (1 : Int) = ((1 : Nat) : Int) from rfl, v_shl_nat (by omega) (by omega), Nat.one_mul]
def andF (q : Nat → Bool) : Nat → Nat
  | 0 => 255
  | n + 1 => if q n then andF q n &&& n else andF q n
def orF (q : Nat → Bool) : Nat → Nat
  | 0 => 0
  | n + 1 => if q n then orF q n ||| n else orF q n
def cntF (q : Nat → Bool) : Nat → Nat
  | 0 => 0
  | n + 1 => if q n then cntF q n + 1 else cntF q n
theorem andF_le (q : Nat → Bool) (n : Nat) : andF q n ≤ 255 := by
  induction n with
  | zero => exact Nat.le_refl _
  | succ n ih =>
    rw [andF]
    split
    · exact Nat.le_trans Nat.and_le_left ih
    · exact ih
theorem orF_lt (q : Nat → Bool) {n : Nat} (hn : n ≤ 256) : orF q n < 2 ^ 8 := by
  induction n with
  | zero => exact Nat.two_pow_pos 8
  | succ n ih =>
    have ih := ih (by omega)
    rw [orF]
    split
    · exact Nat.or_lt_two_pow ih (by omega)
    · exact ih
theorem cntF_le (q : Nat → Bool) (n : Nat) : cntF q n ≤ n := by
  induction n with
  | zero => exact Nat.le_refl _
  | succ n ih => rw [cntF]; split <;> omega
theorem andF_none {q : Nat → Bool} {n : Nat} (h : ∀ S, S < n → q S = false) : andF q n = 255 := by
  induction n with
  | zero => rfl
  | succ n ih => rw [andF, h n (by omega), if_neg (by decide)]; exact ih fun S hS => h S (by omega)
theorem orF_none {q : Nat → Bool} {n : Nat} (h : ∀ S, S < n → q S = false) : orF q n = 0 := by
  induction n with
  | zero => rfl
  | succ n ih => rw [orF, h n (by omega), if_neg (by decide)]; exact ih fun S hS => h S (by omega)
theorem cntF_none {q : Nat → Bool} {n : Nat} (h : ∀ S, S < n → q S = false) : cntF q n = 0 := by
  induction n with
  | zero => rfl
  | succ n ih => rw [cntF, h n (by omega), if_neg (by decide)]; exact ih fun S hS => h S (by omega)
theorem and_255 {n : Nat} (h : n < 256) : 255 &&& n = n := by
  have := Nat.and_two_pow_sub_one_of_lt_two_pow (n := 8) (x := n) (by omega)
  rw [Nat.and_comm]; exact this
/-- as the class does it: (least, near, far, many) -/
def flS (p : Nat → Bool) (f : Nat → Int) : Nat → Int × Nat × Nat × Nat
  | 0 => (0, 0, 0, 0)
  | n + 1 => if p n then (if (flS p f n).2.2.2 = 0 ∨ f n < (flS p f n).1 then (f n, n, n, 1) else if f n = (flS p f n).1 then ((flS p f n).1, (flS p f n).2.1 &&& n, (flS p f n).2.2.1 ||| n, (flS p f n).2.2.2 + 1) else flS p f n) else flS p f n
def eqQ (p : Nat → Bool) (f : Nat → Int) (a : Int) (S : Nat) : Bool := p S && decide (f S = a)
theorem flS_spec {p : Nat → Bool} {f : Nat → Int} {n : Nat} (hn : n ≤ 256) : (flS p f n = (0, 0, 0, 0) ∧ ∀ S, S < n → p S = false) ∨ (0 < (flS p f n).2.2.2 ∧ (∃ S, S < n ∧ p S = true ∧ f S = (flS p f n).1) ∧ (∀ S, S < n → p S = true → (flS p f n).1 ≤ f S) ∧ (flS p f n).2.1 = andF (eqQ p f (flS p f n).1) n ∧ (flS p f n).2.2.1 = orF (eqQ p f (flS p f n).1) n ∧ (flS p f n).2.2.2 = cntF (eqQ p f (flS p f n).1) n) := by
  induction n with
  | zero => exact Or.inl ⟨rfl, fun S hS => by omega⟩
  | succ n ih =>
    have ih := ih (by omega)
    rw [flS]
    by_cases hp : p n = true
    · rw [if_pos hp]
      have one : (∀ S, S < n → p S = true → f n < f S) → (0 < ((f n, n, n, 1) : Int × Nat × Nat × Nat).2.2.2 ∧ (∃ S, S < n + 1 ∧ p S = true ∧ f S = f n) ∧ (∀ S, S < n + 1 → p S = true → f n ≤ f S) ∧ n = andF (eqQ p f (f n)) (n + 1) ∧ n = orF (eqQ p f (f n)) (n + 1) ∧ 1 = cntF (eqQ p f (f n)) (n + 1)) := fun hno => by
        have hq : ∀ S, S < n → eqQ p f (f n) S = false := fun S hS => by
          unfold eqQ
          cases hpS : p S
          · rfl
          · have := hno S hS hpS
            rw [Bool.true_and]
            exact decide_eq_false (by omega)
        have hqn : eqQ p f (f n) n = true := by unfold eqQ; rw [hp]; simp
        refine ⟨Nat.one_pos, ⟨n, by omega, hp, rfl⟩, fun S hS hpS => ?_, ?_, ?_, ?_⟩
        · by_cases hS2 : S = n
          · rw [hS2]; exact Int.le_refl _
          · have := hno S (by omega) hpS; omega
        · rw [andF, if_pos hqn, andF_none hq, and_255 (by omega)]
        · rw [orF, if_pos hqn, orF_none hq, Nat.zero_or]
        · rw [cntF, if_pos hqn, cntF_none hq]
      rcases ih with ⟨h1, h2⟩ | ⟨h1, ⟨S, h2, h3, h4⟩, h5, h6, h7, h8⟩
      · rw [if_pos (Or.inl (by rw [h1]))]
        exact Or.inr (one fun S hS hpS => by rw [h2 S hS] at hpS; cases hpS)
      · by_cases hlt : f n < (flS p f n).1
        · rw [if_pos (Or.inr hlt)]
          exact Or.inr (one fun S hS hpS => by have := h5 S hS hpS; omega)
        · rw [if_neg (by rintro (z | z); omega; exact hlt z)]
          right
          by_cases heq : f n = (flS p f n).1
          · rw [if_pos heq]
            have hqn : eqQ p f (flS p f n).1 n = true := by unfold eqQ; rw [hp, heq]; simp
            refine ⟨Nat.succ_pos _, ⟨S, by omega, h3, h4⟩, fun T hT hpT => ?_, ?_, ?_, ?_⟩
            · by_cases hT2 : T = n
              · subst hT2; dsimp only; omega
              · exact h5 T (by omega) hpT
            · dsimp only; rw [andF, if_pos hqn, ← h6]
            · dsimp only; rw [orF, if_pos hqn, ← h7]
            · dsimp only; rw [cntF, if_pos hqn, ← h8]
          · rw [if_neg heq]
            have hqn : ¬ eqQ p f (flS p f n).1 n = true := by unfold eqQ; rw [hp]; simpa using heq
            refine ⟨h1, ⟨S, by omega, h3, h4⟩, fun T hT hpT => ?_, ?_, ?_, ?_⟩
            · by_cases hT2 : T = n
              · subst hT2; omega
              · exact h5 T (by omega) hpT
            · rw [andF, if_neg hqn, ← h6]
            · rw [orF, if_neg hqn, ← h7]
            · rw [cntF, if_neg hqn, ← h8]
    · rw [if_neg hp]
      have hqn : ∀ a, ¬ eqQ p f a n = true := fun a => by unfold eqQ; simp [hp]
      rcases ih with ⟨h1, h2⟩ | ⟨h1, ⟨S, h2, h3, h4⟩, h5, h6, h7, h8⟩
      · refine Or.inl ⟨h1, fun S hS => ?_⟩
        by_cases hS2 : S = n
        · rw [hS2]; simpa using hp
        · exact h2 S (by omega)
      · refine Or.inr ⟨h1, ⟨S, by omega, h3, h4⟩, fun T hT hpT => ?_, ?_, ?_, ?_⟩
        · by_cases hT2 : T = n
          · subst hT2; contradiction
          · exact h5 T (by omega) hpT
        · rw [andF, if_neg (hqn _), ← h6]
        · rw [orF, if_neg (hqn _), ← h7]
        · rw [cntF, if_neg (hqn _), ← h8]
theorem flS_bd {p : Nat → Bool} {f : Nat → Int} {n : Nat} (hn : n ≤ 256) : (flS p f n).2.1 ≤ 255 ∧ (flS p f n).2.2.1 < 2 ^ 8 ∧ (flS p f n).2.2.2 ≤ 256 := by
  rcases flS_spec (p := p) (f := f) hn with ⟨h, -⟩ | ⟨-, -, -, h6, h7, h8⟩
  · rw [h]; exact ⟨by decide, by decide, by decide⟩
  · rw [h6, h7, h8]
    exact ⟨andF_le _ _, orF_lt _ hn, Nat.le_trans (cntF_le _ _) hn⟩
theorem flS_in {p : Nat → Bool} {f : Nat → Int} {n : Nat} (hn : n ≤ 256) {z : Int} (hz : 0 ≤ z) (hf : ∀ S, -z ≤ f S ∧ f S ≤ z) : -z ≤ (flS p f n).1 ∧ (flS p f n).1 ≤ z := by
  rcases flS_spec (p := p) (f := f) hn with ⟨h, -⟩ | ⟨-, ⟨S, -, -, h⟩, -⟩
  · rw [h]; dsimp only; omega
  · rw [← h]; exact hf S
theorem cutV_bd {G : Gr} (hG : G.m ≤ 16) {lo hi : Nat → Int} (h : ∀ e, e < G.m → (-100 ≤ lo e ∧ lo e ≤ 100) ∧ (-100 ≤ hi e ∧ hi e ≤ 100)) (S : Nat) : -3200 ≤ cutV G lo hi S ∧ cutV G lo hi S ≤ 3200 := by
  have b1 := sOut_bd (S := S) hG (by decide : (0 : Int) ≤ 100) (fun e he => (h e he).2)
  have b2 := sIn_bd (S := S) hG (by decide : (0 : Int) ≤ 100) (fun e he => (h e he).1)
  unfold cutV
  omega
theorem cutV_cong {G : Gr} {lo hi lo9 hi9 : Nat → Int} (h1 : ∀ k, k < G.m → lo k = lo9 k) (h2 : ∀ k, k < G.m → hi k = hi9 k) : cutV G lo hi = cutV G lo9 hi9 := by
  funext S
  unfold cutV
  rw [sOut_cong h2, sIn_cong h1]
theorem crowdP_cong {G : Gr} {lo hi lo9 hi9 : Nat → Int} {s t : Nat} (h1 : ∀ k, k < G.m → lo k = lo9 k) (h2 : ∀ k, k < G.m → hi k = hi9 k) : crowdP G lo hi s t = crowdP G lo9 hi9 s t := by
  funext S
  unfold crowdP
  rw [sOut_cong h1, sIn_cong h2]
theorem amountF_mn {G : Gr} {lo hi : Nat → Int} {s t : Nat} (h : amountF G lo hi s t ≠ NONE9) : amountF G lo hi s t = mn NONE9 (btw s t) (cutV G lo hi) (2 ^ G.n) := by
  unfold amountF at h ⊢
  by_cases h2 : 0 ≤ ff (crowdP G lo hi s t) (2 ^ G.n)
  · rw [if_pos h2] at h; exact absurd rfl h
  · rw [if_neg h2]
/-- the sets of the least sum, as the class keeps them -/
theorem flS_amount {G : Gr} (hn : G.n ≤ 8) (hm : G.m ≤ 16) {lo hi : Nat → Int} {s t : Nat} (hb : ∀ e, e < G.m → (-100 ≤ lo e ∧ lo e ≤ 100) ∧ (-100 ≤ hi e ∧ hi e ≤ 100)) (h : amountF G lo hi s t ≠ NONE9) : (flS (btw s t) (cutV G lo hi) (2 ^ G.n)).1 = amountF G lo hi s t ∧ (flS (btw s t) (cutV G lo hi) (2 ^ G.n)).2.1 = andF (eqQ (btw s t) (cutV G lo hi) (amountF G lo hi s t)) (2 ^ G.n) ∧ (flS (btw s t) (cutV G lo hi) (2 ^ G.n)).2.2.1 = orF (eqQ (btw s t) (cutV G lo hi) (amountF G lo hi s t)) (2 ^ G.n) ∧ (flS (btw s t) (cutV G lo hi) (2 ^ G.n)).2.2.2 = cntF (eqQ (btw s t) (cutV G lo hi) (amountF G lo hi s t)) (2 ^ G.n) := by
  have h1 := amountF_mn h
  have hN9 : NONE9 = -1000000 := rfl
  have hm9 := mn_spec (none := NONE9) (p := btw s t) (f := cutV G lo hi) (n := 2 ^ G.n) (fun S _ => by have := cutV_bd hm hb S; omega)
  rw [← h1] at hm9
  rcases hm9 with ⟨z, -⟩ | ⟨-, ⟨S, a1, a2, a3⟩, a4⟩
  · exact absurd z h
  · rcases flS_spec (p := btw s t) (f := cutV G lo hi) (pow2_le8 hn) with ⟨-, z⟩ | ⟨-, ⟨T, b1, b2, b3⟩, b4, b5, b6, b7⟩
    · rw [z S a1] at a2; cases a2
    · have c1 := a4 T b1 b2
      have c2 := b4 S a1 a2
      have c3 : (flS (btw s t) (cutV G lo hi) (2 ^ G.n)).1 = amountF G lo hi s t := by omega
      rw [c3] at b5 b6 b7
      exact ⟨c3, b5, b6, b7⟩
section CU
variable {X : xX} {c : xCx} {I : xIn} {i : Nat} {G : Gr} {s t : Nat}
theorem sOut_0 (G : Gr) (b : Nat → Int) : sOut G b 0 = 0 := sumE_0 fun e he => by unfold lvs; rw [Nat.zero_testBit]; rfl
theorem cu_leastCrowd (hX : xBase X) (d : Nat) (hC : CG I c i G) (hN : NB I i G.m) (hs : s < 32) (ht : t < 32) : xRet rI X m_X0_leastCrowd (d + 2) [xr (0, 15), xr (i + 3, 0), xi (s : Int), xi (t : Int)] c I 0 0 (fun v I9 => kp [(0, 15)] I I9 ∧ v = ff (crowdP G (I (i + 3, 3)) (I (i + 3, 4)) s t) (2 ^ G.n)) xNo := by
  obtain ⟨c1, c2, c3, c4, c5⟩ := id hC
  have hn := c4.2.1
  have g2 := pow2_le8 hn
  have hsh := v_pow hn
  have gp : 0 < 2 ^ G.n := Nat.two_pow_pos _
  generalize hNN : 2 ^ G.n = N at g2 hsh gp ⊢
  refine xRet_of hX pl_X0_leastCrowd (LE1 rfl) fun V hV => rg_X0_leastCrowd_0 hV I _ c1 _ _ ?_
  refine up_to (m := N) (W := fun S => ∀ J : xIn, kp [(0, 15)] I J → (∀ T, T < S → crowdP G (I (i + 3, 3)) (I (i + 3, 4)) s t T = false) → V 3 [(0, xr (0, 15)), (1, xr (i + 3, 0)), (2, xi (s : Int)), (3, xi (t : Int)), (4, xi (S : Int))] [] (J, xst c) 0 0) ?_ ?_ 1 gp I kp.rfl (fun T hT => ?_)
  · intro J hJ hno
    have q : ∀ j, J (i + 3, j) = I (i + 3, j) := fun j => hJ _ (by simp)
    refine rg_X0_leastCrowd_3 hV J _ c1 _ _ _ ⟨⟨by omega, by omega⟩, fun _ => ⟨hJ, (ff_none hno).symm⟩, fun h => ?_⟩
    rw [q, c2, hsh] at h; omega
  · intro S hS ih J hJ hno
    have q : ∀ j, J (i + 3, j) = I (i + 3, j) := fun j => hJ _ (by simp)
    have hS2 : S ≤ 2147483647 := by omega
    have next : crowdP G (I (i + 3, 3)) (I (i + 3, 4)) s t S = false → ∀ T, T < S + 1 → crowdP G (I (i + 3, 3)) (I (i + 3, 4)) s t T = false := fun h T hT => by
      by_cases hTS : T = S
      · rw [hTS]; exact h
      · exact hno T (by omega)
    refine rg_X0_leastCrowd_3 hV J _ c1 _ _ _ ⟨⟨by omega, by omega⟩, fun h => ?_, fun _ => ⟨_, cn_hasBit hX (d + 1) hS2 hs, ?_⟩⟩
    · rw [q, c2, hsh] at h; omega
    rintro _ J ⟨rfl, rfl⟩
    refine ⟨_, cn_hasBit hX (d + 1) hS2 ht, ?_⟩
    rintro _ J ⟨rfl, rfl⟩
    refine ⟨fun hne => ih J hJ (next (by unfold crowdP; rw [beq_eq_false_iff_ne.mpr hne]; rfl)), fun heq => ⟨_, cu_isCrowd hX d (hC.eq q) (hN.eq q) hS2, ?_⟩⟩
    rw [q, q]
    rintro _ J2 ⟨k2, rfl⟩
    refine ⟨fun h => ih J2 (hJ.tr k2) (next ?_), fun h => ⟨hJ.tr k2, (ff_hit hS ?_ hno).symm⟩⟩
    · unfold crowdP; rw [heq, h]; simp
    · unfold crowdP; rw [heq, h]; simp
  · have hT : T = 0 := by omega
    rw [hT]
    unfold crowdP
    rw [sOut_0, show sIn G (I (i + 3, 4)) 0 = 0 from sumE_0 fun e he => by unfold ens; rw [Nat.zero_testBit, Nat.zero_testBit]; rfl]
    simp
theorem cu_findLeast (hX : xBase X) (d : Nat) (hC : CG I c i G) (hN : NB I i G.m) (hs : s < 32) (ht : t < 32) : xRet rU X m_X0_findLeast (d + 2) [xr (0, 15), xr (i + 3, 0), xi (s : Int), xi (t : Int)] c I 0 0 (fun _ I9 => kp [(0, 15)] I I9 ∧ I9 (0, 15) 4 = ((flS (btw s t) (cutV G (I (i + 3, 3)) (I (i + 3, 4))) (2 ^ G.n)).2.1 : Nat) ∧ I9 (0, 15) 5 = ((flS (btw s t) (cutV G (I (i + 3, 3)) (I (i + 3, 4))) (2 ^ G.n)).2.2.1 : Nat) ∧ I9 (0, 15) 6 = ((flS (btw s t) (cutV G (I (i + 3, 3)) (I (i + 3, 4))) (2 ^ G.n)).2.2.2 : Nat)) xNo := by
  obtain ⟨c1, c2, c3, c4, c5⟩ := id hC
  have hn := c4.2.1
  have g2 := pow2_le8 hn
  have hsh := v_pow hn
  have hcb : ∀ S, -3200 ≤ cutV G (I (i + 3, 3)) (I (i + 3, 4)) S ∧ cutV G (I (i + 3, 3)) (I (i + 3, 4)) S ≤ 3200 := cutV_bd c4.2.2.1 fun e he => by have := hN e he; omega
  generalize hNN : 2 ^ G.n = N at g2 hsh ⊢
  refine xRet_of hX pl_X0_findLeast (LE1 rfl) fun V hV => rg_X0_findLeast_0 hV I _ c1 _ _ ?_
  rintro I1 h1 I2 h2 I3 h3
  have k3 : kp [(0, 15)] I I3 := by rw [h3, h2, h1]; exact ((kp.rfl.xu (by simp)).xu (by simp)).xu (by simp)
  have z4 : I3 (0, 15) 4 = ((0 : Nat) : Int) := by rw [h3, xu_k (by decide), h2, xu_k (by decide), h1, xu_same]; rfl
  have z5 : I3 (0, 15) 5 = ((0 : Nat) : Int) := by rw [h3, xu_k (by decide), h2, xu_same]; rfl
  have z6 : I3 (0, 15) 6 = ((0 : Nat) : Int) := by rw [h3, xu_same]; rfl
  clear h1 h2 h3
  refine up_to0 (m := N) (W := fun S => ∀ J : xIn, kp [(0, 15)] I J → J (0, 15) 4 = ((flS (btw s t) (cutV G (I (i + 3, 3)) (I (i + 3, 4))) S).2.1 : Nat) → J (0, 15) 5 = ((flS (btw s t) (cutV G (I (i + 3, 3)) (I (i + 3, 4))) S).2.2.1 : Nat) → J (0, 15) 6 = ((flS (btw s t) (cutV G (I (i + 3, 3)) (I (i + 3, 4))) S).2.2.2 : Nat) → V 21 [(0, xr (0, 15)), (1, xr (i + 3, 0)), (2, xi (s : Int)), (3, xi (t : Int)), (4, xi (flS (btw s t) (cutV G (I (i + 3, 3)) (I (i + 3, 4))) S).1), (5, xi (S : Int))] [] (J, xst c) 0 0) ?_ ?_ I3 k3 z4 z5 z6
  · intro J hJ j4 j5 j6
    have q : ∀ j, J (i + 3, j) = I (i + 3, j) := fun j => hJ _ (by simp)
    refine rg_X0_findLeast_21 hV J _ c1 _ _ _ _ ⟨⟨by omega, by omega⟩, fun _ => ⟨hJ, j4, j5, j6⟩, fun h => ?_⟩
    rw [q, c2, hsh] at h; omega
  · intro S hS ih J hJ j4 j5 j6
    have q : ∀ j, J (i + 3, j) = I (i + 3, j) := fun j => hJ _ (by simp)
    have hS2 : S ≤ 2147483647 := by omega
    have hcS := hcb S
    have hbd := flS_bd (p := btw s t) (f := cutV G (I (i + 3, 3)) (I (i + 3, 4))) (n := S) (by omega)
    have hin := flS_in (p := btw s t) (f := cutV G (I (i + 3, 3)) (I (i + 3, 4))) (n := S) (by omega) (by decide) hcb
    rw [flS] at ih
    generalize flS (btw s t) (cutV G (I (i + 3, 3)) (I (i + 3, 4))) S = F at ih j4 j5 j6 hbd hin ⊢
    refine rg_X0_findLeast_21 hV J _ c1 _ _ _ _ ⟨⟨by omega, by omega⟩, fun h => ?_, fun _ => ⟨_, cn_hasOneOf hX d hS2 hs ht, ?_⟩⟩
    · rw [q, c2, hsh] at h; omega
    rintro _ J ⟨rfl, rfl⟩
    refine ⟨fun z => by rw [if_neg (by rw [z]; decide)] at ih; exact ih J hJ j4 j5 j6, fun z => ⟨_, cu_sumOfCut hX (d) (hC.eq q) (hN.eq q) hS2, ?_⟩⟩
    rw [if_pos z] at ih
    rw [q, q]
    rintro _ J2 ⟨k2, kj, rfl⟩
    have r4 : J2 (0, 15) 4 = (F.2.1 : Nat) := (kj 4 (by decide)).trans j4
    have r5 : J2 (0, 15) 5 = (F.2.2.1 : Nat) := (kj 5 (by decide)).trans j5
    have r6 : J2 (0, 15) 6 = (F.2.2.2 : Nat) := (kj 6 (by decide)).trans j6
    have kJ := hJ.tr k2
    have new : (F.2.2.2 = 0 ∨ cutV G (I (i + 3, 3)) (I (i + 3, 4)) S < F.1) → ∀ I14 : xIn, I14 = xu J2 (0, 15) 4 (S : Int) → ∀ I16 : xIn, I16 = xu I14 (0, 15) 5 (S : Int) → ∀ I18 : xIn, I18 = xu I16 (0, 15) 6 1 → V 21 [(0, xr (0, 15)), (1, xr (i + 3, 0)), (2, xi (s : Int)), (3, xi (t : Int)), (4, xi (cutV G (I (i + 3, 3)) (I (i + 3, 4)) S)), (5, xi ((S : Int) + 1))] [] (I18, xst c) 0 0 := by
      rintro hor I14 e14 I16 e16 I18 e18
      rw [if_pos hor] at ih
      refine ih I18 (by rw [e18, e16, e14]; exact ((kJ.xu (by simp)).xu (by simp)).xu (by simp)) ?_ ?_ ?_
      · rw [e18, xu_k (by decide), e16, xu_k (by decide), e14, xu_same]
      · rw [e18, xu_k (by decide), e16, xu_same]
      · rw [e18, xu_same]; rfl
    refine ⟨fun h => new (Or.inl (by omega)), fun h => ⟨⟨by omega, by omega⟩, ⟨by omega, by omega⟩, fun h2 => ⟨fun h3 => ?_, fun h3 => ?_⟩, fun h2 => new (Or.inr h2)⟩⟩
    · rw [if_neg (by rintro (w | w) <;> omega), if_neg h3] at ih
      exact ih J2 kJ r4 r5 r6
    · rw [if_neg (by rintro (w | w) <;> omega), if_pos h3] at ih
      rintro I14 e14 I16 e16
      have f6 : I16 (0, 15) 6 = (F.2.2.2 : Nat) := by rw [e16, xu_k (by decide), e14, xu_k (by decide)]; exact r6
      refine ⟨⟨by omega, by omega⟩, ?_⟩
      rintro I18 e18
      refine ih I18 (by rw [e18, e16, e14]; exact ((kJ.xu (by simp)).xu (by simp)).xu (by simp)) ?_ ?_ ?_
      · rw [e18, xu_k (by decide), e16, xu_k (by decide), e14, xu_same, r4, v_and_nat (by omega)]
      · rw [e18, xu_k (by decide), e16, xu_same, e14, xu_k (by decide), r5, v_or_nat (by omega) (by omega)]
      · rw [e18, xu_same, f6]; rfl
end CU
/-! answers of cut, cuts, cutSum -/
def cutQ (G : Gr) (lo hi : Nat → Int) (s t : Nat) : Nat → Bool := eqQ (btw s t) (cutV G lo hi) (amountF G lo hi s t)
def cutG (G : Gr) (lo hi : Nat → Int) (s t : Nat) (far : Bool) : Int × Int := if amountF G lo hi s t = NONE9 then (0, 3) else (((if far then orF (cutQ G lo hi s t) (2 ^ G.n) else andF (cutQ G lo hi s t) (2 ^ G.n)) : Nat), 0)
def cutA (T : NT) (a s t : Int) (far : Bool) : Int × Int := wE 0 (wrongT T a s t) (cutG (T.G (Int.toNat a)) (T.lo (Int.toNat a)) (T.hi (Int.toNat a)) (Int.toNat s) (Int.toNat t) far)
def cutsG (G : Gr) (lo hi : Nat → Int) (s t : Nat) : Int × Int := if amountF G lo hi s t = NONE9 then (0, 3) else ((cntF (cutQ G lo hi s t) (2 ^ G.n) : Nat), 0)
def cutsA (T : NT) (a s t : Int) : Int × Int := wE 0 (wrongT T a s t) (cutsG (T.G (Int.toNat a)) (T.lo (Int.toNat a)) (T.hi (Int.toNat a)) (Int.toNat s) (Int.toNat t))
def cutSumG (G : Gr) (lo hi : Nat → Int) (s t : Nat) (S : Int) : Int × Int := if 0 ≤ S ∧ S < ((2 ^ G.n : Nat) : Int) ∧ btw s t (Int.toNat S) = true then (cutV G lo hi (Int.toNat S), 0) else (0, 2)
def cutSumA (T : NT) (a s t S : Int) : Int × Int := wE 0 (wrongT T a s t) (cutSumG (T.G (Int.toNat a)) (T.lo (Int.toNat a)) (T.hi (Int.toNat a)) (Int.toNat s) (Int.toNat t) S)
section CUA
variable {X : xX} {c : xCx} {I : xIn} {T : NT} {a s t : Int}
theorem CI.lo {T : NT} {I : xIn} {c : xCx} (hI : CI I c T) {i : Nat} (hi : i < T.N) : ∀ k, k < (T.G i).m → I (i + 3, 3) k = T.lo i k := fun k hk => ((hI.2.2 i hi).2.1 k hk).1
theorem CI.hi {T : NT} {I : xIn} {c : xCx} (hI : CI I c T) {i : Nat} (hi : i < T.N) : ∀ k, k < (T.G i).m → I (i + 3, 4) k = T.hi i k := fun k hk => ((hI.2.2 i hi).2.1 k hk).2.1
theorem CI.co {T : NT} {I : xIn} {c : xCx} (hI : CI I c T) {i : Nat} (hi : i < T.N) : ∀ k, k < (T.G i).m → I (i + 3, 5) k = T.co i k := fun k hk => ((hI.2.2 i hi).2.1 k hk).2.2
theorem NTok.b100 {T : NT} (hT : NTok T) {i : Nat} (hi : i < T.N) : ∀ e, e < (T.G i).m → (-100 ≤ T.lo i e ∧ T.lo i e ≤ 100) ∧ (-100 ≤ T.hi i e ∧ T.hi i e ≤ 100) := fun e he => by
  have := ((hT.2 i hi).2.1 e he).1
  omega
theorem cn_crowd (hX : xBase X) (d : Nat) (hT : NTok T) (hI : CI I c T) (ha : xin a) (hs : xin s) (ht : xin t) : xRet rI X m_X9_crowd (d + 9) [xr (0, 0), xi a, xi s, xi t] c I 3 18 (fun v I9 => keepC I I9 ∧ (v, 0) = crowdV T a s t) (fun e I9 => keepC I I9 ∧ exN e (crowdV T a s t).2) := by
  have hcv : crowdV T a s t = wE 0 (wrongT T a s t) (if ff (crowdP (T.G (Int.toNat a)) (T.lo (Int.toNat a)) (T.hi (Int.toNat a)) (Int.toNat s) (Int.toNat t)) (2 ^ (T.G (Int.toNat a)).n) = -1 then (0, 3) else (ff (crowdP (T.G (Int.toNat a)) (T.lo (Int.toNat a)) (T.hi (Int.toNat a)) (Int.toNat s) (Int.toNat t)) (2 ^ (T.G (Int.toNat a)).n), 0)) := rfl
  rw [hcv]
  refine xRet_of hX pl_X9_crowd (LE1 rfl) fun V hV => rg_X9_crowd_0 hV I _ _ _ (go_ends hX (d + 1) hT hI ha hs ht (fun x hx hw => ⟨keepC.id9, by rw [wE_p hw]; exact hx⟩) ?_)
  rintro i s t rfl rfl rfl hi hC hs9 ht9 hst hw
  rw [wE_0 hw, tnN, tnN, tnN, ← crowdP_cong (hI.lo hi) (hI.hi hi)]
  have hn := hC.2.2.2.1.2.1
  refine ⟨_, cu_leastCrowd hX (d + 6) hC (hI.nb hT hi) (by omega) (by omega), ?_⟩
  rintro v J ⟨k1, rfl⟩
  have hff := ff_cases (crowdP (T.G i) (I (i + 3, 3)) (I (i + 3, 4)) s t) (2 ^ (T.G i).n)
  have g2 := pow2_le8 hn
  generalize ff (crowdP (T.G i) (I (i + 3, 3)) (I (i + 3, 4)) s t) (2 ^ (T.G i).n) = R at hff ⊢
  generalize 2 ^ (T.G i).n = N at g2 hff
  refine ⟨by rcases hff with ⟨h1, -⟩ | ⟨S, h1, h2, -⟩ <;> constructor <;> omega, fun h => ⟨k1.C (by decide), by rw [if_neg h]⟩, fun h => ⟨k1.C (by decide), by rw [if_pos h]; exact Or.inr (Or.inr ⟨rfl, rfl⟩)⟩⟩
theorem cn_cut (hX : xBase X) (d : Nat) (hT : NTok T) (hI : CI I c T) (ha : xin a) (hs : xin s) (ht : xin t) (far : Bool) : xRet rI X m_X9_cut (d + 9) [xr (0, 0), xi a, xi s, xi t, xi (xbi far)] c I 3 18 (fun v I9 => keepC I I9 ∧ (v, 0) = cutA T a s t far) (fun e I9 => keepC I I9 ∧ exN e (cutA T a s t far).2) := by
  unfold cutA
  refine xRet_of hX pl_X9_cut (LE1 rfl) fun V hV => rg_X9_cut_0 hV I _ _ _ _ (go_ends hX (d + 1) hT hI ha hs ht (fun x hx hw => ⟨keepC.id9, by rw [wE_p hw]; exact hx⟩) ?_)
  rintro i s t rfl rfl rfl hi hC hs9 ht9 hst hw
  rw [wE_0 hw, tnN, tnN, tnN]
  have hn := hC.2.2.2.1.2.1
  have hcg : amountF (T.G i) (I (i + 3, 3)) (I (i + 3, 4)) s t = amountF (T.G i) (T.lo i) (T.hi i) s t := amountF_cong (hI.lo hi) (hI.hi hi)
  refine ⟨_, _, cn_greatest hX d hC (hI.nb hT hi) hs9 ht9 hst, ?_, ?_⟩
  · rintro e J ⟨rfl, k1, k2⟩
    rw [hcg] at k2
    exact ⟨k1.C, by unfold cutG; rw [if_pos k2]; exact Or.inr (Or.inr ⟨rfl, rfl⟩)⟩
  · rintro v J ⟨k1, k2, k3, -⟩
    have hI2 := hI.keep k1.C
    have q : ∀ j, J (i + 3, j) = I (i + 3, j) := fun j => k1 _ (by simp)
    rw [k2, hcg] at k3
    refine ⟨_, cu_findLeast hX (d + 6) (hC.eq q) (hI2.nb hT hi) (by omega) (by omega), ?_⟩
    rintro _ J2 ⟨a1, a2, a3, -⟩
    rw [cutV_cong (hI2.lo hi) (hI2.hi hi)] at a2 a3
    obtain ⟨-, b2, b3, -⟩ := flS_amount hn hC.2.2.2.1.2.2.1 (hT.b100 hi) k3
    rw [b2] at a2
    rw [b3] at a3
    have kk := k1.C.tr (a1.C (by decide))
    refine ⟨fun z => ⟨kk, ?_⟩, fun z => ⟨kk, ?_⟩⟩
    · unfold cutG cutQ; rw [if_neg k3, a2, z]; rfl
    · unfold cutG cutQ; rw [if_neg k3, a3, z]; rfl
theorem cn_cuts (hX : xBase X) (d : Nat) (hT : NTok T) (hI : CI I c T) (ha : xin a) (hs : xin s) (ht : xin t) : xRet rI X m_X9_cuts (d + 9) [xr (0, 0), xi a, xi s, xi t] c I 3 18 (fun v I9 => keepC I I9 ∧ (v, 0) = cutsA T a s t) (fun e I9 => keepC I I9 ∧ exN e (cutsA T a s t).2) := by
  unfold cutsA
  refine xRet_of hX pl_X9_cuts (LE1 rfl) fun V hV => rg_X9_cuts_0 hV I _ _ _ (go_ends hX (d + 1) hT hI ha hs ht (fun x hx hw => ⟨keepC.id9, by rw [wE_p hw]; exact hx⟩) ?_)
  rintro i s t rfl rfl rfl hi hC hs9 ht9 hst hw
  rw [wE_0 hw, tnN, tnN, tnN]
  have hn := hC.2.2.2.1.2.1
  have hcg : amountF (T.G i) (I (i + 3, 3)) (I (i + 3, 4)) s t = amountF (T.G i) (T.lo i) (T.hi i) s t := amountF_cong (hI.lo hi) (hI.hi hi)
  refine ⟨_, _, cn_greatest hX d hC (hI.nb hT hi) hs9 ht9 hst, ?_, ?_⟩
  · rintro e J ⟨rfl, k1, k2⟩
    rw [hcg] at k2
    exact ⟨k1.C, by unfold cutsG; rw [if_pos k2]; exact Or.inr (Or.inr ⟨rfl, rfl⟩)⟩
  · rintro v J ⟨k1, k2, k3, -⟩
    have hI2 := hI.keep k1.C
    have q : ∀ j, J (i + 3, j) = I (i + 3, j) := fun j => k1 _ (by simp)
    rw [k2, hcg] at k3
    refine ⟨_, cu_findLeast hX (d + 6) (hC.eq q) (hI2.nb hT hi) (by omega) (by omega), ?_⟩
    rintro _ J2 ⟨a1, -, -, a4⟩
    rw [cutV_cong (hI2.lo hi) (hI2.hi hi)] at a4
    obtain ⟨-, -, -, b4⟩ := flS_amount hn hC.2.2.2.1.2.2.1 (hT.b100 hi) k3
    rw [b4] at a4
    refine ⟨k1.C.tr (a1.C (by decide)), ?_⟩
    unfold cutsG cutQ; rw [if_neg k3, a4]
theorem cn_cutSum (hX : xBase X) (d : Nat) (hT : NTok T) (hI : CI I c T) (ha : xin a) (hs : xin s) (ht : xin t) {S : Int} (hS : xin S) : xRet rI X m_X9_cutSum (d + 9) [xr (0, 0), xi a, xi s, xi t, xi S] c I 3 18 (fun v I9 => keepC I I9 ∧ (v, 0) = cutSumA T a s t S) (fun e I9 => keepC I I9 ∧ exN e (cutSumA T a s t S).2) := by
  unfold cutSumA
  refine xRet_of hX pl_X9_cutSum (LE1 rfl) fun V hV => rg_X9_cutSum_0 hV I _ _ _ _ (go_ends hX (d + 1) hT hI ha hs ht (fun x hx hw => ⟨keepC.id9, by rw [wE_p hw]; exact hx⟩) ?_)
  rintro i s t rfl rfl rfl hi hC hs9 ht9 hst hw
  rw [wE_0 hw, tnN, tnN, tnN, hC.2.1, v_pow hC.2.2.2.1.2.1]
  have hn := hC.2.2.2.1.2.1
  have g2 := pow2_le8 hn
  unfold cutSumG
  generalize 2 ^ (T.G i).n = N at g2 ⊢
  have no : ¬ (0 ≤ S ∧ S < (N : Int) ∧ btw s t (Int.toNat S) = true) → keepC I I ∧ exN "java/lang/IllegalArgumentException" (if 0 ≤ S ∧ S < (N : Int) ∧ btw s t (Int.toNat S) = true then (cutV (T.G i) (T.lo i) (T.hi i) (Int.toNat S), (0 : Int)) else (0, 2)).2 := fun h => ⟨keepC.id9, by rw [if_neg h]; exact Or.inr (Or.inl ⟨rfl, rfl⟩)⟩
  refine ⟨hS, fun h => no (by omega), fun h => ⟨fun h2 => no (by omega), fun h2 => ?_⟩⟩
  obtain ⟨S, rfl⟩ := Int.eq_ofNat_of_zero_le h
  rw [tnN] at no ⊢
  have hS2 : S ≤ 2147483647 := by omega
  refine ⟨_, cn_hasOneOf hX (d + 7) hS2 (by omega) (by omega), ?_⟩
  rintro _ J ⟨rfl, rfl⟩
  refine ⟨fun z => ⟨_, cu_sumOfCut hX (d + 7) hC (hI.nb hT hi) hS2, ?_⟩, fun z => no (by rw [z]; simp)⟩
  rintro v J2 ⟨a1, -, rfl⟩
  exact ⟨a1.C (by decide), by rw [if_pos ⟨h, h2, z⟩, cutV_cong (hI.lo hi) (hI.hi hi)]⟩
end CUA
