/-! ways through a net without some corners, and the fewest corners that part two -/
def passP (G : Gr) (us : Nat → Bool) (Z R : Nat) : Nat → Nat
  | 0 => R
  | k + 1 => if us k && (passP G us Z R k).testBit (G.u k) && !Z.testBit (G.v k) then passP G us Z R k ||| 2 ^ G.v k else passP G us Z R k
def rchN (G : Gr) (us : Nat → Bool) (Z R : Nat) : Nat → Nat
  | 0 => R
  | j + 1 => passP G us Z (rchN G us Z R j) G.m
theorem passP_s (G : Gr) (us : Nat → Bool) (Z R k : Nat) : passP G us Z R (k + 1) = if us k && (passP G us Z R k).testBit (G.u k) && !Z.testBit (G.v k) then passP G us Z R k ||| 2 ^ G.v k else passP G us Z R k := rfl
theorem passP_lt {G : Gr} (hG : GrOK G) (us : Nat → Bool) (Z : Nat) {R : Nat} (hR : R < 256) : ∀ k, k ≤ G.m → passP G us Z R k < 256 := by
  intro k
  induction k with
  | zero => exact fun _ => hR
  | succ k ih =>
    intro hk
    rw [passP_s]
    split
    · have h1 := (hG.2.2.2 k (by omega)).2.1
      have h2 := hG.2.1
      exact Nat.or_lt_two_pow (n := 8) (ih (by omega)) (Nat.pow_lt_pow_right (by decide) (by omega))
    · exact ih (by omega)
theorem rchN_lt {G : Gr} (hG : GrOK G) (us : Nat → Bool) (Z : Nat) {R : Nat} (hR : R < 256) (j : Nat) : rchN G us Z R j < 256 := by
  induction j with
  | zero => exact hR
  | succ j ih => exact passP_lt hG us Z ih G.m (Nat.le_refl _)
theorem passP_cong {G : Gr} {us us9 : Nat → Bool} (h : ∀ e, e < G.m → us e = us9 e) (Z R : Nat) : ∀ k, k ≤ G.m → passP G us Z R k = passP G us9 Z R k := by
  intro k
  induction k with
  | zero => exact fun _ => rfl
  | succ k ih => exact fun hk => by rw [passP_s, passP_s, ih (by omega), h k (by omega)]
theorem rchN_cong {G : Gr} {us us9 : Nat → Bool} (h : ∀ e, e < G.m → us e = us9 e) (Z R j : Nat) : rchN G us Z R j = rchN G us9 Z R j := by
  induction j with
  | zero => rfl
  | succ j ih => rw [rchN, rchN, ih, passP_cong h _ _ _ (Nat.le_refl _)]
theorem rchN_fix {G : Gr} {us : Nat → Bool} {Z R j : Nat} (h : rchN G us Z R (j + 1) = rchN G us Z R j) (i : Nat) : rchN G us Z R (j + i) = rchN G us Z R j := by
  induction i with
  | zero => rfl
  | succ i ih =>
    show passP G us Z (rchN G us Z R (j + i)) G.m = _
    rw [ih]; exact h
def usD (G : Gr) (hi : Nat → Int) (s t e : Nat) : Bool := decide (0 < hi e) && !decide (G.u e = s ∧ G.v e = t)
def dirN (G : Gr) (hi : Nat → Int) (s t k : Nat) : Int := sumE k (fun e => if 0 < hi e ∧ G.u e = s ∧ G.v e = t then 1 else 0)
theorem dirN_s (G : Gr) (hi : Nat → Int) (s t k : Nat) : dirN G hi s t (k + 1) = dirN G hi s t k + (if 0 < hi k ∧ G.u k = s ∧ G.v k = t then 1 else 0) := rfl
theorem dirN_bd (G : Gr) (hi : Nat → Int) (s t k : Nat) : 0 ≤ dirN G hi s t k ∧ dirN G hi s t k ≤ k := by
  have := sumE_bd (n := k) (f := fun e => if 0 < hi e ∧ G.u e = s ∧ G.v e = t then 1 else 0) (a := 0) (b := 1) (fun e he => by split <;> omega)
  unfold dirN
  omega
def prtP (G : Gr) (us : Nat → Bool) (s t S : Nat) : Bool := !S.testBit s && (!S.testBit t && !(rchN G us S (2 ^ s) G.n).testBit t)
def cA (p : Nat → Bool) : Nat → Nat × Nat
  | 0 => (0, 9)
  | n + 1 => if pc8 n < (cA p n).2 ∧ p n = true then (n, pc8 n) else cA p n
def mA (p : Nat → Bool) : Nat → Int
  | 0 => -1
  | n + 1 => if p n = true ∧ (mA p n < 0 ∨ pc8 n < pc8 (Int.toNat (mA p n))) then (n : Int) else mA p n
theorem cA_mA (p : Nat → Bool) (n : Nat) : (mA p n = -1 ∧ cA p n = (0, 9) ∧ ∀ S, S < n → p S = false) ∨ (∃ S, S < n ∧ mA p n = (S : Int) ∧ cA p n = (S, pc8 S) ∧ p S = true ∧ ∀ S9, S9 < n → p S9 = true → pc8 S ≤ pc8 S9) := by
  induction n with
  | zero => exact Or.inl ⟨rfl, rfl, fun S hS => by omega⟩
  | succ n ih =>
    rw [mA, cA]
    have h8 : pc8 n ≤ 8 := bitsN_le n 8
    rcases ih with ⟨i1, i2, i3⟩ | ⟨S, hS, i1, i2, i3, i4⟩
    · rw [i1, i2]
      cases hp : p n
      · left
        rw [if_neg (by rintro ⟨z, -⟩; cases z), if_neg (by rintro ⟨-, z⟩; cases z)]
        refine ⟨rfl, rfl, fun S hS => ?_⟩
        by_cases hSn : S = n
        · rw [hSn]; exact hp
        · exact i3 S (by omega)
      · right
        rw [if_pos ⟨rfl, Or.inl (by decide)⟩, if_pos ⟨by show pc8 n < 9; omega, rfl⟩]
        refine ⟨n, by omega, rfl, rfl, hp, fun S9 h9 hp9 => ?_⟩
        by_cases hSn : S9 = n
        · rw [hSn]; exact Nat.le_refl _
        · rw [i3 S9 (by omega)] at hp9; cases hp9
    · right
      rw [i1, i2, tnN]
      by_cases hc : pc8 n < pc8 S ∧ p n = true
      · rw [if_pos ⟨hc.2, Or.inr hc.1⟩, if_pos hc]
        refine ⟨n, by omega, rfl, rfl, hc.2, fun S9 h9 hp9 => ?_⟩
        by_cases hSn : S9 = n
        · rw [hSn]; exact Nat.le_refl _
        · have := i4 S9 (by omega) hp9; omega
      · rw [if_neg (by rintro ⟨z1, z2 | z2⟩; omega; exact hc ⟨z2, z1⟩), if_neg hc]
        refine ⟨S, by omega, rfl, rfl, i3, fun S9 h9 hp9 => ?_⟩
        by_cases hSn : S9 = n
        · rw [hSn] at hp9 ⊢
          have : ¬ pc8 n < pc8 S := fun z => hc ⟨z, hp9⟩
          omega
        · exact i4 S9 (by omega) hp9
theorem mA_cong {p q : Nat → Bool} {n : Nat} (h : ∀ S, S < n → p S = q S) : mA p n = mA q n := by
  induction n with
  | zero => rfl
  | succ n ih => rw [mA, mA, ih fun S hS => h S (by omega), h n (by omega)]
theorem mA_bd (p : Nat → Bool) (n : Nat) : -1 ≤ mA p n ∧ mA p n < n + 1 := by
  rcases cA_mA p n with ⟨h, -⟩ | ⟨S, hS, h, -⟩
  · rw [h]; omega
  · rw [h]; omega
/-- all the others part two between which nothing leads at once -/
theorem prt_all {G : Gr} (hG : GrOK G) {us : Nat → Bool} {s t : Nat} (hs : s < G.n) (ht : t < G.n) (hst : s ≠ t) (hus : ∀ e, e < G.m → G.u e = s → G.v e = t → us e = false) : ∃ S, S < 2 ^ G.n ∧ prtP G us s t S = true := by
  refine ⟨mask (fun x => !(x == s) && !(x == t)) G.n, mask_lt _ _, ?_⟩
  have hb : ∀ x, x < G.n → (mask (fun x => !(x == s) && !(x == t)) G.n).testBit x = (!(x == s) && !(x == t)) := fun x hx => mask_bit _ _ _ hx
  generalize mask (fun x => !(x == s) && !(x == t)) G.n = Z at hb
  have hpass : ∀ k, k ≤ G.m → passP G us Z (2 ^ s) k = 2 ^ s := by
    intro k
    induction k with
    | zero => exact fun _ => rfl
    | succ k ih =>
      intro hk
      rw [passP_s, ih (by omega)]
      refine if_neg ?_
      intro h
      rw [Bool.and_eq_true, Bool.and_eq_true, Nat.testBit_two_pow] at h
      obtain ⟨⟨h1, h2⟩, h3⟩ := h
      have hu : s = G.u k := of_decide_eq_true h2
      obtain ⟨g1, g2, g3⟩ := hG.2.2.2 k (by omega)
      rw [hb _ g2] at h3
      by_cases hv : G.v k = t
      · rw [hus k (by omega) hu.symm hv] at h1; cases h1
      · have e1 : (G.v k == s) = false := beq_eq_false_iff_ne.mpr (by omega)
        have e2 : (G.v k == t) = false := beq_eq_false_iff_ne.mpr hv
        rw [e1, e2] at h3
        cases h3
  have hrch : ∀ j, rchN G us Z (2 ^ s) j = 2 ^ s := by
    intro j
    induction j with
    | zero => rfl
    | succ j ih => rw [rchN, ih]; exact hpass _ (Nat.le_refl _)
  unfold prtP
  rw [hb s hs, hb t ht, hrch, Nat.testBit_two_pow, beq_self_eq_true, beq_self_eq_true, decide_eq_false hst]
  simp
def partV (G : Gr) (hi : Nat → Int) (s t : Nat) : Int := mA (prtP G (usD G hi s t) s t) (2 ^ G.n)
theorem part_ex {G : Gr} (hG : GrOK G) (hi : Nat → Int) {s t : Nat} (hs : s < G.n) (ht : t < G.n) (hst : s ≠ t) : ∃ S : Nat, S < 2 ^ G.n ∧ partV G hi s t = (S : Int) ∧ cA (prtP G (usD G hi s t) s t) (2 ^ G.n) = (S, pc8 S) ∧ prtP G (usD G hi s t) s t S = true ∧ ∀ S9, S9 < 2 ^ G.n → prtP G (usD G hi s t) s t S9 = true → pc8 S ≤ pc8 S9 := by
  obtain ⟨S, h1, h2⟩ := prt_all hG (us := usD G hi s t) hs ht hst (fun e _ hu hv => by unfold usD; rw [decide_eq_true (show G.u e = s ∧ G.v e = t from ⟨hu, hv⟩)]; simp)
  rcases cA_mA (prtP G (usD G hi s t) s t) (2 ^ G.n) with ⟨-, -, h⟩ | h
  · rw [h S h1] at h2; cases h2
  · exact h
/-! answers -/
def apartG (G : Gr) (hi : Nat → Int) (s t : Nat) : Int × Int := if 0 < dirN G hi s t G.m then (0, 3) else (partV G hi s t, 0)
def apartA (T : NT) (a s t : Int) : Int × Int := wE 0 (wrongT T a s t) (apartG (T.G (Int.toNat a)) (T.hi (Int.toNat a)) (Int.toNat s) (Int.toNat t))
section APA
variable {X : xX} {c : xCx} {I : xIn} {i : Nat} {G : Gr} {s t : Nat}
theorem nt_reachFrom (hX : xBase X) (d : Nat) (hC : CG I c i G) {Z : Nat} (hZ : Z ≤ 255) (hs : s < G.n) : xRet rI X m_X3_reachFrom (d + 1) [xr (i + 3, 0), xi (s : Int), xi (Z : Int)] c I 0 0 (pv ((rchN G (fun e => decide (I (i + 3, 4) e ≠ 0)) Z (2 ^ s) G.n : Nat) : Int) I) xNo := by
  obtain ⟨hi, hn, hm, hG, hE⟩ := id hC
  have hn8 := hG.2.1
  have hm16 := hG.2.2.1
  generalize hus : (fun e => decide (I (i + 3, 4) e ≠ 0)) = us
  have hR0 : 2 ^ s < 256 := Nat.pow_lt_pow_right (n := 8) (by decide) (by omega)
  refine xRet_of hX pl_X3_reachFrom (LE1 rfl) fun V hV => rg_X3_reachFrom_0 hV I i hi _ _ ?_
  rw [v_pow (show s ≤ 8 by omega)]
  refine up_to0 (m := G.n) (W := fun j => V 7 [(0, xr (i + 3, 0)), (2, xi (Z : Int)), (3, xi ((rchN G us Z (2 ^ s) j : Nat) : Int)), (4, xi (j : Int))] [] (I, xst c) 0 0) ?_ ?_
  · exact rg_X3_reachFrom_7 hV I i hi _ _ _ ⟨⟨by omega, by omega⟩, fun _ => pvI rfl, fun h => by omega⟩
  · intro j hj ih
    have hlt := rchN_lt hG us Z hR0 j
    have hlt1 := rchN_lt hG us Z hR0 (j + 1)
    have hfix := rchN_fix (G := G) (us := us) (Z := Z) (R := 2 ^ s) (j := j)
    have hdef : rchN G us Z (2 ^ s) (j + 1) = passP G us Z (rchN G us Z (2 ^ s) j) G.m := rfl
    refine rg_X3_reachFrom_7 hV I i hi _ _ _ ⟨⟨by omega, by omega⟩, fun h => by omega, fun _ => ?_⟩
    refine up_to0 (m := G.m) (W := fun k => V 22 [(0, xr (i + 3, 0)), (2, xi (Z : Int)), (3, xi ((passP G us Z (rchN G us Z (2 ^ s) j) k : Nat) : Int)), (4, xi (j : Int)), (5, xi ((rchN G us Z (2 ^ s) j : Nat) : Int)), (6, xi (k : Int))] [] (I, xst c) 0 0) ?_ ?_
    · refine rg_X3_reachFrom_22 hV I i hi _ _ _ _ _ ⟨⟨by omega, by omega⟩, fun _ => ?_, fun h => by omega⟩
      rw [← hdef]
      refine ⟨⟨by omega, by omega⟩, ⟨by omega, by omega⟩, fun _ => ih, fun h => pvI ?_⟩
      have h9 : rchN G us Z (2 ^ s) (j + 1) = rchN G us Z (2 ^ s) j := by omega
      have := hfix h9 (G.n - j)
      rw [show j + (G.n - j) = G.n by omega] at this
      rw [this, h9]
    · intro k hk ih2
      have hp := passP_lt hG us Z hlt k (by omega)
      have hl := hG.2.2.2 k hk
      rw [passP_s] at ih2
      generalize passP G us Z (rchN G us Z (2 ^ s) j) k = R at ih2 hp
      have huk : us k = decide (I (i + 3, 4) k ≠ 0) := by rw [← hus]
      refine rg_X3_reachFrom_22 hV I i hi _ _ _ _ _ ⟨⟨by omega, by omega⟩, fun h => by omega, fun _ => ⟨⟨by omega, by omega⟩, ?_⟩⟩
      rw [tnN, (hE k hk).1]
      refine ⟨fun z => ?_, fun z => ⟨_, cn_hasBit hX d (by omega) (by omega), ?_⟩⟩
      · rw [huk, decide_eq_false (by omega)] at ih2
        exact ih2
      rintro _ _ ⟨rfl, rfl⟩
      refine ⟨fun y => ?_, fun y => ?_⟩
      · rw [y, Bool.and_false, Bool.false_and] at ih2
        exact ih2
      · rw [(hE k hk).2]
        refine ⟨_, cn_hasBit hX d (by omega) (by omega), ?_⟩
        rintro _ _ ⟨rfl, rfl⟩
        refine ⟨fun w => ?_, fun w => ?_⟩
        · rw [w, Bool.not_true, Bool.and_false] at ih2
          exact ih2
        · rw [(hE k hk).2, v_pow (show G.v k ≤ 8 by omega), v_or_nat (by omega) (by
            have := Nat.pow_lt_pow_right (a := 2) (n := 8) (by decide) (show G.v k < 8 by omega); omega)]
          rintro _ rfl
          rw [huk, decide_eq_true z, y, w] at ih2
          exact ih2
theorem nt_leadsStraight (hX : xBase X) (d : Nat) (hC : CG I c i G) (hN : NB I i G.m) (hs : s < G.n) (ht : t < G.n) : xRet rB X m_X3_leadsStraight d [xr (i + 3, 0), xi (s : Int), xi (t : Int)] c I 0 0 (pv (decide (0 < dirN G (I (i + 3, 4)) s t G.m)) I) xNo := by
  obtain ⟨hi, hn, hm, hG, hE⟩ := id hC
  have hn8 := hG.2.1
  have hm16 := hG.2.2.1
  refine xRet_of hX pl_X3_leadsStraight (LE1 rfl) fun V hV => rg_X3_leadsStraight_0 hV I i hi _ _ ?_
  refine up_to0 (m := G.m) (W := fun k => dirN G (I (i + 3, 4)) s t k = 0 → V 2 [(0, xr (i + 3, 0)), (1, xi (s : Int)), (2, xi (t : Int)), (3, xi (k : Int))] [] (I, xst c) 0 0) ?_ ?_ rfl
  · intro h0
    exact rg_X3_leadsStraight_2 hV I i hi _ _ _ ⟨⟨by omega, by omega⟩, fun _ => pvI (by rw [h0]; rfl), fun h => by omega⟩
  · intro k hk ih h0
    have hl := hG.2.2.2 k hk
    have hb := hN k hk
    rw [dirN_s, h0] at ih
    refine rg_X3_leadsStraight_2 hV I i hi _ _ _ ⟨⟨by omega, by omega⟩, fun h => by omega, fun _ => ⟨⟨by omega, by omega⟩, ⟨by omega, by omega⟩, ?_⟩⟩
    rw [tnN, (hE k hk).1, (hE k hk).2]
    refine ⟨fun z => ih (by rw [if_neg (by omega)]; rfl), fun z => ⟨⟨by omega, by omega⟩, fun y => ih (by rw [if_neg (by omega)]; rfl), fun y => ⟨fun x => ih (by rw [if_neg (by omega)]; rfl), fun x => pvI ?_⟩⟩⟩
    have h1 : dirN G (I (i + 3, 4)) s t (k + 1) = 1 := by rw [dirN_s, h0, if_pos (by omega)]; rfl
    have hmono : ∀ j, dirN G (I (i + 3, 4)) s t (k + 1) ≤ dirN G (I (i + 3, 4)) s t (k + 1 + j) := by
      intro j
      induction j with
      | zero => exact Int.le_refl _
      | succ j ihj =>
        have e9 := dirN_s G (I (i + 3, 4)) s t (k + 1 + j)
        rw [← Nat.add_assoc, e9]
        split <;> omega
    have := hmono (G.m - (k + 1))
    rw [show k + 1 + (G.m - (k + 1)) = G.m by omega] at this
    exact (decide_eq_true (by omega)).symm
theorem cu_fewestApart (hX : xBase X) (d : Nat) (hC : CG I c i G) (hN : NB I i G.m) (hs : s < G.n) (ht : t < G.n) (hst : s ≠ t) (h0 : dirN G (I (i + 3, 4)) s t G.m = 0) : xRet rI X m_X0_fewestApart (d + 2) [xr (0, 15), xr (i + 3, 0), xi (s : Int), xi (t : Int)] c I 0 0 (pv (partV G (I (i + 3, 4)) s t) I) xNo := by
  obtain ⟨hi, hn, hm, hG, hE⟩ := id hC
  have hn8 := hG.2.1
  have g2 := pow2_le8 hn8
  have hsh := v_pow hn8
  have hus : ∀ e, e < G.m → decide (I (i + 3, 4) e ≠ 0) = usD G (I (i + 3, 4)) s t e := by
    intro e he
    have hb := hN e he
    have hd : ¬ (0 < I (i + 3, 4) e ∧ G.u e = s ∧ G.v e = t) := by
      intro hh
      have h9 := sumE_at he (fun e => if 0 < I (i + 3, 4) e ∧ G.u e = s ∧ G.v e = t then (1 : Int) else 0)
      have h8 := sumE_nonneg (n := G.m) (f := fun k => if k = e then 0 else if 0 < I (i + 3, 4) k ∧ G.u k = s ∧ G.v k = t then (1 : Int) else 0) (fun k hk => by split; omega; split <;> omega)
      rw [if_pos hh] at h9
      have h7 : dirN G (I (i + 3, 4)) s t G.m = sumE G.m (fun e => if 0 < I (i + 3, 4) e ∧ G.u e = s ∧ G.v e = t then (1 : Int) else 0) := rfl
      omega
    unfold usD
    by_cases hz : 0 < I (i + 3, 4) e
    · rw [decide_eq_true (show I (i + 3, 4) e ≠ 0 by omega), decide_eq_true hz, decide_eq_false (fun q => hd ⟨hz, q⟩)]; rfl
    · rw [decide_eq_false (show ¬ I (i + 3, 4) e ≠ 0 by omega), decide_eq_false hz]; rfl
  obtain ⟨S0, hS0, hv, hc0, -, -⟩ := part_ex hG (I (i + 3, 4)) hs ht hst
  have hrc : ∀ Z, rchN G (fun e => decide (I (i + 3, 4) e ≠ 0)) Z (2 ^ s) G.n = rchN G (usD G (I (i + 3, 4)) s t) Z (2 ^ s) G.n := fun Z => rchN_cong hus Z _ _
  generalize hp : prtP G (usD G (I (i + 3, 4)) s t) s t = p at hc0
  have hpd : ∀ S, p S = (!S.testBit s && (!S.testBit t && !(rchN G (usD G (I (i + 3, 4)) s t) S (2 ^ s) G.n).testBit t)) := fun S => by rw [← hp]; rfl
  generalize hNN : 2 ^ G.n = N at g2 hsh hc0
  have hR0 : 2 ^ s < 256 := Nat.pow_lt_pow_right (n := 8) (by decide) (by omega)
  refine xRet_of hX pl_X0_fewestApart (LE1 rfl) fun V hV => rg_X0_fewestApart_0 hV I i hi _ _ ?_
  refine up_to0 (m := N) (W := fun S => V 10 [(1, xr (i + 3, 0)), (2, xi (s : Int)), (3, xi (t : Int)), (4, xi ((cA p S).1 : Int)), (5, xi ((cA p S).2 : Int)), (6, xi (S : Int))] [] (I, xst c) 0 0) ?_ ?_
  · refine rg_X0_fewestApart_10 hV I i hi _ _ _ _ _ ⟨⟨by omega, by omega⟩, fun _ => pvI (by rw [hc0, hv]), fun h => ?_⟩
    rw [hn, hsh] at h; omega
  · intro S hS ih
    have hb8 : pc8 S ≤ 8 := bitsN_le S 8
    have hcl : (cA p S).2 ≤ 9 := by
      rcases cA_mA p S with ⟨-, h, -⟩ | ⟨Q, -, -, h, -⟩
      · rw [h]; exact Nat.le_refl _
      · rw [h]; have q8 : pc8 Q ≤ 8 := bitsN_le Q 8; show pc8 Q ≤ 9; omega
    have hlt := rchN_lt hG (usD G (I (i + 3, 4)) s t) S hR0 G.n
    rw [cA] at ih
    have no : ¬ (pc8 S < (cA p S).2 ∧ p S = true) → V 10 [(1, xr (i + 3, 0)), (2, xi (s : Int)), (3, xi (t : Int)), (4, xi ((cA p S).1 : Int)), (5, xi ((cA p S).2 : Int)), (6, xi ((S : Int) + 1))] [] (I, xst c) 0 0 := fun h => by
      rw [if_neg h] at ih; exact ih
    refine rg_X0_fewestApart_10 hV I i hi _ _ _ _ _ ⟨⟨by omega, by omega⟩, fun h => ?_, fun _ => ⟨_, jd_bitCount hX (d + 1) rfl (by omega), ?_⟩⟩
    · rw [hn, hsh] at h; omega
    rintro _ _ ⟨rfl, rfl⟩
    refine ⟨⟨by omega, by omega⟩, ⟨by omega, by omega⟩, fun h => no (fun z => by omega), fun h => ⟨_, cn_hasBit hX (d + 1) (by omega) (by omega), ?_⟩⟩
    rintro _ _ ⟨rfl, rfl⟩
    refine ⟨fun y => no (fun z => by rw [hpd, y] at z; cases z.2), fun y => ⟨_, cn_hasBit hX (d + 1) (by omega) (by omega), ?_⟩⟩
    rintro _ _ ⟨rfl, rfl⟩
    refine ⟨fun x => no (fun z => by rw [hpd, x, y] at z; cases z.2), fun x => ⟨_, nt_reachFrom hX d hC (by omega) hs, ?_⟩⟩
    rintro _ _ ⟨rfl, rfl⟩
    rw [hrc]
    refine ⟨_, cn_hasBit hX (d + 1) (by omega) (by omega), ?_⟩
    rintro _ _ ⟨rfl, rfl⟩
    refine ⟨fun w => no (fun z => by rw [hpd, x, y, w] at z; cases z.2), fun w => ?_⟩
    rw [if_pos ⟨by omega, by rw [hpd, x, y, w]; rfl⟩] at ih
    exact ih
end APA
section APB
variable {X : xX} {c : xCx} {I : xIn} {T : NT} {a s t : Int}
theorem dirN_cong {G : Gr} {hi hi9 : Nat → Int} (h : ∀ e, e < G.m → hi e = hi9 e) (s t : Nat) : dirN G hi s t G.m = dirN G hi9 s t G.m := sumE_cong fun e he => by rw [h e he]
theorem partV_cong {G : Gr} {hi hi9 : Nat → Int} (h : ∀ e, e < G.m → hi e = hi9 e) (s t : Nat) : partV G hi s t = partV G hi9 s t := by
  unfold partV
  refine mA_cong fun S _ => ?_
  unfold prtP
  rw [rchN_cong (us9 := usD G hi9 s t) (fun e he => by unfold usD; rw [h e he])]
theorem cn_apart (hX : xBase X) (d : Nat) (hT : NTok T) (hI : CI I c T) (ha : xin a) (hs : xin s) (ht : xin t) : xRet rI X m_X9_apart (d + 8) [xr (0, 0), xi a, xi s, xi t] c I 3 18 (fun v I9 => I9 = I ∧ (v, 0) = apartA T a s t) (fun x I9 => I9 = I ∧ exL [xIOB, xIAE, xUOE] x (apartA T a s t).2) := by
  unfold apartA
  have hwc := wrong_c T a s t
  refine xRet_of hX pl_X9_apart (LE1 rfl) fun V hV => rg_X9_apart_0 hV I _ _ _ (go_ends hX d hT hI ha hs ht (fun x hx hw => ⟨rfl, by rw [wE_p hw]; exact hx.l (by omega)⟩) ?_)
  rintro i s t rfl rfl rfl hi hC hs9 ht9 hst hw
  rw [wE_0 hw, tnN, tnN, tnN]
  have hN := hI.nb hT hi
  have hd := dirN_cong (hI.hi hi) s t
  have hpv := partV_cong (hI.hi hi) s t
  have hdb := dirN_bd (T.G i) (T.hi i) s t (T.G i).m
  refine ⟨_, nt_leadsStraight hX (d + 7) hC hN hs9 ht9, ?_⟩
  rintro _ J ⟨rfl, rfl⟩
  rw [hd]
  refine ⟨fun z => ⟨_, cu_fewestApart hX (d + 5) hC hN hs9 ht9 hst (by have := of_decide_eq_false z; omega), ?_⟩, fun z => ⟨rfl, ?_⟩⟩
  · rintro _ _ ⟨rfl, rfl⟩
    refine ⟨rfl, ?_⟩
    unfold apartG
    rw [if_neg (of_decide_eq_false z), hpv]
  · unfold apartG
    rw [if_pos (of_decide_eq_true z)]
    exact ⟨2, rfl, rfl⟩
end APB
section APM
variable {X : xX} {c : xCx} {I : xIn} {i : Nat} {G : Gr} {lo hi : Nat → Int} {s t : Nat}
end APM