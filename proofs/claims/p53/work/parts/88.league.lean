/-! a league -/
abbrev LG : Type := Nat × (Nat → Int) × (Nat → Int)
abbrev LG.t (L : LG) : Nat := L.1
abbrev LG.w (L : LG) : Nat → Int := L.2.1
abbrev LG.g (L : LG) : Nat → Int := L.2.2
def LGok (L : LG) : Prop := L.t ≤ 6 ∧ (∀ k, k < 6 → 0 ≤ L.w k ∧ L.w k ≤ 99) ∧ ∀ a b, a < 6 → b < 6 → (0 ≤ L.g (6 * a + b) ∧ L.g (6 * a + b) ≤ 9) ∧ L.g (6 * a + b) = L.g (6 * b + a)
def CLG (I : xIn) (L : LG) : Prop := I (0, 24) 0 = (L.t : Int) ∧ (∀ k, k < 6 → I (0, 25) k = L.w k) ∧ ∀ k, k < 36 → I (0, 26) k = L.g k
theorem sumE_upto {a t : Nat} (h : a ≤ t) (f : Nat → Int) : sumE t (fun b => if b < a then f b else 0) = sumE a f := by
  induction t with
  | zero => have : a = 0 := by omega
            subst this; rfl
  | succ t ih =>
    rw [sumE]
    by_cases ha : a ≤ t
    · rw [ih ha, if_neg (by omega)]; omega
    · have : a = t + 1 := by omega
      subst this
      rw [if_pos (by omega), sumE]
      congr 1
      exact sumE_cong fun e he => if_pos (by omega)
/-- what the teams of a set have won and will among themselves: by the reference, by the class -/
def WTr (L : LG) (S : Nat) : Int := sumE L.t (fun a => (if S.testBit a then L.w a else 0) + sumE a (fun b => if S.testBit a && S.testBit b then L.g (6 * a + b) else 0))
def WTc (L : LG) (S : Nat) : Int := sumE L.t (fun a => if S.testBit a then L.w a + sumE L.t (fun b => if decide (a < b) && S.testBit b then L.g (6 * a + b) else 0) else 0)
theorem WT_eq {L : LG} (h : LGok L) (S : Nat) : WTc L S = WTr L S := by
  have h6 := h.1
  have e1 : WTc L S = sumE L.t (fun a => if S.testBit a then L.w a else 0) + sumE L.t (fun a => sumE L.t (fun b => if S.testBit a && decide (a < b) && S.testBit b then L.g (6 * a + b) else 0)) := by
    unfold WTc
    rw [← sumE_add]
    apply sumE_cong
    intro a ha
    cases hb : S.testBit a
    · simp only [Bool.false_eq_true, if_false, Bool.false_and]
      rw [sumE_0 (fun _ _ => rfl)]; rfl
    · simp only [if_true, Bool.true_and]
  have e2 : WTr L S = sumE L.t (fun a => if S.testBit a then L.w a else 0) + sumE L.t (fun a => sumE L.t (fun b => if S.testBit b && decide (b < a) && S.testBit a then L.g (6 * b + a) else 0)) := by
    unfold WTr
    rw [← sumE_add]
    apply sumE_cong
    intro a ha
    congr 1
    rw [← sumE_upto (show a ≤ L.t by omega)]
    apply sumE_cong
    intro b hb
    by_cases hba : b < a
    · rw [if_pos hba, (h.2.2 a b (by omega) (by omega)).2, decide_eq_true hba]
      cases S.testBit a <;> cases S.testBit b <;> rfl
    · rw [if_neg hba, decide_eq_false hba]
      cases S.testBit a <;> cases S.testBit b <;> rfl
  rw [e1, e2, sumE_swap]
theorem WTr_bd {L : LG} (h : LGok L) (S : Nat) : 0 ≤ WTr L S ∧ WTr L S ≤ 918 := by
  have h6 := h.1
  have hb := sumE_bd (n := L.t) (f := fun a => (if S.testBit a then L.w a else 0) + sumE a (fun b => if S.testBit a && S.testBit b then L.g (6 * a + b) else 0)) (a := 0) (b := 153) (fun a ha => by
    have h1 := sumE_bd (n := a) (f := fun b => if S.testBit a && S.testBit b then L.g (6 * a + b) else 0) (a := 0) (b := 9) (fun b hb => by
      have := (h.2.2 a b (by omega) (by omega)).1
      split <;> omega)
    have h2 := h.2.1 a (by omega)
    split <;> omega)
  unfold WTr
  omega
def reachF (L : LG) (k : Nat) : Int := L.w k + sumE L.t (fun b => L.g (6 * k + b))
theorem reach_bd {L : LG} (h : LGok L) {k : Nat} (hk : k < 6) : 0 ≤ reachF L k ∧ reachF L k ≤ 153 := by
  have h6 := h.1
  have h1 := sumE_bd (n := L.t) (f := fun b => L.g (6 * k + b)) (a := 0) (b := 9) (fun b hb => (h.2.2 k b hk (by omega)).1)
  have h2 := h.2.1 k hk
  unfold reachF
  omega
def rivP (L : LG) (k S : Nat) : Bool := !S.testBit k && decide ((pc8 S : Int) * reachF L k < WTr L S)
def rivF (L : LG) (k : Nat) : Int := if ff (rivP L k) (2 ^ L.t) = -1 then 0 else ff (rivP L k) (2 ^ L.t)
theorem rivP_0 (L : LG) (k : Nat) : rivP L k 0 = false := by
  have h1 : WTr L 0 = 0 := sumE_0 fun a ha => by
    rw [Nat.zero_testBit, sumE_0 (fun b hb => by rw [Nat.zero_testBit]; rfl)]; rfl
  unfold rivP
  rw [h1, pc8_0]
  simp
theorem rivF_none {L : LG} {k N : Nat} (hN : 2 ^ L.t = N) (h : ∀ S, S < N → rivP L k S = false) : rivF L k = 0 := by
  unfold rivF
  rw [hN, ff_none h, if_pos rfl]
theorem rivF_hit {L : LG} {k N S : Nat} (hN : 2 ^ L.t = N) (hS : S < N) (hp : rivP L k S = true) (h : ∀ T, T < S → rivP L k T = false) : rivF L k = S := by
  unfold rivF
  rw [hN, ff_hit hS hp h, if_neg (by omega)]
theorem rivF_bd {L : LG} (hL : LGok L) (k : Nat) : 0 ≤ rivF L k ∧ rivF L k ≤ 256 := by
  have g2 := pow2_le8 (show L.t ≤ 8 by have := hL.1; omega)
  unfold rivF
  rcases ff_cases (rivP L k) (2 ^ L.t) with ⟨h, -⟩ | ⟨S, h1, h2, -⟩
  · rw [h, if_pos rfl]; decide
  · rw [h2]
    generalize 2 ^ L.t = N at g2 h1
    split <;> omega
/-! answers -/
def teamA (L : LG) (a : Int) : (Int × Int) × LG := if 0 ≤ a ∧ a ≤ 99 then (if L.t = 6 then ((0, 2), L) else (((L.t : Int), 0), (L.t + 1, upL L.w L.t a, L.g))) else ((0, 1), L)
def gamesA (L : LG) (a b v : Int) : (Int × Int) × LG := if inB a L.t && inB b L.t then (if a ≠ b ∧ 0 ≤ v ∧ v ≤ 9 then ((L.g (6 * Int.toNat a + Int.toNat b), 0), (L.t, L.w, upL (upL L.g (6 * Int.toNat a + Int.toNat b) v) (6 * Int.toNat b + Int.toNat a) v)) else ((0, 2), L)) else ((0, 1), L)
def canWinA (L : LG) (a : Int) : Bool × Int := if inB a L.t then (decide (rivF L (Int.toNat a) = 0), 0) else (false, 1)
def againstA (L : LG) (a : Int) : Int × Int := if inB a L.t then (if rivF L (Int.toNat a) = 0 then (0, 2) else (rivF L (Int.toNat a), 0)) else (0, 1)
theorem teamA_ok {L : LG} (h : LGok L) (a : Int) : LGok (teamA L a).2 := by
  unfold teamA
  split
  · split
    · exact h
    · refine ⟨by have := h.1; show L.t + 1 ≤ 6; omega, fun k hk => ?_, h.2.2⟩
      show 0 ≤ upL L.w L.t a k ∧ upL L.w L.t a k ≤ 99
      by_cases hkt : k = L.t
      · rw [hkt, upL_s]; assumption
      · rw [upL_n hkt]; exact h.2.1 k hk
  · exact h
theorem gamesA_ok {L : LG} (h : LGok L) (a b v : Int) : LGok (gamesA L a b v).2 := by
  unfold gamesA
  split
  · rename_i hab
    split
    · rename_i hv
      rw [Bool.and_eq_true] at hab
      have ha := inB_t hab.1
      have hb := inB_t hab.2
      have h6 := h.1
      obtain ⟨i, rfl⟩ := Int.eq_ofNat_of_zero_le ha.1
      obtain ⟨j, rfl⟩ := Int.eq_ofNat_of_zero_le hb.1
      rw [tnN, tnN]
      have hij : i ≠ j := by omega
      have ev : ∀ p q, p < 6 → q < 6 → upL (upL L.g (6 * i + j) v) (6 * j + i) v (6 * p + q) = if (p = i ∧ q = j) ∨ (p = j ∧ q = i) then v else L.g (6 * p + q) := fun p q hp hq => by
        by_cases h1 : p = j ∧ q = i
        · rw [if_pos (Or.inr h1), h1.1, h1.2, upL_s]
        · rw [upL_n (by omega)]
          by_cases h2 : p = i ∧ q = j
          · rw [if_pos (Or.inl h2), h2.1, h2.2, upL_s]
          · rw [upL_n (by omega), if_neg (by rintro (z | z); exact h2 z; exact h1 z)]
      refine ⟨h6, h.2.1, fun p q hp hq => ?_⟩
      show (0 ≤ upL (upL L.g (6 * i + j) v) (6 * j + i) v (6 * p + q) ∧ upL (upL L.g (6 * i + j) v) (6 * j + i) v (6 * p + q) ≤ 9) ∧ upL (upL L.g (6 * i + j) v) (6 * j + i) v (6 * p + q) = upL (upL L.g (6 * i + j) v) (6 * j + i) v (6 * q + p)
      rw [ev p q hp hq, ev q p hq hp]
      have h3 := h.2.2 p q hp hq
      by_cases h1 : (p = i ∧ q = j) ∨ (p = j ∧ q = i)
      · rw [if_pos h1, if_pos (by omega)]; omega
      · rw [if_neg h1, if_neg (by omega)]; exact h3
    · exact h
  · exact h
section LGC
variable {X : xX} {c : xCx} {I : xIn} {L : LG}
theorem cn_team (hX : xBase X) (d : Nat) (hL : LGok L) (hC : CLG I L) {a : Int} (ha : xin a) : xRet rI X m_X9_team (d + 7) [xr (0, 0), xi a] c I 1 6 (fun v I9 => kp [(0, 24), (0, 25)] I I9 ∧ (∀ j, j ≠ 0 → I9 (0, 24) j = I (0, 24) j) ∧ CLG I9 (teamA L a).2 ∧ (v, 0) = (teamA L a).1) (fun x I9 => I9 = I ∧ (teamA L a).2 = L ∧ exL [xIAE, xISE] x (teamA L a).1.2) := by
  obtain ⟨h1, h2, h3⟩ := id hC
  have h6 := hL.1
  refine xRet_of hX pl_X9_team (LE1 rfl) fun V hV => rg_X9_team_0 hV I _ ?_
  unfold teamA
  refine ⟨ha, fun h => ?_, fun h => ⟨fun h9 => ⟨fun ht => ?_, fun ht => ?_⟩, fun h9 => ?_⟩⟩
  · rw [if_neg (by omega)]; exact ⟨rfl, rfl, 0, rfl, rfl⟩
  · rw [if_pos ⟨h, h9⟩, if_neg (by omega)]
    refine ⟨fun v I9 => kp [(0, 24), (0, 25)] I I9 ∧ (∀ j, j ≠ 0 → I9 (0, 24) j = I (0, 24) j) ∧ CLG I9 (L.t + 1, upL L.w L.t a, L.g) ∧ v = (L.t : Int), ?_, ?_⟩
    · refine xRet_of hX pl_X2_enter (LE1 rfl) fun V hV => rg_X2_enter_0 hV I _ ⟨fun h => by omega, fun _ => ⟨fun _ => ⟨⟨by omega, by omega⟩, ha, ?_⟩, fun h => by omega⟩⟩
      rw [h1, tnN]
      rintro J1 e1
      have q1 : J1 (0, 24) = I (0, 24) := by rw [e1, xu_p (by decide)]
      rw [q1, h1]
      refine ⟨⟨by omega, by omega⟩, ?_⟩
      rintro J2 e2
      have q2 : J2 (0, 24) = upL (I (0, 24)) 0 ((L.t : Int) + 1) := by rw [e2, xuL, q1]
      refine ⟨by rw [e2, e1]; exact (kp.rfl.xu (by simp)).xu (by simp), fun j hj => by rw [q2, upL_n hj], ⟨by rw [q2, upL_s]; rfl, fun k hk => ?_, fun k hk => ?_⟩, by rw [q2, upL_s]; omega⟩
      · rw [e2, xu_p (by decide), e1, xuL]
        show upL (I (0, 25)) L.t a k = upL L.w L.t a k
        by_cases hkt : k = L.t
        · rw [hkt, upL_s, upL_s]
        · rw [upL_n hkt, upL_n hkt]; exact h2 k hk
      · rw [e2, xu_p (by decide), e1, xu_p (by decide)]; exact h3 k hk
    · rintro v J ⟨k1, k2, k3, rfl⟩
      exact ⟨k1, k2, k3, rfl⟩
  · rw [if_pos ⟨h, h9⟩, if_pos (by omega)]; exact ⟨rfl, rfl, 1, rfl, rfl⟩
  · rw [if_neg (by omega)]; exact ⟨rfl, rfl, 0, rfl, rfl⟩
/-! .. by the reference -/
end LGC
