/-! a league -/
abbrev LG : Type := Nat × (Nat → Int) × (Nat → Int)
abbrev LG.t (L : LG) : Nat := L.1
abbrev LG.w (L : LG) : Nat → Int := L.2.1
abbrev LG.g (L : LG) : Nat → Int := L.2.2
def LGok (L : LG) : Prop := L.t ≤ 6 ∧ (∀ k, k < 6 → 0 ≤ L.w k ∧ L.w k ≤ 99) ∧ ∀ a b, a < 6 → b < 6 → (0 ≤ L.g (6 * a + b) ∧ L.g (6 * a + b) ≤ 9) ∧ L.g (6 * a + b) = L.g (6 * b + a)
def CLG (I : xIn) (L : LG) : Prop := I (0, 24) 0 = (L.t : Int) ∧ (∀ k, k < 6 → I (0, 25) k = L.w k) ∧ ∀ k, k < 36 → I (0, 26) k = L.g k
def MLG (I : xIn) (L : LG) : Prop := I (1, 0) 10 = (L.t : Int) ∧ (∀ k, k < 6 → I (1, 10) k = L.w k) ∧ ∀ k, k < 36 → I (1, 11) k = L.g k
theorem sumE_upto {a t : Nat} (h : a ≤ t) (f : Nat → Int) : sumE t (fun b => if b < a then f b else 0) = sumE a f := by
  induction t with
  | zero => have : a = 0 := by omega
            subst this; rfl
  | succ t ih =>
    rw [sumE]
    by_cases ha : a ≤ t
    · rw [ih ha, if_neg (by omega)]; omega
    · have : a = t + 1 := by omega
      subst this
      rw [if_pos (by omega), sumE]
      congr 1
      exact sumE_cong fun e he => if_pos (by omega)
/-- what the teams of a set have won and will among themselves: by the reference, by the class -/
def WTr (L : LG) (S : Nat) : Int := sumE L.t (fun a => (if S.testBit a then L.w a else 0) + sumE a (fun b => if S.testBit a && S.testBit b then L.g (6 * a + b) else 0))
def WTc (L : LG) (S : Nat) : Int := sumE L.t (fun a => if S.testBit a then L.w a + sumE L.t (fun b => if decide (a < b) && S.testBit b then L.g (6 * a + b) else 0) else 0)
theorem WT_eq {L : LG} (h : LGok L) (S : Nat) : WTc L S = WTr L S := by
  have h6 := h.1
  have e1 : WTc L S = sumE L.t (fun a => if S.testBit a then L.w a else 0) + sumE L.t (fun a => sumE L.t (fun b => if S.testBit a && decide (a < b) && S.testBit b then L.g (6 * a + b) else 0)) := by
    unfold WTc
    rw [← sumE_add]
    apply sumE_cong
    intro a ha
    cases hb : S.testBit a
    · simp only [Bool.false_eq_true, if_false, Bool.false_and]
      rw [sumE_0 (fun _ _ => rfl)]; rfl
    · simp only [if_true, Bool.true_and]
  have e2 : WTr L S = sumE L.t (fun a => if S.testBit a then L.w a else 0) + sumE L.t (fun a => sumE L.t (fun b => if S.testBit b && decide (b < a) && S.testBit a then L.g (6 * b + a) else 0)) := by
    unfold WTr
    rw [← sumE_add]
    apply sumE_cong
    intro a ha
    congr 1
    rw [← sumE_upto (show a ≤ L.t by omega)]
    apply sumE_cong
    intro b hb
    by_cases hba : b < a
    · rw [if_pos hba, (h.2.2 a b (by omega) (by omega)).2, decide_eq_true hba]
      cases S.testBit a <;> cases S.testBit b <;> rfl
    · rw [if_neg hba, decide_eq_false hba]
      cases S.testBit a <;> cases S.testBit b <;> rfl
  rw [e1, e2, sumE_swap]
theorem WTr_bd {L : LG} (h : LGok L) (S : Nat) : 0 ≤ WTr L S ∧ WTr L S ≤ 918 := by
  have h6 := h.1
  have hb := sumE_bd (n := L.t) (f := fun a => (if S.testBit a then L.w a else 0) + sumE a (fun b => if S.testBit a && S.testBit b then L.g (6 * a + b) else 0)) (a := 0) (b := 153) (fun a ha => by
    have h1 := sumE_bd (n := a) (f := fun b => if S.testBit a && S.testBit b then L.g (6 * a + b) else 0) (a := 0) (b := 9) (fun b hb => by
      have := (h.2.2 a b (by omega) (by omega)).1
      split <;> omega)
    have h2 := h.2.1 a (by omega)
    split <;> omega)
  unfold WTr
  omega
def reachF (L : LG) (k : Nat) : Int := L.w k + sumE L.t (fun b => L.g (6 * k + b))
theorem reach_bd {L : LG} (h : LGok L) {k : Nat} (hk : k < 6) : 0 ≤ reachF L k ∧ reachF L k ≤ 153 := by
  have h6 := h.1
  have h1 := sumE_bd (n := L.t) (f := fun b => L.g (6 * k + b)) (a := 0) (b := 9) (fun b hb => (h.2.2 k b hk (by omega)).1)
  have h2 := h.2.1 k hk
  unfold reachF
  omega
def rivP (L : LG) (k S : Nat) : Bool := !S.testBit k && decide ((pc8 S : Int) * reachF L k < WTr L S)
def rivF (L : LG) (k : Nat) : Int := if ff (rivP L k) (2 ^ L.t) = -1 then 0 else ff (rivP L k) (2 ^ L.t)
theorem rivP_0 (L : LG) (k : Nat) : rivP L k 0 = false := by
  have h1 : WTr L 0 = 0 := sumE_0 fun a ha => by
    rw [Nat.zero_testBit, sumE_0 (fun b hb => by rw [Nat.zero_testBit]; rfl)]; rfl
  unfold rivP
  rw [h1, pc8_0]
  simp
theorem rivF_none {L : LG} {k N : Nat} (hN : 2 ^ L.t = N) (h : ∀ S, S < N → rivP L k S = false) : rivF L k = 0 := by
  unfold rivF
  rw [hN, ff_none h, if_pos rfl]
theorem rivF_hit {L : LG} {k N S : Nat} (hN : 2 ^ L.t = N) (hS : S < N) (hp : rivP L k S = true) (h : ∀ T, T < S → rivP L k T = false) : rivF L k = S := by
  unfold rivF
  rw [hN, ff_hit hS hp h, if_neg (by omega)]
theorem rivF_bd {L : LG} (hL : LGok L) (k : Nat) : 0 ≤ rivF L k ∧ rivF L k ≤ 256 := by
  have g2 := pow2_le8 (show L.t ≤ 8 by have := hL.1; omega)
  unfold rivF
  rcases ff_cases (rivP L k) (2 ^ L.t) with ⟨h, -⟩ | ⟨S, h1, h2, -⟩
  · rw [h, if_pos rfl]; decide
  · rw [h2]
    generalize 2 ^ L.t = N at g2 h1
    split <;> omega
/-! answers -/
def teamA (L : LG) (a : Int) : (Int × Int) × LG := if 0 ≤ a ∧ a ≤ 99 then (if L.t = 6 then ((0, 2), L) else (((L.t : Int), 0), (L.t + 1, upL L.w L.t a, L.g))) else ((0, 1), L)
def gamesA (L : LG) (a b v : Int) : (Int × Int) × LG := if inB a L.t && inB b L.t then (if a ≠ b ∧ 0 ≤ v ∧ v ≤ 9 then ((L.g (6 * Int.toNat a + Int.toNat b), 0), (L.t, L.w, upL (upL L.g (6 * Int.toNat a + Int.toNat b) v) (6 * Int.toNat b + Int.toNat a) v)) else ((0, 2), L)) else ((0, 1), L)
def canWinA (L : LG) (a : Int) : Bool × Int := if inB a L.t then (decide (rivF L (Int.toNat a) = 0), 0) else (false, 1)
def againstA (L : LG) (a : Int) : Int × Int := if inB a L.t then (if rivF L (Int.toNat a) = 0 then (0, 2) else (rivF L (Int.toNat a), 0)) else (0, 1)
theorem teamA_ok {L : LG} (h : LGok L) (a : Int) : LGok (teamA L a).2 := by
  unfold teamA
  split
  · split
    · exact h
    · refine ⟨by have := h.1; show L.t + 1 ≤ 6; omega, fun k hk => ?_, h.2.2⟩
      show 0 ≤ upL L.w L.t a k ∧ upL L.w L.t a k ≤ 99
      by_cases hkt : k = L.t
      · rw [hkt, upL_s]; assumption
      · rw [upL_n hkt]; exact h.2.1 k hk
  · exact h
theorem gamesA_ok {L : LG} (h : LGok L) (a b v : Int) : LGok (gamesA L a b v).2 := by
  unfold gamesA
  split
  · rename_i hab
    split
    · rename_i hv
      rw [Bool.and_eq_true] at hab
      have ha := inB_t hab.1
      have hb := inB_t hab.2
      have h6 := h.1
      obtain ⟨i, rfl⟩ := Int.eq_ofNat_of_zero_le ha.1
      obtain ⟨j, rfl⟩ := Int.eq_ofNat_of_zero_le hb.1
      rw [tnN, tnN]
      have hij : i ≠ j := by omega
      have ev : ∀ p q, p < 6 → q < 6 → upL (upL L.g (6 * i + j) v) (6 * j + i) v (6 * p + q) = if (p = i ∧ q = j) ∨ (p = j ∧ q = i) then v else L.g (6 * p + q) := fun p q hp hq => by
        by_cases h1 : p = j ∧ q = i
        · rw [if_pos (Or.inr h1), h1.1, h1.2, upL_s]
        · rw [upL_n (by omega)]
          by_cases h2 : p = i ∧ q = j
          · rw [if_pos (Or.inl h2), h2.1, h2.2, upL_s]
          · rw [upL_n (by omega), if_neg (by rintro (z | z); exact h2 z; exact h1 z)]
      refine ⟨h6, h.2.1, fun p q hp hq => ?_⟩
      show (0 ≤ upL (upL L.g (6 * i + j) v) (6 * j + i) v (6 * p + q) ∧ upL (upL L.g (6 * i + j) v) (6 * j + i) v (6 * p + q) ≤ 9) ∧ upL (upL L.g (6 * i + j) v) (6 * j + i) v (6 * p + q) = upL (upL L.g (6 * i + j) v) (6 * j + i) v (6 * q + p)
      rw [ev p q hp hq, ev q p hq hp]
      have h3 := h.2.2 p q hp hq
      by_cases h1 : (p = i ∧ q = j) ∨ (p = j ∧ q = i)
      · rw [if_pos h1, if_pos (by omega)]; omega
      · rw [if_neg h1, if_neg (by omega)]; exact h3
    · exact h
  · exact h
section LGC
variable {X : xX} {c : xCx} {I : xIn} {L : LG}
theorem cn_needTeam (hX : xBase X) (d : Nat) (hC : CLG I L) {a : Int} (ha : xin a) : xRet rU X m_X9_needTeam (d + 7) [xr (0, 0), xi a] c I 1 6 (fun _ I9 => I9 = I ∧ inB a L.t = true) (fun e I9 => e = xIOB ∧ I9 = I ∧ inB a L.t = false) := by
  have h1 := hC.1
  exact xRet_of hX pl_X9_needTeam (LE1 rfl) fun V hV => rg_X9_needTeam_0 hV I _ ⟨ha, fun h => ⟨rfl, rfl, decide_eq_false (by omega)⟩, fun h => ⟨fun h2 => ⟨rfl, decide_eq_true (by omega)⟩, fun h2 => ⟨rfl, rfl, decide_eq_false (by omega)⟩⟩⟩
theorem cn_team (hX : xBase X) (d : Nat) (hL : LGok L) (hC : CLG I L) {a : Int} (ha : xin a) : xRet rI X m_X9_team (d + 7) [xr (0, 0), xi a] c I 1 6 (fun v I9 => kp [(0, 24), (0, 25)] I I9 ∧ (∀ j, j ≠ 0 → I9 (0, 24) j = I (0, 24) j) ∧ CLG I9 (teamA L a).2 ∧ (v, 0) = (teamA L a).1) (fun x I9 => I9 = I ∧ (teamA L a).2 = L ∧ exL [xIAE, xISE] x (teamA L a).1.2) := by
  obtain ⟨h1, h2, h3⟩ := id hC
  have h6 := hL.1
  refine xRet_of hX pl_X9_team (LE1 rfl) fun V hV => rg_X9_team_0 hV I _ ?_
  unfold teamA
  refine ⟨ha, fun h => ?_, fun h => ⟨fun h9 => ⟨fun ht => ?_, fun ht => ?_⟩, fun h9 => ?_⟩⟩
  · rw [if_neg (by omega)]; exact ⟨rfl, rfl, 0, rfl, rfl⟩
  · rw [if_pos ⟨h, h9⟩, if_neg (by omega)]
    refine ⟨fun v I9 => kp [(0, 24), (0, 25)] I I9 ∧ (∀ j, j ≠ 0 → I9 (0, 24) j = I (0, 24) j) ∧ CLG I9 (L.t + 1, upL L.w L.t a, L.g) ∧ v = (L.t : Int), ?_, ?_⟩
    · refine xRet_of hX pl_X2_enter (LE1 rfl) fun V hV => rg_X2_enter_0 hV I _ ⟨fun h => by omega, fun _ => ⟨fun _ => ⟨⟨by omega, by omega⟩, ha, ?_⟩, fun h => by omega⟩⟩
      rw [h1, tnN]
      rintro J1 e1
      have q1 : J1 (0, 24) = I (0, 24) := by rw [e1, xu_p (by decide)]
      rw [q1, h1]
      refine ⟨⟨by omega, by omega⟩, ?_⟩
      rintro J2 e2
      have q2 : J2 (0, 24) = upL (I (0, 24)) 0 ((L.t : Int) + 1) := by rw [e2, xuL, q1]
      refine ⟨by rw [e2, e1]; exact (kp.rfl.xu (by simp)).xu (by simp), fun j hj => by rw [q2, upL_n hj], ⟨by rw [q2, upL_s]; rfl, fun k hk => ?_, fun k hk => ?_⟩, by rw [q2, upL_s]; omega⟩
      · rw [e2, xu_p (by decide), e1, xuL]
        show upL (I (0, 25)) L.t a k = upL L.w L.t a k
        by_cases hkt : k = L.t
        · rw [hkt, upL_s, upL_s]
        · rw [upL_n hkt, upL_n hkt]; exact h2 k hk
      · rw [e2, xu_p (by decide), e1, xu_p (by decide)]; exact h3 k hk
    · rintro v J ⟨k1, k2, k3, rfl⟩
      exact ⟨k1, k2, k3, rfl⟩
  · rw [if_pos ⟨h, h9⟩, if_pos (by omega)]; exact ⟨rfl, rfl, 1, rfl, rfl⟩
  · rw [if_neg (by omega)]; exact ⟨rfl, rfl, 0, rfl, rfl⟩
theorem lg_gamesLeft (hX : xBase X) (d : Nat) (hC : CLG I L) {a b : Nat} (ha : a < 6) (hb : b < 6) : xRet rI X m_X2_gamesLeft d [xr (0, 24), xi (a : Int), xi (b : Int)] c I 0 0 (pv (L.g (6 * a + b)) I) xNo := by
  refine xRet_of hX pl_X2_gamesLeft (LE1 rfl) fun V hV => rg_X2_gamesLeft_0 hV I _ _ ⟨⟨by omega, by omega⟩, pvI ?_⟩
  rw [show Int.toNat ((a : Int) * 6 + (b : Int)) = 6 * a + b by omega]
  exact hC.2.2 _ (by omega)
theorem cn_games (hX : xBase X) (d : Nat) (hL : LGok L) (hC : CLG I L) {a b v : Int} (ha : xin a) (hb : xin b) (hv : xin v) : xRet rI X m_X9_games (d + 8) [xr (0, 0), xi a, xi b, xi v] c I 3 18 (fun w I9 => kp [(0, 26)] I I9 ∧ CLG I9 (gamesA L a b v).2 ∧ (w, 0) = (gamesA L a b v).1) (fun x I9 => I9 = I ∧ (gamesA L a b v).2 = L ∧ exL [xIOB, xIAE] x (gamesA L a b v).1.2) := by
  have h6 := hL.1
  refine xRet_of hX pl_X9_games (LE1 rfl) fun V hV => rg_X9_games_0 hV I _ _ _ ⟨_, _, cn_needTeam hX d hC ha, ?_, ?_⟩
  · rintro x J ⟨rfl, rfl, hn⟩
    unfold gamesA
    rw [hn]
    exact ⟨rfl, rfl, 0, rfl, rfl⟩
  rintro _ J ⟨rfl, ha9⟩
  refine ⟨_, _, cn_needTeam hX d hC hb, ?_, ?_⟩
  · rintro x J ⟨rfl, rfl, hn⟩
    unfold gamesA
    rw [ha9, hn]
    exact ⟨rfl, rfl, 0, rfl, rfl⟩
  rintro _ J ⟨rfl, hb9⟩
  unfold gamesA
  rw [ha9, hb9]
  rw [if_pos (show (true && true) = true from rfl)]
  have ha := inB_t ha9
  have hb := inB_t hb9
  obtain ⟨i, rfl⟩ := Int.eq_ofNat_of_zero_le ha.1
  obtain ⟨j, rfl⟩ := Int.eq_ofNat_of_zero_le hb.1
  rw [tnN, tnN]
  refine ⟨⟨by omega, by omega⟩, ⟨by omega, by omega⟩, fun hne => ⟨hv, fun h => ?_, fun h => ⟨fun h9 => ?_, fun h9 => ?_⟩⟩, fun he => ?_⟩
  · rw [if_neg (by omega)]; exact ⟨rfl, rfl, 1, rfl, rfl⟩
  · rw [if_pos ⟨hne, h, h9⟩]
    refine ⟨_, lg_gamesLeft hX (d + 7) hC (a := i) (b := j) (by omega) (by omega), ?_⟩
    rintro _ J ⟨rfl, rfl⟩
    refine ⟨fun _ I9 => kp [(0, 26)] J I9 ∧ I9 (0, 26) = upL (upL (J (0, 26)) (6 * i + j) v) (6 * j + i) v, ?_, ?_⟩
    · refine xRet_of hX pl_X2_setGames (LE1 rfl) fun V hV => rg_X2_setGames_0 hV J _ _ _ ⟨⟨by omega, by omega⟩, hv, ?_⟩
      rw [show Int.toNat ((i : Int) * 6 + (j : Int)) = 6 * i + j by omega, show Int.toNat ((j : Int) * 6 + (i : Int)) = 6 * j + i by omega]
      rintro J1 rfl
      refine ⟨⟨by omega, by omega⟩, ?_⟩
      rintro J2 rfl
      exact ⟨(kp.rfl.xu (by simp)).xu (by simp), by rw [xuL, xuL]⟩
    · rintro _ J2 ⟨k1, k2⟩
      refine ⟨k1, ⟨by rw [k1 _ (by decide)]; exact hC.1, fun k hk => by rw [k1 _ (by decide)]; exact hC.2.1 k hk, fun k hk => ?_⟩, rfl⟩
      rw [k2]
      show upL (upL (J (0, 26)) (6 * i + j) v) (6 * j + i) v k = upL (upL L.g (6 * i + j) v) (6 * j + i) v k
      by_cases e1 : k = 6 * j + i
      · rw [e1, upL_s, upL_s]
      · rw [upL_n e1, upL_n e1]
        by_cases e2 : k = 6 * i + j
        · rw [e2, upL_s, upL_s]
        · rw [upL_n e2, upL_n e2]; exact hC.2.2 k hk
  · rw [if_neg (by omega)]; exact ⟨rfl, rfl, 1, rfl, rfl⟩
  · rw [if_neg (by omega)]; exact ⟨rfl, rfl, 1, rfl, rfl⟩
theorem lg_winsTogether (hX : xBase X) (d : Nat) (hL : LGok L) (hC : CLG I L) {S : Nat} (hS : S ≤ 2147483647) : xRet rI X m_X2_winsTogether (d + 1) [xr (0, 24), xi (S : Int)] c I 0 0 (pv (WTr L S) I) xNo := by
  rw [← WT_eq hL]
  obtain ⟨h1, h2, h3⟩ := id hC
  have h6 := hL.1
  refine xRet_of hX pl_X2_winsTogether (LE1 rfl) fun V hV => rg_X2_winsTogether_0 hV I _ ?_
  refine up_to0 (m := L.t) (W := fun a => V 4 [(0, xr (0, 24)), (1, xi (S : Int)), (2, xi (sumE a (fun a => if S.testBit a then L.w a + sumE L.t (fun b => if decide (a < b) && S.testBit b then L.g (6 * a + b) else 0) else 0))), (3, xi (a : Int))] [] (I, xst c) 0 0) ?_ ?_
  · exact rg_X2_winsTogether_4 hV I _ _ _ ⟨⟨by omega, by omega⟩, fun _ => pvI rfl, fun h => by omega⟩
  · intro a ha ih
    rw [sumE] at ih
    refine rg_X2_winsTogether_4 hV I _ _ _ ⟨⟨by omega, by omega⟩, fun h => by omega, fun _ => ⟨_, cn_hasBit hX d hS (by omega), ?_⟩⟩
    rintro _ I ⟨rfl, rfl⟩
    refine ⟨fun z => by rw [z] at ih; simpa using ih, fun z => ⟨⟨by omega, by omega⟩, ?_⟩⟩
    rintro x hx
    rw [tnN, h2 a (by omega)] at hx
    rw [if_pos z] at ih
    have e0 : sumE (a + 1) (fun b => if decide (a < b) && S.testBit b then L.g (6 * a + b) else 0) = 0 := sumE_0 fun b hb => by rw [decide_eq_false (by omega)]; rfl
    have loop := up_to (m := L.t) (W := fun b => a < b → V 34 [(0, xr (0, 24)), (1, xi (S : Int)), (2, xi (x + sumE b (fun b => if decide (a < b) && S.testBit b then L.g (6 * a + b) else 0))), (3, xi (a : Int)), (4, xi (b : Int))] [] (I, xst c) 0 0) ?_ ?_ (a + 1) (by omega) (by omega)
    · rw [e0, Int.add_zero] at loop
      exact loop
    · intro _
      refine rg_X2_winsTogether_34 hV _ _ _ _ _ ⟨⟨by omega, by omega⟩, fun _ => ?_, fun h => by omega⟩
      rw [hx, Int.add_assoc]
      exact ih
    · intro b hb ih2 hab
      have ih2 := ih2 (by omega)
      rw [sumE, decide_eq_true hab, Bool.true_and] at ih2
      refine rg_X2_winsTogether_34 hV _ _ _ _ _ ⟨⟨by omega, by omega⟩, fun h => by omega, fun _ => ⟨_, cn_hasBit hX d hS (by omega), ?_⟩⟩
      rintro _ _ ⟨rfl, rfl⟩
      refine ⟨fun y => ?_, fun y => ⟨_, lg_gamesLeft hX d hC (a := a) (b := b) (by omega) (by omega), ?_⟩⟩
      · rw [y] at ih2
        rw [Int.add_zero]
        simpa using ih2
      · rintro _ _ ⟨rfl, rfl⟩
        rw [if_pos y] at ih2
        rw [Int.add_assoc]
        exact ih2
theorem lg_leastRivals (hX : xBase X) (d : Nat) (hL : LGok L) (hC : CLG I L) {k : Nat} (hk : k < L.t) : xRet rI X m_X2_leastRivals (d + 2) [xr (0, 24), xi (k : Int)] c I 0 0 (pv (rivF L k) I) xNo := by
  obtain ⟨h1, h2, h3⟩ := id hC
  have h6 := hL.1
  have g2 := pow2_le8 (show L.t ≤ 8 by omega)
  have hsh := v_pow (show L.t ≤ 8 by omega)
  have gp : 0 < 2 ^ L.t := Nat.two_pow_pos _
  generalize hN : 2 ^ L.t = N at g2 hsh gp
  refine xRet_of hX pl_X2_leastRivals (LE1 rfl) fun V hV => rg_X2_leastRivals_0 hV I _ ⟨⟨by omega, by omega⟩, ?_⟩
  rintro x hx
  rw [tnN, h2 k (by omega)] at hx
  refine up_to0 (m := L.t) (W := fun b => V 9 [(0, xr (0, 24)), (1, xi (k : Int)), (2, xi (x + sumE b (fun b => L.g (6 * k + b)))), (3, xi (b : Int))] [] (I, xst c) 0 0) ?_ ?_ |> fun w => by rw [sumE, Int.add_zero] at w; exact w
  · refine rg_X2_leastRivals_9 hV I _ _ _ ⟨⟨by omega, by omega⟩, fun _ => ?_, fun h => by omega⟩
    have hr : x + sumE L.t (fun b => L.g (6 * k + b)) = reachF L k := by rw [hx]; rfl
    rw [hr]
    have hrb := reach_bd hL (show k < 6 by omega)
    refine up_to (m := N) (W := fun S => (∀ T, T < S → rivP L k T = false) → V 34 [(0, xr (0, 24)), (1, xi (k : Int)), (2, xi (reachF L k)), (3, xi (S : Int))] [] (I, xst c) 0 0) ?_ ?_ 1 gp (fun T hT => by rw [show T = 0 by omega]; exact rivP_0 L k)
    · intro hno
      refine rg_X2_leastRivals_34 hV I _ _ _ ⟨⟨by omega, by omega⟩, fun _ => pvI (rivF_none hN hno).symm, fun h => ?_⟩
      rw [h1, hsh] at h; omega
    · intro S hS ih hno
      have hS2 : S ≤ 2147483647 := by omega
      have next : rivP L k S = false → ∀ T, T < S + 1 → rivP L k T = false := fun h T hT => by
        by_cases hTS : T = S
        · rw [hTS]; exact h
        · exact hno T (by omega)
      have hwb := WTr_bd hL S
      have hpc := bitsN_le S 8
      have hmul : 0 ≤ ((pc8 S : Nat) : Int) * reachF L k ∧ ((pc8 S : Nat) : Int) * reachF L k ≤ 8 * 153 := ⟨Int.mul_nonneg (by omega) hrb.1, Int.mul_le_mul (by show ((bitsN S 8 : Nat) : Int) ≤ 8; omega) hrb.2 hrb.1 (by decide)⟩
      have hdef : rivP L k S = (!S.testBit k && decide ((pc8 S : Int) * reachF L k < WTr L S)) := rfl
      refine rg_X2_leastRivals_34 hV I _ _ _ ⟨⟨by omega, by omega⟩, fun h => ?_, fun _ => ⟨_, cn_hasBit hX (d + 1) hS2 (by omega), ?_⟩⟩
      · rw [h1, hsh] at h; omega
      rintro _ I ⟨rfl, rfl⟩
      refine ⟨fun z => ih (next (by rw [hdef, z]; rfl)), fun z => ⟨_, lg_winsTogether hX d hL hC hS2, ?_⟩⟩
      rintro _ I ⟨rfl, rfl⟩
      refine ⟨_, jd_bitCount hX (d + 1) rfl (by omega), ?_⟩
      rintro _ I ⟨rfl, rfl⟩
      refine ⟨⟨by omega, by omega⟩, ⟨by omega, by omega⟩, fun h => ih (next ?_), fun h => pvI (rivF_hit hN hS ?_ hno).symm⟩
      · rw [hdef, z, decide_eq_false (by omega)]; rfl
      · rw [hdef, z, decide_eq_true h]; rfl
  · intro b hb ih
    rw [sumE] at ih
    refine rg_X2_leastRivals_9 hV I _ _ _ ⟨⟨by omega, by omega⟩, fun h => by omega, fun _ => ⟨_, lg_gamesLeft hX (d + 1) hC (a := k) (b := b) (by omega) (by omega), ?_⟩⟩
    rintro _ _ ⟨rfl, rfl⟩
    rw [Int.add_assoc]
    exact ih
theorem cn_canWin (hX : xBase X) (d : Nat) (hL : LGok L) (hC : CLG I L) {a : Int} (ha : xin a) : xRet rB X m_X9_canWin (d + 8) [xr (0, 0), xi a] c I 1 6 (fun v I9 => I9 = I ∧ (v, 0) = canWinA L a) (fun x I9 => I9 = I ∧ exL [xIOB] x (canWinA L a).2) := by
  refine xRet_of hX pl_X9_canWin (LE1 rfl) fun V hV => rg_X9_canWin_0 hV I _ ⟨_, _, cn_needTeam hX d hC ha, ?_, ?_⟩
  · rintro x J ⟨rfl, rfl, hn⟩
    unfold canWinA
    rw [hn]
    exact ⟨rfl, 0, rfl, rfl⟩
  rintro _ J ⟨rfl, ha9⟩
  unfold canWinA
  rw [ha9]
  have ha := inB_t ha9
  obtain ⟨k, rfl⟩ := Int.eq_ofNat_of_zero_le ha.1
  have hb := rivF_bd hL k
  refine ⟨_, lg_leastRivals hX (d + 5) hL hC (show k < L.t by omega), ?_⟩
  rintro _ _ ⟨rfl, rfl⟩
  refine ⟨⟨by omega, by omega⟩, fun h => ⟨rfl, ?_⟩, fun h => ⟨rfl, ?_⟩⟩
  · rw [if_pos rfl, tnN, decide_eq_false h]
  · rw [if_pos rfl, tnN, decide_eq_true h]
theorem cn_against (hX : xBase X) (d : Nat) (hL : LGok L) (hC : CLG I L) {a : Int} (ha : xin a) : xRet rI X m_X9_against (d + 8) [xr (0, 0), xi a] c I 2 12 (fun v I9 => I9 = I ∧ (v, 0) = againstA L a) (fun x I9 => I9 = I ∧ exL [xIOB, xNSE] x (againstA L a).2) := by
  refine xRet_of hX pl_X9_against (LE1 rfl) fun V hV => rg_X9_against_0 hV I _ ⟨_, _, cn_needTeam hX d hC ha, ?_, ?_⟩
  · rintro x J ⟨rfl, rfl, hn⟩
    unfold againstA
    rw [hn]
    exact ⟨rfl, 0, rfl, rfl⟩
  rintro _ J ⟨rfl, ha9⟩
  unfold againstA
  rw [ha9]
  have ha := inB_t ha9
  obtain ⟨k, rfl⟩ := Int.eq_ofNat_of_zero_le ha.1
  have hb := rivF_bd hL k
  refine ⟨_, lg_leastRivals hX (d + 5) hL hC (show k < L.t by omega), ?_⟩
  rintro _ _ ⟨rfl, rfl⟩
  refine ⟨⟨by omega, by omega⟩, fun h => ⟨rfl, ?_⟩, fun h => ⟨rfl, ?_⟩⟩
  · rw [if_pos rfl, tnN, if_neg h]
  · rw [if_pos rfl, tnN, if_pos h]; exact ⟨1, rfl, rfl⟩
/-! .. by the reference -/
theorem MLG.keep {J : xIn} (h : MLG I L) (hk : keepM I J) : MLG J L := by
  unfold MLG
  rw [hk.2 10 (by decide) (by decide) (by decide), hk.1 (1, 10) (Or.inr (by decide)), hk.1 (1, 11) (Or.inr (by decide))]
  exact h
/-- what of the reference is no league -/
def kpLG (I J : xIn) : Prop := kp [(1, 0), (1, 10), (1, 11)] I J ∧ ∀ k, k ≠ 10 → k ≠ 32 → J (1, 0) k = I (1, 0) k
theorem ok_team (hX : xBase X) (d : Nat) (hL : LGok L) (hM : MLG I L) {a : Int} (ha : xin a) : xRet rI X m_X10_team (d + 1) [xr (1, 0), xi a] c I 0 0 (fun v I9 => kpLG I I9 ∧ MLG I9 (teamA L a).2 ∧ (v, I9 (1, 0) 32) = (teamA L a).1) xNo := by
  obtain ⟨h1, h2, h3⟩ := id hM
  have h6 := hL.1
  refine xRet_of hX pl_X10_team (LE1 rfl) fun V hV => ?_
  have bad : ∀ w : Int, 0 < w → w ≤ 3 → teamA L a = ((0, w), L) → V 29 [(0, xr (1, 0)), (1, xi a)] [xi w, xr (1, 0)] (I, xst c) 0 0 := fun w w0 w3 hA => rg_X10_team_29 hV I _ _ ⟨⟨by omega, by omega⟩, by
    rintro J rfl
    rw [xu_same]
    exact ⟨fun h => by omega, fun _ => ⟨⟨kp.rfl.xu (by simp), fun k _ hk => xu_k hk⟩, by rw [hA]; exact hM.keep (keepM.thrown _), by rw [hA]⟩⟩⟩
  refine rg_X10_team_0 hV I _ ⟨_, ok_in hX d ha ⟨by decide, by decide⟩ ⟨by decide, by decide⟩, ?_⟩
  rintro _ I ⟨rfl, rfl⟩
  refine ⟨fun z => ?_, fun z => bad 1 (by decide) (by decide) (by unfold teamA; rw [if_neg (of_decide_eq_false z)])⟩
  have z := of_decide_eq_true z
  refine ⟨fun h => ?_, fun h => bad 2 (by decide) (by decide) (by unfold teamA; rw [if_pos z, if_pos (by omega)])⟩
  have hA : teamA L a = (((L.t : Int), 0), (L.t + 1, upL L.w L.t a, L.g)) := by unfold teamA; rw [if_pos z, if_neg (by omega)]
  refine rg_X10_team_29 hV I _ _ ⟨⟨by decide, by decide⟩, ?_⟩
  rintro J1 e1
  have j32 : J1 (1, 0) 32 = 0 := by rw [e1, xu_same]
  have j10 : J1 (1, 0) 10 = (L.t : Int) := by rw [e1, xu_k (by decide)]; exact h1
  rw [j32, j10, tnN]
  refine ⟨fun _ => ⟨⟨by omega, by omega⟩, ha, ?_⟩, fun w => absurd w (by decide)⟩
  rintro J2 e2
  have q2 : J2 (1, 0) = J1 (1, 0) := by rw [e2, xu_p (by decide)]
  rw [q2, j10]
  refine ⟨⟨by omega, by omega⟩, ?_⟩
  rintro J3 e3
  have q3 : J3 (1, 0) = upL (J1 (1, 0)) 10 ((L.t : Int) + 1) := by rw [e3, xuL, q2]
  have r10 : J3 (1, 10) = upL (I (1, 10)) L.t a := by rw [e3, xu_p (by decide), e2, xuL, e1, xu_p (by decide)]
  have r11 : J3 (1, 11) = I (1, 11) := by rw [e3, xu_p (by decide), e2, xu_p (by decide), e1, xu_p (by decide)]
  refine ⟨⟨by rw [e3, e2, e1]; exact ((kp.rfl.xu (by simp)).xu (by simp)).xu (by simp), fun k k10 k32 => by rw [q3, upL_n k10, e1, xu_k k32]⟩, ?_, by rw [hA, q3, upL_s, upL_n (by decide), j32, show (L.t : Int) + 1 - 1 = (L.t : Int) by omega]⟩
  rw [hA]
  refine ⟨by rw [q3, upL_s]; rfl, fun k hk => ?_, fun k hk => by rw [r11]; exact h3 k hk⟩
  rw [r10]
  show upL (I (1, 10)) L.t a k = upL L.w L.t a k
  by_cases hkt : k = L.t
  · rw [hkt, upL_s, upL_s]
  · rw [upL_n hkt, upL_n hkt]; exact h2 k hk
theorem ok_games (hX : xBase X) (d : Nat) (hL : LGok L) (hM : MLG I L) {a b v : Int} (ha : xin a) (hb : xin b) (hv : xin v) : xRet rI X m_X10_games (d + 1) [xr (1, 0), xi a, xi b, xi v] c I 0 0 (fun w I9 => kpLG I I9 ∧ MLG I9 (gamesA L a b v).2 ∧ (w, I9 (1, 0) 32) = (gamesA L a b v).1) xNo := by
  obtain ⟨h1, h2, h3⟩ := id hM
  have h6 := hL.1
  refine xRet_of hX pl_X10_games (LE1 rfl) fun V hV => ?_
  have bad : ∀ w : Int, 0 < w → w ≤ 3 → gamesA L a b v = ((0, w), L) → V 53 [(0, xr (1, 0)), (1, xi a), (2, xi b), (3, xi v)] [xi w, xr (1, 0)] (I, xst c) 0 0 := fun w w0 w3 hA => rg_X10_games_53 hV I _ _ _ _ ⟨⟨by omega, by omega⟩, by
    rintro J rfl
    rw [xu_same]
    exact ⟨fun h => by omega, fun _ => ⟨⟨kp.rfl.xu (by simp), fun k _ hk => xu_k hk⟩, by rw [hA]; exact hM.keep (keepM.thrown _), by rw [hA]⟩⟩⟩
  refine rg_X10_games_0 hV I _ _ _ ⟨_, ok_in hX d ha ⟨by decide, by decide⟩ ⟨by omega, by omega⟩, ?_⟩
  rintro _ I ⟨rfl, rfl⟩
  rw [h1]
  have e0 : ∀ y, inB y (L.t : Int) = decide (0 ≤ y ∧ y ≤ (L.t : Int) - 1) := fun _ => rfl
  rw [← e0]
  refine ⟨fun z => rg_X10_games_29 hV I _ _ _ (bad 1 (by decide) (by decide) (by unfold gamesA; rw [z]; rfl)), fun z => ⟨_, ok_in hX d hb ⟨by decide, by decide⟩ ⟨by omega, by omega⟩, ?_⟩⟩
  rintro _ I ⟨rfl, rfl⟩
  rw [← e0]
  refine ⟨fun y => ⟨ha, hb, fun he => rg_X10_games_48 hV I _ _ _ (bad 2 (by decide) (by decide) (by unfold gamesA; rw [z, y, if_pos (show (true && true) = true from rfl), if_neg (by omega)])), fun hne => ⟨_, ok_in hX d hv ⟨by decide, by decide⟩ ⟨by decide, by decide⟩, ?_⟩⟩, fun y => rg_X10_games_29 hV I _ _ _ (bad 1 (by decide) (by decide) (by unfold gamesA; rw [z, y]; rfl))⟩
  rintro _ I ⟨rfl, rfl⟩
  refine ⟨fun x => ?_, fun x => rg_X10_games_48 hV I _ _ _ (bad 2 (by decide) (by decide) (by
    have x := of_decide_eq_false x
    unfold gamesA; rw [z, y, if_pos (show (true && true) = true from rfl), if_neg (by omega)]))⟩
  have x := of_decide_eq_true x
  have hA : gamesA L a b v = ((L.g (6 * Int.toNat a + Int.toNat b), 0), (L.t, L.w, upL (upL L.g (6 * Int.toNat a + Int.toNat b) v) (6 * Int.toNat b + Int.toNat a) v)) := by unfold gamesA; rw [z, y, if_pos (show (true && true) = true from rfl), if_pos ⟨hne, x.1, x.2⟩]
  have ha := inB_t z
  have hb := inB_t y
  obtain ⟨i, rfl⟩ := Int.eq_ofNat_of_zero_le ha.1
  obtain ⟨j, rfl⟩ := Int.eq_ofNat_of_zero_le hb.1
  rw [tnN, tnN] at hA
  refine rg_X10_games_53 hV I _ _ _ _ ⟨⟨by decide, by decide⟩, ?_⟩
  rintro J1 e1
  have j32 : J1 (1, 0) 32 = 0 := by rw [e1, xu_same]
  rw [j32, show Int.toNat (6 * (i : Int) + (j : Int)) = 6 * i + j by omega, show Int.toNat (6 * (j : Int) + (i : Int)) = 6 * j + i by omega]
  refine ⟨fun _ => ⟨⟨by omega, by omega⟩, ?_⟩, fun w => absurd w (by decide)⟩
  rintro w hw
  refine ⟨hv, ?_⟩
  rintro J2 e2
  refine ⟨⟨by omega, by omega⟩, ?_⟩
  rintro J3 e3
  have q3 : J3 (1, 0) = J1 (1, 0) := by rw [e3, xu_p (by decide), e2, xu_p (by decide)]
  have r10 : J3 (1, 10) = I (1, 10) := by rw [e3, xu_p (by decide), e2, xu_p (by decide), e1, xu_p (by decide)]
  have r11 : J3 (1, 11) = upL (upL (I (1, 11)) (6 * i + j) v) (6 * j + i) v := by rw [e3, xuL, e2, xuL, e1, xu_p (by decide)]
  refine ⟨⟨by rw [e3, e2, e1]; exact ((kp.rfl.xu (by simp)).xu (by simp)).xu (by simp), fun k k10 k32 => by rw [q3, e1, xu_k k32]⟩, ?_, by rw [hA, q3, j32, hw, e1, xu_p (by decide), h3 _ (by omega)]⟩
  rw [hA]
  refine ⟨by rw [q3, e1, xu_k (by decide)]; exact h1, fun k hk => by rw [r10]; exact h2 k hk, fun k hk => ?_⟩
  rw [r11]
  show upL (upL (I (1, 11)) (6 * i + j) v) (6 * j + i) v k = upL (upL L.g (6 * i + j) v) (6 * j + i) v k
  by_cases e1 : k = 6 * j + i
  · rw [e1, upL_s, upL_s]
  · rw [upL_n e1, upL_n e1]
    by_cases e2 : k = 6 * i + j
    · rw [e2, upL_s, upL_s]
    · rw [upL_n e2, upL_n e2]; exact h3 k hk
theorem ok_winsOf (hX : xBase X) (d : Nat) (hL : LGok L) (hM : MLG I L) {S : Nat} (hS : S ≤ 2147483647) : xRet rI X m_X10_winsOf (d + 1) [xr (1, 0), xi (S : Int)] c I 0 0 (pv (WTr L S) I) xNo := by
  obtain ⟨h1, h2, h3⟩ := id hM
  have h6 := hL.1
  refine xRet_of hX pl_X10_winsOf (LE1 rfl) fun V hV => rg_X10_winsOf_0 hV I _ ?_
  refine up_to0 (m := L.t) (W := fun a => V 4 [(0, xr (1, 0)), (1, xi (S : Int)), (2, xi (sumE a (fun a => (if S.testBit a then L.w a else 0) + sumE a (fun b => if S.testBit a && S.testBit b then L.g (6 * a + b) else 0)))), (3, xi (a : Int))] [] (I, xst c) 0 0) ?_ ?_
  · exact rg_X10_winsOf_4 hV I _ _ _ ⟨⟨by omega, by omega⟩, fun _ => pvI rfl, fun h => by omega⟩
  · intro a ha ih
    rw [sumE] at ih
    have inner : ∀ x : Int, x = sumE a (fun a => (if S.testBit a then L.w a else 0) + sumE a (fun b => if S.testBit a && S.testBit b then L.g (6 * a + b) else 0)) + (if S.testBit a then L.w a else 0) → V 36 [(0, xr (1, 0)), (1, xi (S : Int)), (2, xi x), (3, xi (a : Int)), (4, xi 0)] [] (I, xst c) 0 0 := by
      rintro x hx
      refine up_to0 (m := a) (W := fun b => V 36 [(0, xr (1, 0)), (1, xi (S : Int)), (2, xi (x + sumE b (fun b => if S.testBit a && S.testBit b then L.g (6 * a + b) else 0))), (3, xi (a : Int)), (4, xi (b : Int))] [] (I, xst c) 0 0) ?_ ?_ |> fun w => by rw [sumE, Int.add_zero] at w; exact w
      · refine rg_X10_winsOf_36 hV I _ _ _ _ ⟨⟨by omega, by omega⟩, ⟨by omega, by omega⟩, fun _ => ?_, fun h => by omega⟩
        rw [hx, Int.add_assoc]
        exact ih
      · intro b hb ih2
        rw [sumE] at ih2
        refine rg_X10_winsOf_36 hV I _ _ _ _ ⟨⟨by omega, by omega⟩, ⟨by omega, by omega⟩, fun h => by omega, fun _ => ⟨_, ok_has hX d rfl rfl hS (by omega), ?_⟩⟩
        rintro _ _ ⟨rfl, rfl⟩
        refine ⟨fun y => ?_, fun y => ⟨_, ok_has hX d rfl rfl hS (by omega), ?_⟩⟩
        · rw [if_neg (show ¬ (S.testBit a && S.testBit b) = true by rw [y]; simp), Int.add_zero] at ih2
          rw [Int.add_zero]
          exact ih2
        · rintro _ _ ⟨rfl, rfl⟩
          refine ⟨fun z => ?_, fun z => ⟨⟨by omega, by omega⟩, ?_⟩⟩
          · rw [if_neg (show ¬ (S.testBit a && S.testBit b) = true by rw [z]; simp), Int.add_zero] at ih2
            rw [Int.add_zero]
            exact ih2
          · rw [show Int.toNat (6 * (a : Int) + (b : Int)) = 6 * a + b by omega, h3 _ (by omega)]
            rintro _ rfl
            rw [if_pos (show (S.testBit a && S.testBit b) = true by rw [y, z]; rfl)] at ih2
            rw [Int.add_assoc]
            exact ih2
    refine rg_X10_winsOf_4 hV I _ _ _ ⟨⟨by omega, by omega⟩, fun h => by omega, fun _ => ⟨_, ok_has hX d rfl rfl hS (by omega), ?_⟩⟩
    rintro _ _ ⟨rfl, rfl⟩
    refine ⟨fun z => inner _ (by rw [z]; rfl), fun z => ⟨⟨by omega, by omega⟩, ?_⟩⟩
    rintro x hx
    rw [tnN, h2 a (by omega)] at hx
    exact inner _ (by rw [hx, z]; rfl)
theorem ok_proofAgainst (hX : xBase X) (d : Nat) (hL : LGok L) (hM : MLG I L) {k : Nat} (hk : k < L.t) : xRet rI X m_X10_proofAgainst (d + 2) [xr (1, 0), xi (k : Int)] c I 0 0 (pv (rivF L k) I) xNo := by
  obtain ⟨h1, h2, h3⟩ := id hM
  have h6 := hL.1
  have g2 := pow2_le8 (show L.t ≤ 8 by omega)
  have hsh := v_pow (show L.t ≤ 8 by omega)
  have gp : 0 < 2 ^ L.t := Nat.two_pow_pos _
  generalize hN : 2 ^ L.t = N at g2 hsh gp
  refine xRet_of hX pl_X10_proofAgainst (LE1 rfl) fun V hV => rg_X10_proofAgainst_0 hV I _ ⟨⟨by omega, by omega⟩, ?_⟩
  rintro x hx
  rw [tnN, h2 k (by omega)] at hx
  refine up_to0 (m := L.t) (W := fun b => V 9 [(0, xr (1, 0)), (1, xi (k : Int)), (2, xi (x + sumE b (fun b => L.g (6 * k + b)))), (3, xi (b : Int))] [] (I, xst c) 0 0) ?_ ?_ |> fun w => by rw [sumE, Int.add_zero] at w; exact w
  · refine rg_X10_proofAgainst_9 hV I _ _ _ ⟨⟨by omega, by omega⟩, fun _ => ?_, fun h => by omega⟩
    have hr : x + sumE L.t (fun b => L.g (6 * k + b)) = reachF L k := by rw [hx]; rfl
    rw [hr]
    have hrb := reach_bd hL (show k < 6 by omega)
    refine up_to (m := N) (W := fun S => (∀ T, T < S → rivP L k T = false) → V 39 [(0, xr (1, 0)), (1, xi (k : Int)), (2, xi (reachF L k)), (3, xi (S : Int))] [] (I, xst c) 0 0) ?_ ?_ 1 gp (fun T hT => by rw [show T = 0 by omega]; exact rivP_0 L k)
    · intro hno
      refine rg_X10_proofAgainst_39 hV I _ _ _ ⟨⟨by omega, by omega⟩, fun _ => pvI (rivF_none hN hno).symm, fun h => ?_⟩
      rw [h1, hsh] at h; omega
    · intro S hS ih hno
      have hS2 : S ≤ 2147483647 := by omega
      have next : rivP L k S = false → ∀ T, T < S + 1 → rivP L k T = false := fun h T hT => by
        by_cases hTS : T = S
        · rw [hTS]; exact h
        · exact hno T (by omega)
      have hwb := WTr_bd hL S
      have hmul : 0 ≤ ((pc8 S : Nat) : Int) * reachF L k ∧ ((pc8 S : Nat) : Int) * reachF L k ≤ 8 * 153 := ⟨Int.mul_nonneg (by omega) hrb.1, Int.mul_le_mul (by have := bitsN_le S 8; show ((bitsN S 8 : Nat) : Int) ≤ 8; omega) hrb.2 hrb.1 (by decide)⟩
      have hdef : rivP L k S = (!S.testBit k && decide ((pc8 S : Int) * reachF L k < WTr L S)) := rfl
      refine rg_X10_proofAgainst_39 hV I _ _ _ ⟨⟨by omega, by omega⟩, fun h => ?_, fun _ => ⟨_, ok_has hX (d + 1) rfl rfl hS2 (by omega), ?_⟩⟩
      · rw [h1, hsh] at h; omega
      rintro _ I ⟨rfl, rfl⟩
      refine ⟨fun z => ih (next (by rw [hdef, z]; rfl)), fun z => ⟨_, ok_winsOf hX d hL hM hS2, ?_⟩⟩
      rintro _ I ⟨rfl, rfl⟩
      refine ⟨_, ok_bits hX d rfl hS2, ?_⟩
      rintro _ I ⟨rfl, rfl⟩
      refine ⟨⟨by omega, by omega⟩, ⟨by omega, by omega⟩, fun h => ih (next ?_), fun h => pvI (rivF_hit hN hS ?_ hno).symm⟩
      · rw [hdef, z, decide_eq_false (by omega)]; rfl
      · rw [hdef, z, decide_eq_true h]; rfl
  · intro b hb ih
    rw [sumE] at ih
    refine rg_X10_proofAgainst_9 hV I _ _ _ ⟨⟨by omega, by omega⟩, fun h => by omega, fun _ => ⟨⟨by omega, by omega⟩, ?_⟩⟩
    rw [show Int.toNat (6 * (k : Int) + (b : Int)) = 6 * k + b by omega, h3 _ (by omega)]
    rintro _ rfl
    rw [Int.add_assoc]
    exact ih
theorem ok_canWin (hX : xBase X) (d : Nat) (hL : LGok L) (hM : MLG I L) {a : Int} (ha : xin a) : xRet rB X m_X10_canWin (d + 4) [xr (1, 0), xi a] c I 0 0 (fun v I9 => keepM I I9 ∧ (v, I9 (1, 0) 32) = canWinA L a) xNo := by
  have h6 := hL.1
  have h1 := hM.1
  refine xRet_of hX pl_X10_canWin (LE1 rfl) fun V hV => rg_X10_canWin_0 hV I _ ⟨_, ok_in hX (d + 3) ha ⟨by decide, by decide⟩ ⟨by omega, by omega⟩, ?_⟩
  rintro _ I ⟨rfl, rfl⟩
  rw [h1]
  have e0 : ∀ y, inB y (L.t : Int) = decide (0 ≤ y ∧ y ≤ (L.t : Int) - 1) := fun _ => rfl
  rw [← e0]
  refine ⟨fun z => rg_X10_canWin_20 hV I _ _ ⟨⟨by decide, by decide⟩, ?_⟩, fun z => rg_X10_canWin_20 hV I _ _ ⟨⟨by decide, by decide⟩, ?_⟩⟩
  · rintro J h1
    have j32 : J (1, 0) 32 = 0 := by rw [h1, xu_same]
    have k1 : keepM I J := by rw [h1]; exact keepM.thrown _
    clear h1
    have hz := inB_t z
    obtain ⟨k, rfl⟩ := Int.eq_ofNat_of_zero_le hz.1
    have hb := rivF_bd hL k
    refine ⟨fun w => absurd j32 w, fun _ => ⟨_, ok_proofAgainst hX (d + 1) hL (hM.keep k1) (show k < L.t by omega), ?_⟩⟩
    rintro _ J ⟨rfl, rfl⟩
    unfold canWinA
    rw [z, if_pos rfl, tnN]
    refine ⟨⟨by omega, by omega⟩, fun h => ⟨k1, by rw [j32, decide_eq_false h]⟩, fun h => ⟨k1, by rw [j32, decide_eq_true h]⟩⟩
  · rintro J h1
    have j32 : J (1, 0) 32 = 1 := by rw [h1, xu_same]
    have k1 : keepM I J := by rw [h1]; exact keepM.thrown _
    exact ⟨fun _ => ⟨k1, by unfold canWinA; rw [z, j32]; rfl⟩, fun w => by omega⟩
theorem ok_against (hX : xBase X) (d : Nat) (hL : LGok L) (hM : MLG I L) {a : Int} (ha : xin a) : xRet rI X m_X10_against (d + 4) [xr (1, 0), xi a] c I 0 0 (fun v I9 => keepM I I9 ∧ (v, I9 (1, 0) 32) = againstA L a) xNo := by
  have h6 := hL.1
  have h1 := hM.1
  refine xRet_of hX pl_X10_against (LE1 rfl) fun V hV => ?_
  have bad : ∀ w : Int, 0 < w → w ≤ 3 → againstA L a = (0, w) → V 32 [(0, xr (1, 0)), (1, xi a)] [xi w, xr (1, 0)] (I, xst c) 0 0 := fun w w0 w3 hA => rg_X10_against_32 hV I _ _ ⟨⟨by omega, by omega⟩, by
    rintro J rfl
    rw [xu_same]
    exact ⟨fun h => by omega, fun _ => ⟨keepM.thrown _, by rw [hA]⟩⟩⟩
  refine rg_X10_against_0 hV I _ ⟨_, ok_in hX (d + 3) ha ⟨by decide, by decide⟩ ⟨by omega, by omega⟩, ?_⟩
  rintro _ I ⟨rfl, rfl⟩
  rw [h1]
  have e0 : ∀ y, inB y (L.t : Int) = decide (0 ≤ y ∧ y ≤ (L.t : Int) - 1) := fun _ => rfl
  rw [← e0]
  refine ⟨fun z => ?_, fun z => bad 1 (by decide) (by decide) (by unfold againstA; rw [z]; rfl)⟩
  have hz := inB_t z
  obtain ⟨k, rfl⟩ := Int.eq_ofNat_of_zero_le hz.1
  have hb := rivF_bd hL k
  have hA : againstA L (k : Int) = if rivF L k = 0 then (0, 2) else (rivF L k, 0) := by unfold againstA; rw [z, if_pos rfl, tnN]
  refine ⟨_, ok_proofAgainst hX (d + 1) hL hM (show k < L.t by omega), ?_⟩
  rintro _ I ⟨rfl, rfl⟩
  refine ⟨⟨by omega, by omega⟩, fun h => rg_X10_against_32 hV I _ _ ⟨⟨by decide, by decide⟩, ?_⟩, fun h => bad 2 (by decide) (by decide) (by rw [hA, if_pos h])⟩
  rintro J h1
  have j32 : J (1, 0) 32 = 0 := by rw [h1, xu_same]
  have k1 : keepM I J := by rw [h1]; exact keepM.thrown _
  clear h1
  rw [j32]
  refine ⟨fun _ => ⟨_, ok_proofAgainst hX (d + 1) hL (hM.keep k1) (show k < L.t by omega), ?_⟩, fun w => absurd w (by decide)⟩
  rintro _ J ⟨rfl, rfl⟩
  exact ⟨k1, by rw [hA, if_neg h, j32]⟩
end LGC
