/-! projects -/
abbrev PJ : Type := Nat × (Nat → Int) × (Nat → Nat) × (Nat → Int)
abbrev PJ.n (P : PJ) : Nat := P.1
abbrev PJ.ga (P : PJ) : Nat → Int := P.2.1
abbrev PJ.ne (P : PJ) : Nat → Nat := P.2.2.1
abbrev PJ.pr (P : PJ) : Nat → Int := P.2.2.2
def PJok (P : PJ) : Prop := P.n ≤ 8 ∧ ∀ k, k < 8 → (0 ≤ P.ga k ∧ P.ga k ≤ 99) ∧ P.ne k ≤ 255 ∧ 0 ≤ P.pr k ∧ P.pr k ≤ 99
def CPJ (I : xIn) (P : PJ) : Prop := I (0, 32) 0 = (P.n : Int) ∧ ∀ k, k < 8 → I (0, 33) k = P.ga k ∧ I (0, 34) k = (P.ne k : Int) ∧ I (0, 35) k = P.pr k
def gainN (P : PJ) (S k : Nat) : Int := sumE k (fun k => if S.testBit k then P.ga k else 0)
def payN (P : PJ) (t k : Nat) : Int := sumE k (fun k => if t.testBit k then P.pr k else 0)
theorem gainN_s (P : PJ) (S k : Nat) : gainN P S (k + 1) = gainN P S k + (if S.testBit k then P.ga k else 0) := rfl
theorem payN_s (P : PJ) (t k : Nat) : payN P t (k + 1) = payN P t k + (if t.testBit k then P.pr k else 0) := rfl
def worth (P : PJ) (S : Nat) : Int := gainN P S P.n - payN P (likedN P.ne S P.n) 8
theorem PJok.lk {P : PJ} (h : PJok P) : LKok P.ne := fun k hk => (h.2 k hk).2.1
theorem worth_bd {P : PJ} (h : PJok P) (S : Nat) : -800 ≤ worth P S ∧ worth P S ≤ 800 := by
  have h8 := h.1
  have h1 := sumE_bd (n := P.n) (f := fun k => if S.testBit k then P.ga k else 0) (a := 0) (b := 99) (fun e he => by
    have := (h.2 e (by omega)).1
    split <;> omega)
  have h2 := sumE_bd (n := 8) (f := fun k => if (likedN P.ne S P.n).testBit k then P.pr k else 0) (a := 0) (b := 99) (fun e he => by
    have := (h.2 e (by omega)).2.2
    split <;> omega)
  unfold worth gainN payN
  omega
theorem gainN_0 (P : PJ) (k : Nat) : gainN P 0 k = 0 := sumE_0 fun e he => by rw [Nat.zero_testBit]; rfl
theorem likedN_0 (lk : Nat → Nat) (k : Nat) : likedN lk 0 k = 0 := by
  induction k with
  | zero => rfl
  | succ k ih => rw [likedN, Nat.zero_testBit, if_neg (by decide), ih]
theorem worth_0 (P : PJ) : worth P 0 = 0 := by
  unfold worth
  rw [gainN_0, likedN_0]
  have : payN P 0 8 = 0 := sumE_0 fun e he => by rw [Nat.zero_testBit]; rfl
  omega
/-- the greatest, all sets that have it together, and what they share, kept as one looks -/
def chS (f : Nat → Int) : Nat → Int × Nat × Nat
  | 0 => (0, 0, 0)
  | n + 1 => if (chS f n).1 < f n then (f n, n, n) else if f n = (chS f n).1 then ((chS f n).1, (chS f n).2.1 &&& n, (chS f n).2.2 ||| n) else chS f n
def eqF (f : Nat → Int) (a : Int) (S : Nat) : Bool := decide (f S = a)
theorem chS_1 {f : Nat → Int} (h0 : f 0 = 0) : chS f 1 = (0, 0, 0) := by
  show (if (0 : Int) < f 0 then (f 0, 0, 0) else if f 0 = 0 then ((0 : Int), 0 &&& 0, 0 ||| 0) else (0, 0, 0)) = (0, 0, 0)
  rw [h0, if_neg (by decide), if_pos rfl]
  rfl
theorem chS_spec {f : Nat → Int} (h0 : f 0 = 0) : ∀ n, n < 256 → (chS f (n + 1)).1 = mx 0 (fun _ => true) f (n + 1) ∧ (chS f (n + 1)).2.1 = andF (eqF f (chS f (n + 1)).1) (n + 1) ∧ (chS f (n + 1)).2.2 = orF (eqF f (chS f (n + 1)).1) (n + 1) := by
  intro n
  induction n with
  | zero =>
    intro _
    rw [chS_1 h0]
    have hq : eqF f 0 0 = true := decide_eq_true h0
    refine ⟨?_, ?_, ?_⟩
    · show (0 : Int) = max 0 (f 0)
      rw [h0]; rfl
    · show 0 = if eqF f 0 0 then andF (eqF f 0) 0 &&& 0 else andF (eqF f 0) 0
      rw [if_pos hq, Nat.and_zero]
    · show 0 = if eqF f 0 0 then orF (eqF f 0) 0 ||| 0 else orF (eqF f 0) 0
      rw [if_pos hq, Nat.or_zero]; rfl
  | succ n ih =>
    intro hn
    obtain ⟨i1, i2, i3⟩ := ih (by omega)
    have hle := (mx_spec 0 (fun _ => true) f (n + 1)).2.1
    rw [← i1] at hle
    have hm : mx 0 (fun _ => true) f (n + 1 + 1) = max (chS f (n + 1)).1 (f (n + 1)) := by rw [mx, if_pos rfl, i1]
    have e1 : chS f (n + 1 + 1) = if (chS f (n + 1)).1 < f (n + 1) then (f (n + 1), n + 1, n + 1) else if f (n + 1) = (chS f (n + 1)).1 then ((chS f (n + 1)).1, (chS f (n + 1)).2.1 &&& (n + 1), (chS f (n + 1)).2.2 ||| (n + 1)) else chS f (n + 1) := rfl
    generalize chS f (n + 1) = z at i1 i2 i3 hle hm e1
    rw [hm, e1]
    by_cases c1 : z.1 < f (n + 1)
    · rw [if_pos c1]
      have hq : eqF f (f (n + 1)) (n + 1) = true := decide_eq_true rfl
      have hno : ∀ S, S < n + 1 → eqF f (f (n + 1)) S = false := fun S hS => decide_eq_false (by have := hle S hS rfl; omega)
      refine ⟨?_, ?_, ?_⟩
      · show f (n + 1) = max z.1 (f (n + 1)); omega
      · show n + 1 = andF (eqF f (f (n + 1))) (n + 1 + 1)
        rw [andF, if_pos hq, andF_none hno, and_255 (by omega)]
      · show n + 1 = orF (eqF f (f (n + 1))) (n + 1 + 1)
        rw [orF, if_pos hq, orF_none hno, Nat.zero_or]
    · rw [if_neg c1]
      by_cases c2 : f (n + 1) = z.1
      · rw [if_pos c2]
        have hq : eqF f z.1 (n + 1) = true := decide_eq_true c2
        refine ⟨?_, ?_, ?_⟩
        · show z.1 = max z.1 (f (n + 1)); omega
        · show z.2.1 &&& (n + 1) = andF (eqF f z.1) (n + 1 + 1)
          rw [andF, if_pos hq, ← i2]
        · show z.2.2 ||| (n + 1) = orF (eqF f z.1) (n + 1 + 1)
          rw [orF, if_pos hq, ← i3]
      · rw [if_neg c2]
        have hq : eqF f z.1 (n + 1) = false := decide_eq_false c2
        refine ⟨by omega, ?_, ?_⟩
        · rw [andF, if_neg (by rw [hq]; decide), ← i2]
        · rw [orF, if_neg (by rw [hq]; decide), ← i3]
theorem chS_bd {f : Nat → Int} {z : Int} (hz : 0 ≤ z) (hf : ∀ S, -z ≤ f S ∧ f S ≤ z) (n : Nat) : 0 ≤ (chS f n).1 ∧ (chS f n).1 ≤ z := by
  induction n with
  | zero => exact ⟨Int.le_refl _, hz⟩
  | succ n ih =>
    have := hf n
    rw [chS]
    split
    · constructor
      · show 0 ≤ f n; omega
      · show f n ≤ z; omega
    · split
      · exact ih
      · exact ih
theorem chS_lt {f : Nat → Int} {n : Nat} (hn : n ≤ 256) : (chS f n).2.1 < 2 ^ 8 ∧ (chS f n).2.2 < 2 ^ 8 := by
  induction n with
  | zero => exact ⟨show 0 < 2 ^ 8 by decide, show 0 < 2 ^ 8 by decide⟩
  | succ n ih =>
    have ih := ih (by omega)
    have hn9 : n < 2 ^ 8 := by omega
    rw [chS]
    split
    · exact ⟨hn9, hn9⟩
    · split
      · exact ⟨Nat.lt_of_le_of_lt Nat.and_le_left ih.1, Nat.or_lt_two_pow ih.2 hn9⟩
      · exact ih
theorem andF_hit {q : Nat → Bool} {n S : Nat} (hS : S < n) (h : q S = true) : andF q n ≤ S := by
  induction n with
  | zero => omega
  | succ n ih =>
    rw [andF]
    by_cases hSn : S = n
    · subst hSn
      rw [if_pos h]; exact Nat.and_le_right
    · have := ih (by omega)
      split
      · exact Nat.le_trans Nat.and_le_left this
      · exact this
def projectA (P : PJ) (g t : Int) : (Int × Int) × PJ := if (0 ≤ g ∧ g ≤ 99) ∧ 0 ≤ t ∧ t ≤ 255 then (if P.n = 8 then ((0, 2), P) else (((P.n : Int), 0), (P.n + 1, upL P.ga P.n g, upN P.ne P.n (Int.toNat t), P.pr))) else ((0, 1), P)
def toolCostA (P : PJ) (a v : Int) : (Int × Int) × PJ := if 0 ≤ a ∧ a ≤ 7 then (if 0 ≤ v ∧ v ≤ 99 then ((P.pr (Int.toNat a), 0), (P.n, P.ga, P.ne, upL P.pr (Int.toNat a) v)) else ((0, 2), P)) else ((0, 1), P)
def bestA (P : PJ) : Int := mx 0 (fun _ => true) (worth P) (2 ^ P.n)
def chosenA (P : PJ) (all : Bool) : Int := if all then ((orF (eqF (worth P) (bestA P)) (2 ^ P.n) : Nat) : Int) else ((andF (eqF (worth P) (bestA P)) (2 ^ P.n) : Nat) : Int)
theorem projectA_ok {P : PJ} (h : PJok P) (g t : Int) : PJok (projectA P g t).2 := by
  unfold projectA
  split
  · rename_i hgt
    split
    · exact h
    · have h8 := h.1
      refine ⟨by show P.n + 1 ≤ 8; omega, fun k hk => ?_⟩
      show (0 ≤ upL P.ga P.n g k ∧ upL P.ga P.n g k ≤ 99) ∧ upN P.ne P.n (Int.toNat t) k ≤ 255 ∧ 0 ≤ P.pr k ∧ P.pr k ≤ 99
      by_cases hkn : k = P.n
      · rw [hkn, upL_s, upN_s]
        exact ⟨hgt.1, by omega, (h.2 P.n (by omega)).2.2⟩
      · rw [upL_n hkn, upN_n hkn]; exact h.2 k hk
  · exact h
theorem toolCostA_ok {P : PJ} (h : PJok P) (a v : Int) : PJok (toolCostA P a v).2 := by
  unfold toolCostA
  split
  · split
    · rename_i hv
      refine ⟨h.1, fun k hk => ?_⟩
      show (0 ≤ P.ga k ∧ P.ga k ≤ 99) ∧ P.ne k ≤ 255 ∧ 0 ≤ upL P.pr (Int.toNat a) v k ∧ upL P.pr (Int.toNat a) v k ≤ 99
      have hk9 := h.2 k hk
      by_cases hkn : k = Int.toNat a
      · rw [hkn, upL_s, ← hkn]; exact ⟨hk9.1, hk9.2.1, hv⟩
      · rw [upL_n hkn]; exact hk9
    · exact h
  · exact h
section PJC
variable {X : xX} {c : xCx} {I : xIn} {P : PJ}
theorem pj_worthOf (hX : xBase X) (d : Nat) (hP : PJok P) (hC : CPJ I P) {S : Nat} (hS : S ≤ 2147483647) : xRet rI X m_X5_worthOf (d + 1) [xr (0, 32), xi (S : Int)] c I 0 0 (pv (worth P S) I) xNo := by
  obtain ⟨h1, h2⟩ := id hC
  have h8 := hP.1
  refine xRet_of hX pl_X5_worthOf (LE1 rfl) fun V hV => rg_X5_worthOf_0 hV I _ ?_
  refine up_to0 (m := P.n) (W := fun k => V 7 [(0, xr (0, 32)), (1, xi (S : Int)), (2, xi (gainN P S k)), (3, xi ((likedN P.ne S k : Nat) : Int)), (4, xi (k : Int))] [] (I, xst c) 0 0) ?_ ?_
  · refine rg_X5_worthOf_7 hV I _ _ _ _ ⟨⟨by omega, by omega⟩, fun _ => ?_, fun h => by omega⟩
    have hT := likedN_lt hP.lk S h8
    have hdef : worth P S = gainN P S P.n - payN P (likedN P.ne S P.n) 8 := rfl
    generalize likedN P.ne S P.n = t at hT hdef
    refine up_to0 (m := 8) (W := fun k => V 54 [(0, xr (0, 32)), (2, xi (gainN P S P.n - payN P t k)), (3, xi (t : Int)), (4, xi (k : Int))] [] (I, xst c) 0 0) ?_ ?_ |> fun w => by
      have e0 : payN P t 0 = 0 := rfl
      rw [e0, Int.sub_zero] at w; exact w
    · exact rg_X5_worthOf_54 hV I _ _ _ ⟨⟨by decide, by decide⟩, fun _ => pvI hdef.symm, fun h => absurd h (by decide)⟩
    · intro k hk ih
      rw [payN_s] at ih
      refine rg_X5_worthOf_54 hV I _ _ _ ⟨⟨by omega, by omega⟩, fun h => by omega, fun _ => ⟨_, cn_hasBit hX d (by omega) (by omega), ?_⟩⟩
      rintro _ _ ⟨rfl, rfl⟩
      refine ⟨fun z => ?_, fun z => ⟨⟨by omega, by omega⟩, ?_⟩⟩
      · rw [if_neg (by rw [z]; decide), Int.add_zero] at ih
        rw [Int.sub_zero]; exact ih
      · rw [if_pos z] at ih
        rw [tnN, (h2 k hk).2.2]
        rintro x hx
        rw [show x = gainN P S P.n - (payN P t k + P.pr k) by omega]
        exact ih
  · intro k hk ih
    rw [gainN_s, likedN] at ih
    refine rg_X5_worthOf_7 hV I _ _ _ _ ⟨⟨by omega, by omega⟩, fun h => by omega, fun _ => ⟨_, cn_hasBit hX d hS (by omega), ?_⟩⟩
    rintro _ _ ⟨rfl, rfl⟩
    refine ⟨fun z => ?_, fun z => ⟨⟨by omega, by omega⟩, ?_⟩⟩
    · rw [if_neg (by rw [z]; decide), if_neg (by rw [z]; decide), Int.add_zero] at ih
      exact ih
    · rw [if_pos z, if_pos z] at ih
      have hk9 := hP.2 k (by omega)
      have hT := likedN_lt hP.lk S (show k ≤ 8 by omega)
      rw [tnN, (h2 k (by omega)).1, (h2 k (by omega)).2.1, v_or_nat (by omega) (by omega)]
      rintro _ rfl _ rfl
      exact ih
def kpJ (I J : xIn) : Prop := kp [(0, 32)] I J ∧ ∀ j, j < 4 → J (0, 32) j = I (0, 32) j
theorem kpJ.C {I J : xIn} (h : kpJ I J) : keepC I J := ⟨fun p _ _ h32 => h.1 p (by simpa using h32), fun j _ => by rw [h.1 _ (by decide)], h.2⟩
theorem CPJ.keep {J : xIn} (h : CPJ I P) (hk : keepC I J) : CPJ J P := by
  unfold CPJ
  rw [hk.2.2 0 (by decide), hk.1 (0, 33) (by decide) (by decide) (by decide), hk.1 (0, 34) (by decide) (by decide) (by decide), hk.1 (0, 35) (by decide) (by decide) (by decide)]
  exact h
theorem pj_choose (hX : xBase X) (d : Nat) (hP : PJok P) (hC : CPJ I P) : xRet rU X m_X5_choose (d + 2) [xr (0, 32)] c I 0 0 (fun _ I9 => kpJ I I9 ∧ I9 (0, 32) 4 = bestA P ∧ I9 (0, 32) 5 = chosenA P false ∧ I9 (0, 32) 6 = chosenA P true) xNo := by
  have h8 := hP.1
  have g2 := pow2_le8 (show P.n ≤ 8 by omega)
  have hsh := v_pow (show P.n ≤ 8 by omega)
  have gp : 0 < 2 ^ P.n := Nat.two_pow_pos _
  refine xRet_of hX pl_X5_choose (LE1 rfl) fun V hV => rg_X5_choose_0 hV I ?_
  rintro J1 e1 J2 e2 J3 e3
  have q3 : J3 (0, 32) = upL (upL (upL (I (0, 32)) 4 0) 5 0) 6 0 := by rw [e3, xuL, e2, xuL, e1, xuL]
  have k3 : kpJ I J3 := ⟨by rw [e3, e2, e1]; exact ((kp.rfl.xu (by simp)).xu (by simp)).xu (by simp), fun j hj => by rw [q3, upL_n (by omega), upL_n (by omega), upL_n (by omega)]⟩
  have hend : bestA P = (chS (worth P) (2 ^ P.n)).1 ∧ chosenA P false = ((chS (worth P) (2 ^ P.n)).2.1 : Nat) ∧ chosenA P true = ((chS (worth P) (2 ^ P.n)).2.2 : Nat) := by
    have h := chS_spec (worth_0 P) (2 ^ P.n - 1) (by omega)
    rw [show 2 ^ P.n - 1 + 1 = 2 ^ P.n by omega] at h
    have hb : bestA P = (chS (worth P) (2 ^ P.n)).1 := h.1.symm
    refine ⟨hb, ?_, ?_⟩
    · unfold chosenA; rw [if_neg (by decide), hb, ← h.2.1]
    · unfold chosenA; rw [if_pos rfl, hb, ← h.2.2]
  generalize hN : 2 ^ P.n = N at g2 hsh gp hend
  refine up_to (m := N) (W := fun S => ∀ J, kpJ I J → J (0, 32) 4 = (chS (worth P) S).1 → J (0, 32) 5 = ((chS (worth P) S).2.1 : Nat) → J (0, 32) 6 = ((chS (worth P) S).2.2 : Nat) → V 17 [(0, xr (0, 32)), (1, xi (S : Int))] [] (J, xst c) 0 0) ?_ ?_ 1 gp J3 k3 ?_ ?_ ?_
  · rintro J hk i1 i2 i3
    have hJ0 : J (0, 32) 0 = (P.n : Int) := by rw [hk.2 0 (by decide)]; exact hC.1
    refine rg_X5_choose_17 hV J _ ⟨⟨by omega, by omega⟩, fun _ => ⟨hk, by rw [hend.1, i1], by rw [hend.2.1, i2], by rw [hend.2.2, i3]⟩, fun h => ?_⟩
    rw [hJ0, hsh] at h; omega
  · rintro S hS ih J hk i1 i2 i3
    have hJ0 : J (0, 32) 0 = (P.n : Int) := by rw [hk.2 0 (by decide)]; exact hC.1
    have hbd := worth_bd hP S
    have hlt := chS_lt (f := worth P) (show S ≤ 256 by omega)
    refine rg_X5_choose_17 hV J _ ⟨⟨by omega, by omega⟩, fun h => ?_, fun _ => ⟨_, pj_worthOf hX d hP (hC.keep hk.C) (by omega), ?_⟩⟩
    · rw [hJ0, hsh] at h; omega
    rintro _ J ⟨rfl, rfl⟩
    rw [i1]
    have hs : chS (worth P) (S + 1) = if (chS (worth P) S).1 < worth P S then (worth P S, S, S) else if worth P S = (chS (worth P) S).1 then ((chS (worth P) S).1, (chS (worth P) S).2.1 &&& S, (chS (worth P) S).2.2 ||| S) else chS (worth P) S := rfl
    generalize chS (worth P) S = z at i1 i2 i3 hlt hs
    refine ⟨⟨by omega, by omega⟩, fun h => ⟨fun hne => ?_, fun heq => ?_⟩, fun h => ?_⟩
    · rw [if_neg (by omega), if_neg hne] at hs
      exact ih J hk (by rw [hs, i1]) (by rw [hs, i2]) (by rw [hs, i3])
    · rw [if_neg (by omega), if_pos heq] at hs
      rintro J4 e4 J5 e5
      have q4 : J4 (0, 32) = upL (J (0, 32)) 5 ((z.2.1 &&& S : Nat) : Int) := by rw [e4, xuL, i2, v_and_nat (by omega)]
      have q5 : J5 (0, 32) = upL (J4 (0, 32)) 6 ((z.2.2 ||| S : Nat) : Int) := by rw [e5, xuL, q4, upL_n (by decide), i3, v_or_nat (by omega) (by omega)]
      refine ih J5 ⟨by rw [e5, e4]; exact (hk.1.xu (by simp)).xu (by simp), fun j hj => by rw [q5, upL_n (by omega), q4, upL_n (by omega)]; exact hk.2 j hj⟩ ?_ ?_ ?_
      · rw [q5, upL_n (by decide), q4, upL_n (by decide), i1, hs]
      · rw [q5, upL_n (by decide), q4, upL_s, hs]
      · rw [q5, upL_s, hs]
    · rw [if_pos h] at hs
      rintro J4 e4 J5 e5 J6 e6
      have q6 : J6 (0, 32) = upL (upL (upL (J (0, 32)) 4 (worth P S)) 5 (S : Int)) 6 (S : Int) := by rw [e6, xuL, e5, xuL, e4, xuL]
      refine ih J6 ⟨by rw [e6, e5, e4]; exact ((hk.1.xu (by simp)).xu (by simp)).xu (by simp), fun j hj => by rw [q6, upL_n (by omega), upL_n (by omega), upL_n (by omega)]; exact hk.2 j hj⟩ ?_ ?_ ?_
      · rw [q6, upL_n (by decide), upL_n (by decide), upL_s, hs]
      · rw [q6, upL_n (by decide), upL_s, hs]
      · rw [q6, upL_s, hs]
  · rw [q3, upL_n (by decide), upL_n (by decide), upL_s, chS_1 (worth_0 P)]
  · rw [q3, upL_n (by decide), upL_s, chS_1 (worth_0 P)]; rfl
  · rw [q3, upL_s, chS_1 (worth_0 P)]; rfl
theorem cn_best (hX : xBase X) (d : Nat) (hP : PJok P) (hC : CPJ I P) : xRet rI X m_X9_best (d + 3) [xr (0, 0)] c I 0 0 (fun v I9 => keepC I I9 ∧ v = bestA P) xNo := by
  refine xRet_of hX pl_X9_best (LE1 rfl) fun V hV => rg_X9_best_0 hV I ⟨_, pj_choose hX d hP hC, ?_⟩
  rintro _ J ⟨hk, h4, -, -⟩
  exact ⟨hk.C, h4⟩
theorem cn_chosen (hX : xBase X) (d : Nat) (hP : PJok P) (hC : CPJ I P) (all : Bool) : xRet rI X m_X9_chosen (d + 3) [xr (0, 0), xi (xbi all)] c I 0 0 (fun v I9 => keepC I I9 ∧ v = chosenA P all) xNo := by
  refine xRet_of hX pl_X9_chosen (LE1 rfl) fun V hV => rg_X9_chosen_0 hV I _ ⟨_, pj_choose hX d hP hC, ?_⟩
  rintro _ J ⟨hk, -, h5, h6⟩
  exact ⟨fun z => ⟨hk.C, by rw [z]; exact h5⟩, fun z => ⟨hk.C, by rw [z]; exact h6⟩⟩
theorem cn_project (hX : xBase X) (d : Nat) (hP : PJok P) (hC : CPJ I P) {g t : Int} (hg : xin g) (ht : xin t) : xRet rI X m_X9_project (d + 7) [xr (0, 0), xi g, xi t] c I 1 6 (fun v I9 => kp [(0, 32), (0, 33), (0, 34)] I I9 ∧ CPJ I9 (projectA P g t).2 ∧ (v, 0) = (projectA P g t).1) (fun x I9 => I9 = I ∧ (projectA P g t).2 = P ∧ exL [xIAE, xISE] x (projectA P g t).1.2) := by
  obtain ⟨h1, h2⟩ := id hC
  have h8 := hP.1
  refine xRet_of hX pl_X9_project (LE1 rfl) fun V hV => rg_X9_project_0 hV I _ _ ?_
  unfold projectA
  refine ⟨hg, fun h => ?_, fun h => ⟨fun h9 => ?_, fun h9 => ⟨ht, fun w => ?_, fun w => ⟨fun w9 => ⟨fun hn => ?_, fun hn => ?_⟩, fun w9 => ?_⟩⟩⟩⟩
  · rw [if_neg (by omega)]; exact ⟨rfl, rfl, 0, rfl, rfl⟩
  · rw [if_neg (by omega)]; exact ⟨rfl, rfl, 0, rfl, rfl⟩
  · rw [if_neg (by omega)]; exact ⟨rfl, rfl, 0, rfl, rfl⟩
  · rw [if_pos ⟨⟨h, h9⟩, w, w9⟩, if_neg (by omega)]
    refine ⟨fun v I9 => kp [(0, 32), (0, 33), (0, 34)] I I9 ∧ CPJ I9 (P.n + 1, upL P.ga P.n g, upN P.ne P.n (Int.toNat t), P.pr) ∧ v = (P.n : Int), ?_, ?_⟩
    · refine xRet_of hX pl_X5_put (LE1 rfl) fun V hV => rg_X5_put_0 hV I _ _ ⟨fun h => by omega, fun _ => ⟨fun _ => ⟨⟨by omega, by omega⟩, hg, ?_⟩, fun h => by omega⟩⟩
      rw [h1, tnN]
      rintro J1 e1
      have q1 : J1 (0, 32) = I (0, 32) := by rw [e1, xu_p (by decide)]
      rw [q1, h1, tnN]
      refine ⟨⟨by omega, by omega⟩, ht, ?_⟩
      rintro J2 e2
      have q2 : J2 (0, 32) = I (0, 32) := by rw [e2, xu_p (by decide), q1]
      rw [q2, h1]
      refine ⟨⟨by omega, by omega⟩, ?_⟩
      rintro J3 e3
      have q3 : J3 (0, 32) = upL (I (0, 32)) 0 ((P.n : Int) + 1) := by rw [e3, xuL, q2]
      refine ⟨by rw [e3, e2, e1]; exact ((kp.rfl.xu (by simp)).xu (by simp)).xu (by simp), ⟨by rw [q3, upL_s]; rfl, fun k hk => ?_⟩, by rw [q3, upL_s]; omega⟩
      have r33 : J3 (0, 33) = upL (I (0, 33)) P.n g := by rw [e3, xu_p (by decide), e2, xu_p (by decide), e1, xuL]
      have r34 : J3 (0, 34) = upL (I (0, 34)) P.n t := by rw [e3, xu_p (by decide), e2, xuL, e1, xu_p (by decide)]
      have r35 : J3 (0, 35) = I (0, 35) := by rw [e3, xu_p (by decide), e2, xu_p (by decide), e1, xu_p (by decide)]
      rw [r33, r34, r35]
      show upL (I (0, 33)) P.n g k = upL P.ga P.n g k ∧ upL (I (0, 34)) P.n t k = ((upN P.ne P.n (Int.toNat t) k : Nat) : Int) ∧ I (0, 35) k = P.pr k
      by_cases hkn : k = P.n
      · rw [hkn, upL_s, upL_s, upL_s, upN_s]
        exact ⟨rfl, by omega, (h2 P.n (by omega)).2.2⟩
      · rw [upL_n hkn, upL_n hkn, upL_n hkn, upN_n hkn]; exact h2 k hk
    · rintro v J ⟨k1, k2, rfl⟩
      exact ⟨k1, k2, rfl⟩
  · rw [if_pos ⟨⟨h, h9⟩, w, w9⟩, if_pos (by omega)]; exact ⟨rfl, rfl, 1, rfl, rfl⟩
  · rw [if_neg (by omega)]; exact ⟨rfl, rfl, 0, rfl, rfl⟩
theorem cn_toolCost (hX : xBase X) (d : Nat) (hC : CPJ I P) {a v : Int} (ha : xin a) (hv : xin v) : xRet rI X m_X9_toolCost (d + 7) [xr (0, 0), xi a, xi v] c I 1 6 (fun w I9 => kp [(0, 35)] I I9 ∧ CPJ I9 (toolCostA P a v).2 ∧ (w, 0) = (toolCostA P a v).1) (fun x I9 => I9 = I ∧ (toolCostA P a v).2 = P ∧ exL [xIOB, xIAE] x (toolCostA P a v).1.2) := by
  obtain ⟨h1, h2⟩ := id hC
  refine xRet_of hX pl_X9_toolCost (LE1 rfl) fun V hV => rg_X9_toolCost_0 hV I _ _ ?_
  unfold toolCostA
  refine ⟨ha, fun h => ?_, fun h => ⟨fun h9 => ⟨hv, fun w => ?_, fun w => ⟨fun w9 => ⟨⟨h, h9⟩, ?_⟩, fun w9 => ?_⟩⟩, fun h9 => ?_⟩⟩
  · rw [if_neg (by omega)]; exact ⟨rfl, rfl, 0, rfl, rfl⟩
  · rw [if_pos ⟨h, by omega⟩, if_neg (by omega)]; exact ⟨rfl, rfl, 1, rfl, rfl⟩
  · rw [if_pos ⟨h, by omega⟩, if_pos ⟨w, w9⟩]
    rintro x hx J e1
    obtain ⟨k, rfl⟩ := Int.eq_ofNat_of_zero_le h
    rw [tnN] at hx e1 ⊢
    refine ⟨by rw [e1]; exact kp.rfl.xu (by simp), ⟨by rw [e1, xu_p (by decide)]; exact h1, fun j hj => ?_⟩, by rw [hx, (h2 k (by omega)).2.2]⟩
    rw [e1, xu_p (by decide), xu_p (by decide), xuL]
    refine ⟨(h2 j hj).1, (h2 j hj).2.1, ?_⟩
    show upL (I (0, 35)) k v j = upL P.pr k v j
    by_cases hjk : j = k
    · rw [hjk, upL_s, upL_s]
    · rw [upL_n hjk, upL_n hjk]; exact (h2 j hj).2.2
  · rw [if_pos ⟨h, by omega⟩, if_neg (by omega)]; exact ⟨rfl, rfl, 1, rfl, rfl⟩
  · rw [if_neg (by omega)]; exact ⟨rfl, rfl, 0, rfl, rfl⟩
/-! .. by the reference -/
end PJC
