/-! the tree of least cuts, grown alike by both -/
def bth (G : Gr) (hi : Nat → Int) (S : Nat) : Int := sOut G hi S + sIn G hi S
theorem bth_bd {G : Gr} (hm : G.m ≤ 16) {hi : Nat → Int} (hb : ∀ e, e < G.m → 0 ≤ hi e ∧ hi e ≤ 99) (S : Nat) : 0 ≤ bth G hi S ∧ bth G hi S ≤ 3200 := by
  have h1 := pOut_bd (G := G) (b := hi) (S := S) hm hb
  have h2 := pIn_bd (G := G) (b := hi) (S := S) hm hb
  rw [pOut_all] at h1
  rw [pIn_all] at h2
  unfold bth
  omega
theorem tb_comp {n S x : Nat} (hS : S < 2 ^ n) (hx : x < n) : (2 ^ n - 1 - S).testBit x = !S.testBit x := by
  have := Nat.testBit_two_pow_sub_succ hS x
  rw [show 2 ^ n - (S + 1) = 2 ^ n - 1 - S by omega, decide_eq_true hx, Bool.true_and] at this
  exact this
theorem bth_comp {G : Gr} (hG : GrIn G) (hi : Nat → Int) {S : Nat} (hS : S < 2 ^ G.n) : bth G hi (2 ^ G.n - 1 - S) = bth G hi S := by
  have e1 : sOut G hi (2 ^ G.n - 1 - S) = sIn G hi S := sumE_cong fun e he => by
    unfold lvs ens
    rw [tb_comp hS (hG e he).1, tb_comp hS (hG e he).2, Bool.not_not]
  have e2 : sIn G hi (2 ^ G.n - 1 - S) = sOut G hi S := sumE_cong fun e he => by
    unfold lvs ens
    rw [tb_comp hS (hG e he).1, tb_comp hS (hG e he).2, Bool.not_not]
  unfold bth
  rw [e1, e2]; omega
theorem mnb_hit {b z : Int} {p : Nat → Bool} {f : Nat → Int} {n : Nat} (hz : z ≤ b) (hf : ∀ S, S < n → f S ≤ z) (h : ∃ S, S < n ∧ p S = true) : (∃ S, S < n ∧ p S = true ∧ f S = mnb b p f n) ∧ ∀ S, S < n → p S = true → mnb b p f n ≤ f S := by
  have key : ∀ k, k ≤ n → ((mnb b p f k = b ∧ ∀ S, S < k → p S = false) ∨ ∃ S, S < k ∧ p S = true ∧ f S = mnb b p f k) ∧ ∀ S, S < k → p S = true → mnb b p f k ≤ f S := by
    intro k
    induction k with
    | zero => exact fun _ => ⟨Or.inl ⟨rfl, fun S hS => by omega⟩, fun S hS => by omega⟩
    | succ k ih =>
      intro hk
      obtain ⟨i1, i2⟩ := ih (by omega)
      have hfk := hf k (by omega)
      rw [mnb]
      cases hp : p k
      · rw [if_neg (by decide)]
        refine ⟨?_, fun S hS hpS => ?_⟩
        · rcases i1 with ⟨a, b⟩ | ⟨S, a, b⟩
          · left
            refine ⟨a, fun S hS => ?_⟩
            by_cases hSk : S = k
            · rw [hSk]; exact hp
            · exact b S (by omega)
          · exact Or.inr ⟨S, by omega, b⟩
        · by_cases hSk : S = k
          · rw [hSk, hp] at hpS; cases hpS
          · exact i2 S (by omega) hpS
      · rw [if_pos rfl]
        refine ⟨Or.inr ?_, fun S hS hpS => ?_⟩
        · rcases Int.le_total (mnb b p f k) (f k) with hc | hc
          · rcases i1 with ⟨a, -⟩ | ⟨S, a, b1, b2⟩
            · exact ⟨k, by omega, hp, by omega⟩
            · exact ⟨S, by omega, b1, by omega⟩
          · exact ⟨k, by omega, hp, by omega⟩
        · by_cases hSk : S = k
          · rw [hSk]; omega
          · have := i2 S (by omega) hpS; omega
  obtain ⟨k1, k2⟩ := key n (Nat.le_refl _)
  refine ⟨?_, k2⟩
  rcases k1 with ⟨-, k1⟩ | k1
  · obtain ⟨S, s1, s2⟩ := h
    rw [k1 S s1] at s2; cases s2
  · exact k1
def lbF (f : Nat → Int) (n a b : Nat) : Int := mnb 100000 (btw a b) f (2 ^ n)
theorem btw_ex {n a b : Nat} (ha : a < n) (hab : a ≠ b) : ∃ S, S < 2 ^ n ∧ btw a b S = true := by
  refine ⟨2 ^ a, Nat.pow_lt_pow_right (by decide) ha, ?_⟩
  unfold btw
  rw [Nat.testBit_two_pow, Nat.testBit_two_pow, decide_eq_true rfl, decide_eq_false hab]; rfl
theorem lbF_ok {f : Nat → Int} {n a b : Nat} (hf : ∀ S, f S ≤ 3200) (ha : a < n) (hab : a ≠ b) : (∃ S, S < 2 ^ n ∧ btw a b S = true ∧ f S = lbF f n a b) ∧ ∀ S, S < 2 ^ n → btw a b S = true → lbF f n a b ≤ f S := mnb_hit (z := 3200) (by decide) (fun S _ => hf S) (btw_ex ha hab)
theorem lbF_far {f : Nat → Int} {n a b : Nat} (hf : ∀ S, f S ≤ 3200) (ha : a < n) (hab : a ≠ b) : mnb 1000000000 (btw a b) f (2 ^ n) = lbF f n a b := by
  obtain ⟨⟨S, s1, s2, s3⟩, h2⟩ := lbF_ok hf ha hab
  exact mnb_eq (by have := hf S; omega) h2 ⟨S, s1, s2, s3⟩
theorem lbF_bd {f : Nat → Int} {n a b : Nat} (hf : ∀ S, 0 ≤ f S ∧ f S ≤ 3200) (ha : a < n) (hab : a ≠ b) : 0 ≤ lbF f n a b ∧ lbF f n a b ≤ 3200 := by
  obtain ⟨⟨S, s1, s2, s3⟩, -⟩ := lbF_ok (fun S => (hf S).2) ha hab
  have := hf S
  omega
theorem lbF_cong {f g : Nat → Int} {n a b : Nat} (h : ∀ S, S < 2 ^ n → f S = g S) : lbF f n a b = lbF g n a b := by
  unfold lbF
  have key : ∀ k, k ≤ 2 ^ n → mnb 100000 (btw a b) f k = mnb 100000 (btw a b) g k := by
    intro k
    induction k with
    | zero => exact fun _ => rfl
    | succ k ih => intro hk; rw [mnb, mnb, ih (by omega), h k (by omega)]
  exact key _ (Nat.le_refl _)
def sdQ (f : Nat → Int) (n a b : Nat) : Nat → Bool := eqQ (btw a b) f (lbF f n a b)
def sdF (f : Nat → Int) (n a b : Nat) : Nat := andF (sdQ f n a b) (2 ^ n)
/-- parents as the corners from 1 to j have been looked at -/
def grP (f : Nat → Int) (n : Nat) : Nat → Nat → Nat
  | 0 => fun _ => 0
  | j + 1 => fun x => if j + 1 < x ∧ grP f n j x = grP f n j (j + 1) ∧ (sdF f n (j + 1) (grP f n j (j + 1))).testBit x = true then j + 1 else grP f n j x
theorem grP_s (f : Nat → Int) (n j x : Nat) : grP f n (j + 1) x = if j + 1 < x ∧ grP f n j x = grP f n j (j + 1) ∧ (sdF f n (j + 1) (grP f n j (j + 1))).testBit x = true then j + 1 else grP f n j x := rfl
theorem grP_lt (f : Nat → Int) (n j : Nat) {x : Nat} (hx : 1 ≤ x) : grP f n j x < x := by
  induction j with
  | zero => exact hx
  | succ j ih =>
    rw [grP_s]
    split
    · rename_i h; exact h.1
    · exact ih
def wgF (f : Nat → Int) (n c : Nat) : Int := lbF f n c (grP f n (c - 1) c)
def parF (f : Nat → Int) (n : Nat) : Nat → Nat := grP f n (n - 1)
def parentG (G : Gr) (hi : Nat → Int) (x : Nat) : Int × Int := if x = 0 then (0, 2) else ((parF (bth G hi) G.n x : Int), 0)
def parentA (T : NT) (a x : Int) : Int × Int := wE 0 (wrong1C T a x) (parentG (T.G (Int.toNat a)) (T.hi (Int.toNat a)) (Int.toNat x))
def betweenA (T : NT) (a s t : Int) : Int × Int := wE 0 (wrongT T a s t) (lbF (bth (T.G (Int.toNat a)) (T.hi (Int.toNat a))) (T.G (Int.toNat a)).n (Int.toNat s) (Int.toNat t), 0)
theorem bth_cong {G : Gr} {hi hi9 : Nat → Int} (h : ∀ e, e < G.m → hi e = hi9 e) : bth G hi = bth G hi9 := by
  funext S
  unfold bth
  rw [sOut_cong h, sIn_cong h]
/-- the sums as the class holds them -/
def TSum (I : xIn) (n : Nat) (f : Nat → Int) : Prop := I (0, 16) 0 = (n : Int) ∧ ∀ S, S < 2 ^ n → I (0, 17) S = f S
section TRE
variable {X : xX} {c : xCx} {I : xIn} {i n : Nat} {G : Gr} {f : Nat → Int}
theorem cu_sumBothWays (hX : xBase X) (d : Nat) (hC : CG I c i G) (hN : NB I i G.m) {S : Nat} (hS : S ≤ 2147483647) : xRet rI X m_X0_sumBothWays (d + 1) [xr (0, 15), xr (i + 3, 0), xi (S : Int)] c I 0 0 (fun v I9 => kp [(0, 15)] I I9 ∧ v = bth G (I (i + 3, 4)) S) xNo := by
  refine xRet_of hX pl_X0_sumBothWays (LE1 rfl) fun V hV => rg_X0_sumBothWays_0 hV I i hC.1 _ ⟨_, cu_weigh hX d hC hN hS, ?_⟩
  rintro _ J ⟨k1, w0, w1, w2, w3, -⟩
  exact ⟨k1, by rw [w0, w2]; rfl⟩
theorem tr_measure (hX : xBase X) (d : Nat) (hC : CG I c i G) (hN : NB I i G.m) : xRet rU X m_X8_measure (d + 2) [xr (0, 16), xr (i + 3, 0), xr (0, 15)] c I 0 0 (fun _ I9 => kp [(0, 15), (0, 16), (0, 17)] I I9 ∧ (∀ j, j ≠ 0 → I9 (0, 16) j = I (0, 16) j) ∧ TSum I9 G.n (bth G (I (i + 3, 4)))) xNo := by
  obtain ⟨hi, hn, hm, hG, hE⟩ := id hC
  have hn8 := hG.2.1
  have g2 := pow2_le8 hn8
  have hsh := v_pow hn8
  have gp : 0 < 2 ^ G.n := Nat.two_pow_pos _
  have hbd := fun S => bth_bd hG.2.2.1 (hi := I (i + 3, 4)) (fun e he => by have := hN e he; omega) S
  have hcomp := fun S (hS : S < 2 ^ G.n) => bth_comp hG.in (I (i + 3, 4)) hS
  unfold TSum
  generalize hNN : 2 ^ G.n = N at g2 hsh gp hcomp
  refine xRet_of hX pl_X8_measure (LE1 rfl) fun V hV => rg_X8_measure_0 hV I i hi ?_
  rintro J1 e1
  have q16 : J1 (0, 16) 0 = (G.n : Int) := by rw [e1, xu_same, hn]
  have k1 : kp [(0, 15), (0, 16), (0, 17)] I J1 := by rw [e1]; exact kp.rfl.xu (by simp)
  have q0 : ∀ j, j ≠ 0 → J1 (0, 16) j = I (0, 16) j := fun j hj => by rw [e1, xu_k hj]
  clear e1
  rw [q16, hsh]
  rintro _ rfl
  have loop : ∀ fuel S, N ≤ S + fuel → ∀ J, kp [(0, 15), (0, 16), (0, 17)] I J → J (0, 16) = J1 (0, 16) → (∀ T, T < S → T < N → J (0, 17) T = bth G (I (i + 3, 4)) T ∧ J (0, 17) (N - 1 - T) = bth G (I (i + 3, 4)) (N - 1 - T)) → S ≤ N → V 20 [(0, xr (0, 16)), (1, xr (i + 3, 0)), (2, xr (0, 15)), (3, xi ((N : Int) - 1)), (4, xi (S : Int))] [] (J, xst c) 0 0 := by
    intro fuel
    induction fuel with
    | zero =>
      intro S hS J kJ qJ hJ hSN
      refine rg_X8_measure_20 hV J i hi _ _ ⟨⟨by omega, by omega⟩, ⟨by omega, by omega⟩, fun _ => ⟨kJ, fun j hj => by rw [qJ]; exact q0 j hj, by rw [qJ]; exact q16, fun T hT => (hJ T (by omega) hT).1⟩, fun h => by omega⟩
    | succ fuel ih =>
      intro S hS J kJ qJ hJ hSN
      have hnet : ∀ j, J (i + 3, j) = I (i + 3, j) := fun j => kJ _ (by simp)
      refine rg_X8_measure_20 hV J i hi _ _ ⟨⟨by omega, by omega⟩, ⟨by omega, by omega⟩, fun h => ⟨kJ, fun j hj => by rw [qJ]; exact q0 j hj, by rw [qJ]; exact q16, fun T hT => ?_⟩, fun h => ⟨_, cu_sumBothWays hX d (hC.eq hnet) (hN.eq hnet) (by omega), ?_⟩⟩
      · by_cases hTS : T < S
        · exact (hJ T hTS hT).1
        · have := (hJ (N - 1 - T) (by omega) (by omega)).2
          rw [show N - 1 - (N - 1 - T) = T by omega] at this
          exact this
      rw [hnet]
      rintro _ K ⟨kk, rfl⟩
      have hbS := hbd S
      refine ⟨⟨by omega, by omega⟩, ⟨by omega, by omega⟩, ?_⟩
      rintro K1 e1
      have r1 : K1 (0, 17) S = bth G (I (i + 3, 4)) S := by rw [e1, tnN, xu_same]
      rw [tnN, r1]
      refine ⟨⟨by omega, by omega⟩, ?_⟩
      rintro K2 e2
      rw [tnN] at e1
      rw [show Int.toNat ((N : Int) - 1 - (S : Int)) = N - 1 - S by omega] at e2
      have q17 : K2 (0, 17) = upL (upL (J (0, 17)) S (bth G (I (i + 3, 4)) S)) (N - 1 - S) (bth G (I (i + 3, 4)) S) := by rw [e2, xuL, e1, xuL, kk (0, 17) (by decide)]
      have hcS := hcomp S (by omega)
      refine ih (S + 1) (by omega) K2 ?_ ?_ (fun T hT hTN => ?_) (by omega)
      · rw [e2, e1]; exact ((kJ.tr (kk.mo (by simp))).xu (by simp)).xu (by simp)
      · rw [e2, xu_p (by decide), e1, xu_p (by decide), kk _ (by decide)]; exact qJ
      · rw [q17]
        have hcT := hcomp T hTN
        by_cases hTS : T = S
        · subst hTS
          rw [upL_s, hcT]
          refine ⟨?_, rfl⟩
          by_cases h9 : T = N - 1 - T
          · rw [← h9, upL_s]
          · rw [upL_n h9, upL_s]
        · have h0 := hJ T (by omega) hTN
          refine ⟨?_, ?_⟩
          · by_cases h9 : T = N - 1 - S
            · rw [← h9, upL_s]
              have := hcomp T hTN
              rw [show N - 1 - T = S by omega] at this
              exact this
            · rw [upL_n h9, upL_n hTS]; exact h0.1
          · rw [upL_n (show N - 1 - T ≠ N - 1 - S by omega)]
            by_cases h9 : N - 1 - T = S
            · rw [h9, upL_s]
            · rw [upL_n h9]; exact h0.2
  exact loop N 0 (by omega) J1 k1 rfl (fun T hT => absurd hT (Nat.not_lt_zero T)) (by omega)
theorem tr_leastCut (hX : xBase X) (d : Nat) (hT : TSum I n f) (hn : n ≤ 8) (hf : ∀ S, 0 ≤ f S ∧ f S ≤ 3200) {a b : Nat} (ha : a < n) (hb : b < n) (hab : a ≠ b) : xRet rI X m_X8_leastCut (d + 2) [xr (0, 16), xi (a : Int), xi (b : Int)] c I 0 0 (pv (lbF f n a b) I) xNo := by
  have g2 := pow2_le8 hn
  have hsh := v_pow hn
  obtain ⟨t1, t2⟩ := hT
  have hbd := fun S => mnb_bd (p := btw a b) (f := f) (b := 1000000000) (z := 1000000000) ⟨by decide, by decide⟩ (fun S => by have := hf S; omega) S
  have hend := lbF_far (f := f) (fun S => (hf S).2) ha hab
  rw [← hend]
  clear hend
  generalize 2 ^ n = N at g2 hsh t2
  refine xRet_of hX pl_X8_leastCut (LE1 rfl) fun V hV => rg_X8_leastCut_0 hV I _ _ ?_
  refine up_to0 (m := N) (W := fun S => V 6 [(0, xr (0, 16)), (1, xi (a : Int)), (2, xi (b : Int)), (3, xi (mnb 1000000000 (btw a b) f S)), (4, xi (S : Int))] [] (I, xst c) 0 0) ?_ ?_
  · refine rg_X8_leastCut_6 hV I _ _ _ _ ⟨⟨by omega, by omega⟩, fun _ => pvI rfl, fun h => ?_⟩
    rw [t1, hsh] at h; omega
  · intro S hS ih
    have hb9 := hbd S
    have hfS := hf S
    rw [mnb] at ih
    refine rg_X8_leastCut_6 hV I _ _ _ _ ⟨⟨by omega, by omega⟩, fun h => ?_, fun _ => ⟨⟨by omega, by omega⟩, ⟨by omega, by omega⟩, ?_⟩⟩
    · rw [t1, hsh] at h; omega
    rw [tnN, t2 S hS]
    refine ⟨fun h => ?_, fun h => ⟨_, cn_hasOneOf hX d (by omega) (by omega) (by omega), ?_⟩⟩
    · have : (if btw a b S = true then min (mnb 1000000000 (btw a b) f S) (f S) else mnb 1000000000 (btw a b) f S) = mnb 1000000000 (btw a b) f S := by split <;> omega
      rw [this] at ih; exact ih
    rintro _ _ ⟨rfl, rfl⟩
    refine ⟨fun z => ?_, fun z => ?_⟩
    · rw [if_neg (by rw [z]; decide)] at ih; exact ih
    · rw [t2 S hS]
      rintro _ rfl
      rw [if_pos z, show min (mnb 1000000000 (btw a b) f S) (f S) = f S by omega] at ih
      exact ih
def sdI (q : Nat → Bool) (S : Nat) : Int := if cntF q S = 0 then -1 else ((andF q S : Nat) : Int)
theorem sdI_s {q : Nat → Bool} {S : Nat} (hS : S < 256) (hq : q S = true) : v_iand (sdI q S) (S : Int) = sdI q (S + 1) := by
  unfold sdI
  rw [cntF, andF, if_pos hq, if_pos hq, if_neg (show ¬ cntF q S + 1 = 0 by omega)]
  by_cases h : cntF q S = 0
  · rw [if_pos h, v_and_m1 (by omega)]
    have hno : ∀ T, T < S → q T = false := by
      have : ∀ k, cntF q k = 0 → ∀ T, T < k → q T = false := by
        intro k
        induction k with
        | zero => exact fun _ T hT => absurd hT (Nat.not_lt_zero T)
        | succ k ih =>
          intro hk T hT
          rw [cntF] at hk
          cases hqk : q k
          · rw [hqk, if_neg (by decide)] at hk
            by_cases hTk : T = k
            · rw [hTk]; exact hqk
            · exact ih hk T (by omega)
          · rw [hqk, if_pos rfl] at hk; omega
      exact this S h
    rw [andF_none hno, and_255 hS]
  · rw [if_neg h, v_and_nat (by have := andF_le q S; omega)]
theorem sdI_n {q : Nat → Bool} {S : Nat} (hq : q S = false) : sdI q (S + 1) = sdI q S := by
  have h1 : cntF q (S + 1) = cntF q S := by rw [cntF, if_neg (by rw [hq]; decide)]
  have h2 : andF q (S + 1) = andF q S := by rw [andF, if_neg (by rw [hq]; decide)]
  unfold sdI
  rw [h1, h2]
theorem cntF_pos {q : Nat → Bool} {n : Nat} (h : ∃ S, S < n ∧ q S = true) : cntF q n ≠ 0 := by
  obtain ⟨S, s1, s2⟩ := h
  induction n with
  | zero => omega
  | succ n ih =>
    rw [cntF]
    by_cases hSn : S = n
    · subst hSn; rw [if_pos s2]; omega
    · have := ih (by omega)
      split <;> omega
theorem tr_sideInAll (hX : xBase X) (d : Nat) (hT : TSum I n f) (hn : n ≤ 8) (hf : ∀ S, 0 ≤ f S ∧ f S ≤ 3200) {a b : Nat} (ha : a < n) (hb : b < n) (hab : a ≠ b) : xRet rI X m_X8_sideInAll (d + 2) [xr (0, 16), xi (a : Int), xi (b : Int), xi (lbF f n a b)] c I 0 0 (pv ((sdF f n a b : Nat) : Int) I) xNo := by
  have g2 := pow2_le8 hn
  have hsh := v_pow hn
  obtain ⟨t1, t2⟩ := hT
  obtain ⟨⟨S0, s1, s2, s3⟩, -⟩ := lbF_ok (f := f) (fun S => (hf S).2) ha hab
  have hlb := lbF_bd hf ha hab
  have hpos : cntF (sdQ f n a b) (2 ^ n) ≠ 0 := cntF_pos ⟨S0, s1, by unfold sdQ eqQ; rw [s2, decide_eq_true s3]; rfl⟩
  have hend : ((sdF f n a b : Nat) : Int) = sdI (sdQ f n a b) (2 ^ n) := by unfold sdI; rw [if_neg hpos]; rfl
  have hqd : ∀ S, sdQ f n a b S = (btw a b S && decide (f S = lbF f n a b)) := fun _ => rfl
  rw [hend]
  clear hend hpos s1
  generalize sdQ f n a b = q at hqd
  generalize 2 ^ n = N at g2 hsh t2
  refine xRet_of hX pl_X8_sideInAll (LE1 rfl) fun V hV => rg_X8_sideInAll_0 hV I _ _ _ ?_
  refine up_to0 (m := N) (W := fun S => V 6 [(0, xr (0, 16)), (1, xi (a : Int)), (2, xi (b : Int)), (3, xi (lbF f n a b)), (4, xi (sdI q S)), (5, xi (S : Int))] [] (I, xst c) 0 0) ?_ ?_
  · refine rg_X8_sideInAll_6 hV I _ _ _ _ _ ⟨⟨by omega, by omega⟩, fun _ => pvI rfl, fun h => ?_⟩
    rw [t1, hsh] at h; omega
  · intro S hS ih
    refine rg_X8_sideInAll_6 hV I _ _ _ _ _ ⟨⟨by omega, by omega⟩, fun h => ?_, fun _ => ⟨⟨by omega, by omega⟩, ⟨by omega, by omega⟩, ?_⟩⟩
    · rw [t1, hsh] at h; omega
    rw [tnN, t2 S hS]
    refine ⟨fun h => ?_, fun h => ⟨_, cn_hasOneOf hX d (by omega) (by omega) (by omega), ?_⟩⟩
    · rw [sdI_n (by rw [hqd, decide_eq_false h, Bool.and_false])] at ih; exact ih
    rintro _ _ ⟨rfl, rfl⟩
    refine ⟨fun z => ?_, fun z => ?_⟩
    · rw [sdI_n (by rw [hqd, z, Bool.false_and])] at ih; exact ih
    · rw [sdI_s (by omega) (by rw [hqd, z, decide_eq_true h]; rfl)]; exact ih
def GROWN (I : xIn) (n : Nat) (f : Nat → Int) : Prop := (∀ x, x < n → I (0, 18) x = (parF f n x : Int)) ∧ ∀ x, 1 ≤ x → x < n → I (0, 19) x = wgF f n x
theorem TSum.k9 {J : xIn} {ps : List xP} (h : TSum I n f) (hk : kp ps I J) (h1 : (0, 16) ∉ ps) (h2 : (0, 17) ∉ ps) : TSum J n f := by
  unfold TSum
  rw [hk _ h1, hk _ h2]; exact h
theorem tr_grow (hX : xBase X) (d : Nat) (hT : TSum I n f) (hn2 : 2 ≤ n) (hn : n ≤ 8) (hf : ∀ S, 0 ≤ f S ∧ f S ≤ 3200) : xRet rU X m_X8_grow (d + 4) [xr (0, 16)] c I 0 0 (fun _ I9 => kp [(0, 18), (0, 19)] I I9 ∧ GROWN I9 n f) xNo := by
  refine xRet_of hX pl_X8_grow (LE1 rfl) fun V hV => rg_X8_grow_0 hV I ?_
  refine up_to0 (m := n) (W := fun k => ∀ J, kp [(0, 18), (0, 19)] I J → (∀ x, x < k → J (0, 18) x = 0) → V 2 [(0, xr (0, 16)), (1, xi (k : Int))] [] (J, xst c) 0 0) ?_ ?_ I kp.rfl (fun x hx => absurd hx (Nat.not_lt_zero x))
  · intro J kJ hJ
    have h16 : J (0, 16) 0 = (n : Int) := by rw [kJ _ (by decide)]; exact hT.1
    refine rg_X8_grow_2 hV J _ ⟨⟨by omega, by omega⟩, fun _ => ?_, fun h => by omega⟩
    have main : ∀ j, j ≤ n - 1 → (∀ K, kp [(0, 18), (0, 19)] I K → (∀ x, x < n → K (0, 18) x = (grP f n (n - 1 - j) x : Int)) → (∀ x, 1 ≤ x → x < n - j → K (0, 19) x = wgF f n x) → V 32 [(0, xr (0, 16)), (1, xi ((n - j : Nat) : Int))] [] (K, xst c) 0 0) := by
      intro j
      induction j with
      | zero =>
        intro _ K kK h1 h2
        have h16 : K (0, 16) 0 = (n : Int) := by rw [kK _ (by decide)]; exact hT.1
        exact rg_X8_grow_32 hV K _ ⟨⟨by omega, by omega⟩, fun _ => ⟨kK, h1, h2⟩, fun h => by omega⟩
      | succ j ih =>
        intro hj K kK h1 h2
        have ih := ih (by omega)
        have h16 : K (0, 16) 0 = (n : Int) := by rw [kK _ (by decide)]; exact hT.1
        obtain ⟨cc, hcc⟩ : ∃ cc, cc = n - (j + 1) := ⟨_, rfl⟩
        rw [← hcc] at h2 ⊢
        rw [show n - 1 - (j + 1) = cc - 1 by omega] at h1
        rw [show n - 1 - j = cc by omega, show n - j = cc + 1 by omega] at ih
        have hcn : cc < n := by omega
        have hc1 : 1 ≤ cc := by omega
        have hp := grP_lt f n (cc - 1) hc1
        have hlb := lbF_bd hf hcn (show cc ≠ grP f n (cc - 1) cc by omega)
        have hTK := hT.k9 kK (by decide) (by decide)
        refine rg_X8_grow_32 hV K _ ⟨⟨by omega, by omega⟩, fun h => by omega, fun _ => ⟨⟨by omega, by omega⟩, ?_⟩⟩
        rw [tnN, h1 cc hcn]
        rintro _ rfl
        refine ⟨_, tr_leastCut hX (d + 1) hTK hn hf hcn (by omega) (by omega), ?_⟩
        rintro _ K ⟨rfl, rfl⟩
        refine ⟨⟨by omega, by omega⟩, ?_⟩
        rintro K2 e2
        have r19 : K2 (0, 19) cc = lbF f n cc (grP f n (cc - 1) cc) := by rw [e2, xu_same]
        have k2 : kp [(0, 19)] K K2 := by rw [e2]; exact kp.rfl.xu (by simp)
        rw [r19]
        refine ⟨_, tr_sideInAll hX (d + 1) (hTK.k9 k2 (by decide) (by decide)) hn hf hcn (by omega) (by omega), ?_⟩
        rintro _ K2 ⟨rfl, rfl⟩
        have hw2 : ∀ x, 1 ≤ x → x < cc + 1 → K2 (0, 19) x = wgF f n x := fun x hx1 hx2 => by
          by_cases hxc : x = cc
          · rw [hxc, r19]; rfl
          · rw [e2, xuL, upL_n hxc]; exact h2 x hx1 (by omega)
        have h18 : ∀ x, x < n → K2 (0, 18) x = (grP f n (cc - 1) x : Int) := fun x hx => by rw [k2 _ (by decide)]; exact h1 x hx
        have kK2 : kp [(0, 18), (0, 19)] I K2 := kK.tr (k2.mo (by simp))
        have hgs : ∀ x, grP f n cc x = if cc < x ∧ grP f n (cc - 1) x = grP f n (cc - 1) cc ∧ (sdF f n cc (grP f n (cc - 1) cc)).testBit x = true then cc else grP f n (cc - 1) x := fun x => by
          have := grP_s f n (cc - 1) x
          rw [show cc - 1 + 1 = cc by omega] at this
          exact this
        have hsd : sdF f n cc (grP f n (cc - 1) cc) ≤ 255 := andF_le _ _
        clear e2 r19
        refine up_to (m := n) (W := fun k => cc < k → ∀ L, kp [(0, 18)] K2 L → (∀ x, x < n → L (0, 18) x = ((if x < k then grP f n cc x else grP f n (cc - 1) x : Nat) : Int)) → V 77 [(0, xr (0, 16)), (1, xi (cc : Int)), (2, xi (grP f n (cc - 1) cc : Int)), (3, xi ((sdF f n cc (grP f n (cc - 1) cc) : Nat) : Int)), (4, xi (k : Int))] [] (L, xst c) 0 0) ?_ ?_ (cc + 1) (by omega) (Nat.lt_succ_self _) K2 kp.rfl (fun x hx => ?_)
        · intro _ L kL hL
          have h16 : L (0, 16) 0 = (n : Int) := by rw [kL _ (by decide), kK2 _ (by decide)]; exact hT.1
          refine rg_X8_grow_77 hV L _ _ _ _ ⟨⟨by omega, by omega⟩, fun _ => ih L (kK2.tr (kL.mo (by simp))) (fun x hx => ?_) (fun x hx1 hx2 => ?_), fun h => by omega⟩
          · rw [hL x hx, if_pos hx]
          · rw [kL _ (by decide)]; exact hw2 x hx1 hx2
        · intro k hk ih2 hck L kL hL
          have ih2 := ih2 (by omega)
          have h16 : L (0, 16) 0 = (n : Int) := by rw [kL _ (by decide), kK2 _ (by decide)]; exact hT.1
          have lk := hL k hk
          rw [if_neg (Nat.lt_irrefl _)] at lk
          have lt1 := grP_lt f n (cc - 1) (show 1 ≤ k by omega)
          have hkk := hgs k
          have nxt : ∀ L9, kp [(0, 18)] K2 L9 → L9 (0, 18) = upL (L (0, 18)) k (grP f n cc k : Int) → V 77 [(0, xr (0, 16)), (1, xi (cc : Int)), (2, xi (grP f n (cc - 1) cc : Int)), (3, xi ((sdF f n cc (grP f n (cc - 1) cc) : Nat) : Int)), (4, xi ((k : Int) + 1))] [] (L9, xst c) 0 0 := fun L9 kL9 e9 => by
            refine ih2 L9 kL9 fun x hx => ?_
            rw [e9]
            by_cases hxk : x = k
            · rw [hxk, upL_s, if_pos (Nat.lt_succ_self _)]
            · rw [upL_n hxk, hL x hx]
              by_cases h9 : x < k
              · rw [if_pos h9, if_pos (by omega)]
              · rw [if_neg h9, if_neg (by omega)]
          have same : grP f n cc k = grP f n (cc - 1) k → V 77 [(0, xr (0, 16)), (1, xi (cc : Int)), (2, xi (grP f n (cc - 1) cc : Int)), (3, xi ((sdF f n cc (grP f n (cc - 1) cc) : Nat) : Int)), (4, xi ((k : Int) + 1))] [] (L, xst c) 0 0 := fun h => nxt L kL (by rw [h, ← lk, upL_id])
          refine rg_X8_grow_77 hV L _ _ _ _ ⟨⟨by omega, by omega⟩, fun h => by omega, fun _ => ⟨⟨by omega, by omega⟩, ⟨by omega, by omega⟩, ?_⟩⟩
          rw [tnN, lk]
          refine ⟨fun h => same (by rw [hkk, if_neg (by omega)]), fun h => ⟨_, cn_hasBit hX (d + 3) (by omega) (by omega), ?_⟩⟩
          rintro _ L ⟨rfl, rfl⟩
          refine ⟨fun z => same (by rw [hkk, if_neg (by rw [z]; intro q; cases q.2.2)]), fun z => ⟨⟨by omega, by omega⟩, ?_⟩⟩
          rintro L2 e2
          refine nxt L2 (by rw [e2]; exact kL.xu (by simp)) ?_
          rw [e2, xuL, hkk, if_pos ⟨by omega, by omega, z⟩]
        · rw [h18 x hx]
          by_cases hxc : x < cc + 1
          · rw [if_pos hxc, hgs x, if_neg (by omega)]
          · rw [if_neg hxc]
    have := main (n - 1) (Nat.le_refl _) J kJ (fun x hx => by rw [Nat.sub_self, hJ x hx]; rfl) (fun x h1 h2 => by omega)
    rw [show n - (n - 1) = 1 by omega] at this
    exact this
  · intro k hk ih J kJ hJ
    have h16 : J (0, 16) 0 = (n : Int) := by rw [kJ _ (by decide)]; exact hT.1
    refine rg_X8_grow_2 hV J _ ⟨⟨by omega, by omega⟩, fun h => by omega, fun _ => ⟨⟨by omega, by omega⟩, ?_⟩⟩
    rw [tnN]
    rintro J2 e2 J3 e3
    refine ih J3 (by rw [e3, e2]; exact (kJ.xu (by simp)).xu (by simp)) fun x hx => ?_
    rw [e3, xu_p (by decide), e2, xuL]
    by_cases hxk : x = k
    · rw [hxk, upL_s]
    · rw [upL_n hxk]; exact hJ x (by omega)
end TRE
