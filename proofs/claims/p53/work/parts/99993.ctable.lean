/-! the class: tables -/
abbrev TB : Type := Nat × Nat × (Nat → Int)
abbrev TB.r (B : TB) : Nat := B.1
abbrev TB.k (B : TB) : Nat := B.2.1
abbrev TB.te (B : TB) : Nat → Int := B.2.2
def TBok (B : TB) : Prop := (1 ≤ B.r ∧ B.r ≤ 4) ∧ (1 ≤ B.k ∧ B.k ≤ 4) ∧ ∀ p, p < 16 → 0 ≤ B.te p ∧ B.te p ≤ 999
def CTB (I : xIn) (B : TB) : Prop := I (0, 27) 0 = (B.r : Int) ∧ I (0, 27) 1 = (B.k : Int) ∧ ∀ p, p < 16 → I (0, 28) p = B.te p
def plB (B : TB) (a b : Int) : Bool := inB a B.r && inB b B.k
def plP (B : TB) (a b : Int) : Nat := Int.toNat a * B.k + Int.toNat b
def tableA (B : TB) (m w : Int) : (Int × Int) × TB := if (1 ≤ m ∧ m ≤ 4) ∧ 1 ≤ w ∧ w ≤ 4 then ((m * w, 0), (Int.toNat m, Int.toNat w, fun _ => 0)) else ((0, 1), B)
def tellA (B : TB) (a b v : Int) : (Int × Int) × TB := if plB B a b then (if 0 ≤ v ∧ v ≤ 999 then ((B.te (plP B a b), 0), (B.r, B.k, upL B.te (plP B a b) v)) else ((0, 2), B)) else ((0, 1), B)
def roundedA (B : TB) (a b : Int) : Int × Int := if plB B a b then (rndT B.r B.k B.te (plP B a b), 0) else (0, 1)
theorem inB_nat {a : Int} {n : Nat} (h : inB a n = true) : ∃ x : Nat, a = (x : Int) ∧ x < n := by
  have := inB_t h
  obtain ⟨x, rfl⟩ := Int.eq_ofNat_of_zero_le this.1
  exact ⟨x, rfl, by omega⟩
theorem inB_of {x n : Nat} (h : x < n) : inB (x : Int) n = true := decide_eq_true (by omega)
theorem rk16 {r k : Nat} (hr : r ≤ 4) (hk : k ≤ 4) : r * k ≤ 16 := Nat.mul_le_mul hr hk
section TBC
variable {X : xX} {c : xCx} {I : xIn} {B : TB}
theorem cn_needPlace (hX : xBase X) (d : Nat) (h0 : I (0, 27) 0 = (B.r : Int)) (h1 : I (0, 27) 1 = (B.k : Int)) {a b : Int} (ha : xin a) (hb : xin b) : xRet rU X m_X9_needPlace (d + 7) [xr (0, 0), xi a, xi b] c I 1 6 (fun _ I9 => I9 = I ∧ plB B a b = true) (fun x I9 => x = xIOB ∧ I9 = I ∧ plB B a b = false) := by
  refine xRet_of hX pl_X9_needPlace (LE1 rfl) fun V hV => rg_X9_needPlace_0 hV I _ _ ?_
  rw [h0, h1]
  unfold plB
  refine ⟨ha, fun h => ⟨rfl, rfl, ?_⟩, fun h => ⟨fun h2 => ⟨rfl, rfl, ?_⟩, fun h2 => ⟨hb, fun h3 => ⟨rfl, rfl, ?_⟩, fun h3 => ⟨fun h4 => ⟨rfl, ?_⟩, fun h4 => ⟨rfl, rfl, ?_⟩⟩⟩⟩⟩
  · rw [show inB a B.r = false from decide_eq_false (by omega)]; rfl
  · rw [show inB a B.r = false from decide_eq_false (by omega)]; rfl
  · rw [show inB b B.k = false from decide_eq_false (by omega), Bool.and_false]
  · rw [show inB a B.r = true from decide_eq_true (by omega), show inB b B.k = true from decide_eq_true (by omega)]; rfl
  · rw [show inB b B.k = false from decide_eq_false (by omega), Bool.and_false]
theorem tb_placeOf (hX : xBase X) (d : Nat) {a b : Int} : xRet rI X m_X7_placeOf d [xr (0, 27), xi a, xi b] c I 0 0 (pv (a * I (0, 27) 1 + b) I) xNo := xRet_of hX pl_X7_placeOf (LE1 rfl) fun V hV => rg_X7_placeOf_0 hV I _ _ (pvI rfl)
theorem cast_cell (a k b : Nat) : (a : Int) * (k : Int) + (b : Int) = ((a * k + b : Nat) : Int) := by
  rw [Int.natCast_add, Int.natCast_mul]
theorem tb_place (hX : xBase X) (d : Nat) (h1 : I (0, 27) 1 = (B.k : Int)) {a b : Nat} : xRet rI X m_X7_placeOf d [xr (0, 27), xi (a : Int), xi (b : Int)] c I 0 0 (pv ((a * B.k + b : Nat) : Int) I) xNo := by
  refine xRet_w (tb_placeOf hX d) ?_ (fun _ _ h => h)
  rintro _ J ⟨rfl, rfl⟩
  exact pvI (by rw [h1, cast_cell])
theorem tb_start (hX : xBase X) (d : Nat) {m w : Nat} (hm : m ≤ 4) (hw : w ≤ 4) : xRet rU X m_X7_start d [xr (0, 27), xi (m : Int), xi (w : Int)] c I 0 0 (fun _ I9 => kp [(0, 27), (0, 28)] I I9 ∧ CTB I9 (m, w, fun _ => 0)) xNo := by
  refine xRet_of hX pl_X7_start (LE1 rfl) fun V hV => rg_X7_start_0 hV I _ _ ⟨⟨by omega, by omega⟩, ?_⟩
  rintro J1 e1
  refine ⟨⟨by omega, by omega⟩, ?_⟩
  rintro J2 e2
  have k2 : kp [(0, 27), (0, 28)] I J2 := by rw [e2, e1]; exact (kp.rfl.xu (by simp)).xu (by simp)
  have a0 : J2 (0, 27) 0 = (m : Int) := by rw [e2, xu_k (by decide), e1, xu_same]
  have a1 : J2 (0, 27) 1 = (w : Int) := by rw [e2, xu_same]
  clear e1 e2
  refine up_to0 (m := 16) (W := fun p => ∀ J, kp [(0, 27), (0, 28)] I J → J (0, 27) = J2 (0, 27) → (∀ q, q < p → J (0, 28) q = 0) → V 12 [(0, xr (0, 27)), (3, xi (p : Int))] [] (J, xst c) 0 0) ?_ ?_ J2 k2 rfl (fun q hq => absurd hq (Nat.not_lt_zero q))
  · intro J kJ q27 hJ
    exact rg_X7_start_12 hV J _ ⟨⟨by omega, by omega⟩, fun _ => ⟨kJ, by rw [q27]; exact a0, by rw [q27]; exact a1, hJ⟩, fun h => by omega⟩
  · intro p hp ih J kJ q27 hJ
    refine rg_X7_start_12 hV J _ ⟨⟨by omega, by omega⟩, fun h => by omega, fun _ => ⟨⟨by omega, by omega⟩, ?_⟩⟩
    rintro _ rfl
    refine ih _ (kJ.xu (by simp)) (by rw [xu_p (by decide)]; exact q27) fun q hq => ?_
    rw [xuL, tnN]
    rcases upL_c (J (0, 28)) p 0 q with ⟨w1, w2⟩ | ⟨w1, w2⟩
    · exact w2
    · rw [w2]; exact hJ q (by omega)
theorem cn_table (hX : xBase X) (d : Nat) (hC : CTB I B) {m w : Int} (hm : xin m) (hw : xin w) : xRet rI X m_X9_table (d + 7) [xr (0, 0), xi m, xi w] c I 1 6 (fun v I9 => kp [(0, 27), (0, 28)] I I9 ∧ CTB I9 (tableA B m w).2 ∧ (v, 0) = (tableA B m w).1) (fun x I9 => I9 = I ∧ (tableA B m w).2 = B ∧ exL [xIAE] x (tableA B m w).1.2) := by
  refine xRet_of hX pl_X9_table (LE1 rfl) fun V hV => rg_X9_table_0 hV I _ _ ?_
  unfold tableA
  refine ⟨hm, fun h => ?_, fun h => ⟨fun h2 => ?_, fun h2 => ⟨hw, fun h3 => ?_, fun h3 => ⟨fun h4 => ?_, fun h4 => ?_⟩⟩⟩⟩
  · rw [if_neg (by omega)]; exact ⟨rfl, rfl, 0, rfl, rfl⟩
  · rw [if_neg (by omega)]; exact ⟨rfl, rfl, 0, rfl, rfl⟩
  · rw [if_neg (by omega)]; exact ⟨rfl, rfl, 0, rfl, rfl⟩
  · obtain ⟨m, rfl⟩ := Int.eq_ofNat_of_zero_le (show 0 ≤ m by omega)
    obtain ⟨w, rfl⟩ := Int.eq_ofNat_of_zero_le (show 0 ≤ w by omega)
    rw [if_pos ⟨⟨h, h2⟩, h3, h4⟩, tnN, tnN]
    refine ⟨_, tb_start hX (d + 6) (show m ≤ 4 by omega) (show w ≤ 4 by omega), ?_⟩
    rintro _ J ⟨k1, k2⟩
    exact ⟨k1, k2, rfl⟩
  · rw [if_neg (by omega)]; exact ⟨rfl, rfl, 0, rfl, rfl⟩
theorem plB_t {a b : Int} (h : plB B a b = true) : ∃ x y : Nat, a = (x : Int) ∧ b = (y : Int) ∧ x < B.r ∧ y < B.k := by
  unfold plB at h
  rw [Bool.and_eq_true] at h
  obtain ⟨x, rfl, hx⟩ := inB_nat h.1
  obtain ⟨y, rfl, hy⟩ := inB_nat h.2
  exact ⟨x, y, rfl, rfl, hx, hy⟩
theorem cn_tell (hX : xBase X) (d : Nat) (hB : TBok B) (hC : CTB I B) {a b v : Int} (ha : xin a) (hb : xin b) (hv : xin v) : xRet rI X m_X9_tell (d + 8) [xr (0, 0), xi a, xi b, xi v] c I 2 12 (fun w I9 => kp [(0, 28)] I I9 ∧ CTB I9 (tellA B a b v).2 ∧ (w, 0) = (tellA B a b v).1) (fun x I9 => I9 = I ∧ (tellA B a b v).2 = B ∧ exL [xIOB, xIAE] x (tellA B a b v).1.2) := by
  obtain ⟨c0, c1, c2⟩ := id hC
  refine xRet_of hX pl_X9_tell (LE1 rfl) fun V hV => rg_X9_tell_0 hV I _ _ _ ⟨_, _, cn_needPlace hX d c0 c1 ha hb, ?_, ?_⟩
  · rintro x J ⟨rfl, rfl, h⟩
    unfold tellA
    rw [h, if_neg (by decide)]
    exact ⟨rfl, rfl, 0, rfl, rfl⟩
  rintro _ J ⟨rfl, h⟩
  unfold tellA
  rw [if_pos h]
  obtain ⟨x, y, rfl, rfl, hx, hy⟩ := plB_t h
  have hp16 := rk16 hB.1.2 hB.2.1.2
  have hcell := cell_lt hx hy
  have hpl : plP B (x : Int) (y : Int) = x * B.k + y := by unfold plP; rw [tnN, tnN]
  refine ⟨hv, fun h1 => ?_, fun h1 => ⟨fun h2 => ⟨_, tb_place hX (d + 7) c1, ?_⟩, fun h2 => ?_⟩⟩
  · rw [if_neg (by omega)]; exact ⟨rfl, rfl, 1, rfl, rfl⟩
  · rintro _ J ⟨rfl, rfl⟩
    refine ⟨⟨by omega, by omega⟩, ?_⟩
    rintro _ rfl _ rfl
    rw [tnN, if_pos ⟨h1, h2⟩, hpl]
    refine ⟨kp.rfl.xu (by simp), ⟨by rw [xu_p (by decide)]; exact c0, by rw [xu_p (by decide)]; exact c1, fun p hp => ?_⟩, by rw [c2 _ (by omega)]⟩
    rw [xuL]
    show upL (J (0, 28)) (x * B.k + y) v p = upL B.te (x * B.k + y) v p
    rcases upL_c (J (0, 28)) (x * B.k + y) v p with ⟨w1, w2⟩ | ⟨w1, w2⟩
    · rw [w2, w1, upL_s]
    · rw [w2, upL_n w1]; exact c2 p hp
  · rw [if_neg (by omega)]; exact ⟨rfl, rfl, 1, rfl, rfl⟩
/-- sums of rows and columns, as far as row a and column b -/
def SumsAt (I : xIn) (r k : Nat) (w : Nat → Int) (a b : Nat) : Prop := I (0, 27) 6 = sumE (a * k + b) w ∧ (∀ x, x < 4 → I (0, 30) x = if x < a then rsT k w x else if x = a then sumE b (fun y => w (a * k + y)) else 0) ∧ ∀ y, y < k → I (0, 31) y = sumE (if y < b then a + 1 else a) (fun x => w (x * k + y))
theorem tb_addUp (hX : xBase X) (d : Nat) {r k : Nat} (hr : r ≤ 4) (hk1 : 1 ≤ k) (hk : k ≤ 4) (h0 : I (0, 27) 0 = (r : Int)) (h1 : I (0, 27) 1 = (k : Int)) {q : xP} (hkq : kd q = (1, 16)) (hq : q ∈ lvL c.1 c.2.1) (hq9 : q ∉ [((0, 27) : xP), (0, 30), (0, 31)]) (hb : ∀ p, p < r * k → -2000 ≤ I q p ∧ I q p ≤ 2000) : xRet rU X m_X7_addUp (d + 1) [xr (0, 27), xr q] c I 0 0 (fun _ I9 => kp [(0, 27), (0, 30), (0, 31)] I I9 ∧ (∀ j, j ≠ 6 → I9 (0, 27) j = I (0, 27) j) ∧ I9 (0, 27) 6 = sumE (r * k) (I q) ∧ (∀ x, x < r → I9 (0, 30) x = rsT k (I q) x) ∧ ∀ y, y < k → I9 (0, 31) y = csT r k (I q) y) xNo := by
  have hrk := rk16 hr hk
  have hsb : ∀ n (g : Nat → Nat), n ≤ 16 → (∀ x, x < n → g x < r * k) → -32000 ≤ sumE n (fun x => I q (g x)) ∧ sumE n (fun x => I q (g x)) ≤ 32000 := fun n g hn hg => by
    have := sumE_bd (n := n) (f := fun x => I q (g x)) (a := -2000) (b := 2000) fun x hx => hb _ (hg x hx)
    omega
  refine xRet_of hX pl_X7_addUp (LE1 rfl) fun V hV => rg_X7_addUp_0 hV I q hkq hq ?_
  rintro J0 e0
  have k0 : kp [(0, 27), (0, 30), (0, 31)] I J0 := by rw [e0]; exact kp.rfl.xu (by simp)
  have s0 : ∀ j, j ≠ 6 → J0 (0, 27) j = I (0, 27) j := fun j hj => by rw [e0, xu_k hj]
  have s6 : J0 (0, 27) 6 = 0 := by rw [e0, xu_same]
  clear e0
  -- the cells
  have rows : ∀ J, kp [(0, 27), (0, 30), (0, 31)] I J → (∀ j, j ≠ 6 → J (0, 27) j = I (0, 27) j) → SumsAt J r k (I q) 0 0 → V 34 [(0, xr (0, 27)), (1, xr q), (2, xi 0)] [] (J, xst c) 0 0 := by
    refine up_to0 (m := r) (W := fun a => ∀ J, kp [(0, 27), (0, 30), (0, 31)] I J → (∀ j, j ≠ 6 → J (0, 27) j = I (0, 27) j) → SumsAt J r k (I q) a 0 → V 34 [(0, xr (0, 27)), (1, xr q), (2, xi (a : Int))] [] (J, xst c) 0 0) ?_ ?_
    · intro J kJ sJ hJ
      obtain ⟨t1, t2, t3⟩ := hJ
      refine rg_X7_addUp_34 hV J q _ hkq hq ⟨⟨by omega, by omega⟩, fun _ => ⟨kJ, sJ, t1, fun x hx => ?_, fun y hy => ?_⟩, fun h => by rw [sJ 0 (by decide), h0] at h; omega⟩
      · rw [t2 x (by omega), if_pos hx]
      · rw [t3 y hy, if_neg (Nat.not_lt_zero y)]; rfl
    · intro a ha ih J kJ sJ hJ
      refine rg_X7_addUp_34 hV J q _ hkq hq ⟨⟨by omega, by omega⟩, fun h => by rw [sJ 0 (by decide), h0] at h; omega, fun _ => ?_⟩
      refine up_to0 (m := k) (W := fun b => ∀ J, kp [(0, 27), (0, 30), (0, 31)] I J → (∀ j, j ≠ 6 → J (0, 27) j = I (0, 27) j) → SumsAt J r k (I q) a b → V 44 [(0, xr (0, 27)), (1, xr q), (2, xi (a : Int)), (3, xi (b : Int))] [] (J, xst c) 0 0) ?_ ?_ J kJ sJ hJ
      · intro J kJ sJ hJ
        obtain ⟨t1, t2, t3⟩ := hJ
        refine rg_X7_addUp_44 hV J q _ _ hkq hq ⟨⟨by omega, by omega⟩, fun _ => ih J kJ sJ ⟨?_, fun x hx => ?_, fun y hy => ?_⟩, fun h => by rw [sJ 1 (by decide), h1] at h; omega⟩
        · rw [t1, Nat.succ_mul]; rfl
        · rw [t2 x hx]
          by_cases c1 : x < a
          · rw [if_pos c1, if_pos (show x < a + 1 by omega)]
          · by_cases c2 : x = a
            · rw [if_neg c1, if_pos c2, if_pos (show x < a + 1 by omega), c2]; rfl
            · rw [if_neg c1, if_neg c2, if_neg (show ¬ x < a + 1 by omega)]
              split <;> rfl
        · rw [t3 y hy, if_neg (Nat.not_lt_zero y), if_pos hy]
      · intro b hb9 ih2 J kJ sJ hJ
        obtain ⟨t1, t2, t3⟩ := hJ
        have hcell := cell_lt ha hb9
        refine rg_X7_addUp_44 hV J q _ _ hkq hq ⟨⟨by omega, by omega⟩, fun h => by rw [sJ 1 (by decide), h1] at h; omega, fun _ => ⟨_, tb_place (B := (r, k, fun _ => 0)) hX d (by rw [sJ 1 (by decide)]; exact h1), ?_⟩⟩
        rintro _ J ⟨rfl, rfl⟩
        have hcell9 : a * (TB.k (r, k, fun _ => 0)) + b < 16 := by show a * k + b < 16; omega
        refine ⟨⟨by omega, by omega⟩, ?_⟩
        rintro x7 e7
        have e7 : x7 = I q (a * k + b) := by rw [e7, tnN, kJ q hq9]
        have hx7 := hb _ hcell
        rw [← e7] at hx7
        have z1 := hsb b (fun y => a * k + y) (by omega) (fun y hy => by have := cell_lt (r := r) ha (show y < k by omega); omega)
        have z2 := hsb a (fun x => x * k + b) (by omega) (fun x hx => by have := cell_lt (r := r) (show x < r by omega) hb9; omega)
        have z3 : -32000 ≤ sumE (a * k + b) (I q) ∧ sumE (a * k + b) (I q) ≤ 32000 := hsb (a * k + b) (fun x => x) (by omega) (fun x hx => by omega)
        have ja := t2 a (by omega)
        rw [if_neg (Nat.lt_irrefl a), if_pos rfl] at ja
        have jb := t3 b (by omega)
        rw [if_neg (Nat.lt_irrefl b)] at jb
        refine ⟨⟨by omega, by omega⟩, ?_⟩
        rw [tnN, ja]
        refine ⟨⟨by omega, by omega⟩, ?_⟩
        rintro J1 e1
        have kJ1 : kp [(0, 27), (0, 30), (0, 31)] I J1 := by rw [e1]; exact kJ.xu (by simp)
        have q30 : J1 (0, 30) = upL (J (0, 30)) a (sumE b (fun y => I q (a * k + y)) + x7) := by rw [e1, xuL]
        have q31 : J1 (0, 31) = J (0, 31) := by rw [e1, xu_p (by decide)]
        have q27 : J1 (0, 27) = J (0, 27) := by rw [e1, xu_p (by decide)]
        clear e1
        refine ⟨⟨by omega, by omega⟩, ?_⟩
        rw [q31, tnN, jb]
        refine ⟨⟨by omega, by omega⟩, ?_⟩
        rintro J2 e2
        have kJ2 : kp [(0, 27), (0, 30), (0, 31)] I J2 := by rw [e2]; exact kJ1.xu (by simp)
        have r30 : J2 (0, 30) = J1 (0, 30) := by rw [e2, xu_p (by decide)]
        have r31 : J2 (0, 31) = upL (J (0, 31)) b (sumE a (fun x => I q (x * k + b)) + x7) := by rw [e2, xuL, q31]
        have r27 : J2 (0, 27) = J (0, 27) := by rw [e2, xu_p (by decide), q27]
        clear e2
        rw [r27, t1]
        refine ⟨⟨by omega, by omega⟩, ?_⟩
        rintro J3 e3
        have kJ3 : kp [(0, 27), (0, 30), (0, 31)] I J3 := by rw [e3]; exact kJ2.xu (by simp)
        have u30 : J3 (0, 30) = J1 (0, 30) := by rw [e3, xu_p (by decide), r30]
        have u31 : J3 (0, 31) = J2 (0, 31) := by rw [e3, xu_p (by decide)]
        have u27 : J3 (0, 27) = upL (J (0, 27)) 6 (sumE (a * k + b) (I q) + x7) := by rw [e3, xuL, r27]
        clear e3
        refine ih2 J3 kJ3 (fun j hj => by rw [u27, upL_n hj]; exact sJ j hj) ⟨?_, fun x hx => ?_, fun y hy => ?_⟩
        · rw [u27, upL_s, e7]; rfl
        · rw [u30, q30]
          rcases upL_c (J (0, 30)) a (sumE b (fun y => I q (a * k + y)) + x7) x with ⟨w1, w2⟩ | ⟨w1, w2⟩
          · rw [w2, w1, if_neg (Nat.lt_irrefl a), if_pos rfl, e7]; rfl
          · rw [w2, t2 x hx, if_neg w1, if_neg w1]
        · rw [u31, r31]
          rcases upL_c (J (0, 31)) b (sumE a (fun x => I q (x * k + b)) + x7) y with ⟨w1, w2⟩ | ⟨w1, w2⟩
          · rw [w2, w1, if_pos (show b < b + 1 by omega), e7]; rfl
          · rw [w2, t3 y hy]
            by_cases c1 : y < b
            · rw [if_pos c1, if_pos (show y < b + 1 by omega)]
            · rw [if_neg c1, if_neg (show ¬ y < b + 1 by omega)]
  refine up_to0 (m := 4) (W := fun x => ∀ J, kp [(0, 27), (0, 30), (0, 31)] I J → J (0, 27) = J0 (0, 27) → (∀ y, y < x → J (0, 30) y = 0 ∧ J (0, 31) y = 0) → V 7 [(0, xr (0, 27)), (1, xr q), (2, xi (x : Int))] [] (J, xst c) 0 0) ?_ ?_ J0 k0 rfl (fun y hy => absurd hy (Nat.not_lt_zero y))
  · intro J kJ q27 hJ
    refine rg_X7_addUp_7 hV J q _ hkq hq ⟨⟨by omega, by omega⟩, fun _ => rows J kJ (fun j hj => by rw [q27]; exact s0 j hj) ⟨by rw [q27, s6, Nat.zero_mul]; rfl, fun x hx => ?_, fun y hy => ?_⟩, fun h => by omega⟩
    · rw [(hJ x hx).1, if_neg (Nat.not_lt_zero x)]
      split <;> rfl
    · rw [(hJ y (by omega)).2, if_neg (Nat.not_lt_zero y)]; rfl
  · intro x hx ih J kJ q27 hJ
    refine rg_X7_addUp_7 hV J q _ hkq hq ⟨⟨by omega, by omega⟩, fun h => by omega, fun _ => ⟨⟨by omega, by omega⟩, ?_⟩⟩
    rintro _ rfl _ rfl
    refine ih _ ((kJ.xu (by simp)).xu (by simp)) (by rw [xu_p (by decide), xu_p (by decide)]; exact q27) fun y hy => ?_
    rw [xuL, xu_p (q := (0, 31)) (by decide), xuL, xu_p (q := (0, 30)) (by decide), tnN]
    rcases upL_c (J (0, 30)) x 0 y with ⟨w1, w2⟩ | ⟨w1, w2⟩
    · refine ⟨w2, ?_⟩
      rw [w1, upL_s]
    · rw [w2, upL_n w1]; exact hJ y (by omega)
end TBC
