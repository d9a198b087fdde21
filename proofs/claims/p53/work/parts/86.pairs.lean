/-! sets of left ones and what they like -/
def subB (A B : Nat) : Prop := ∀ i, A.testBit i = true → B.testBit i = true
theorem bitsN_mono {A B : Nat} (h : subB A B) (k : Nat) : bitsN A k ≤ bitsN B k := by
  induction k with
  | zero => exact Nat.le_refl _
  | succ k ih =>
    rw [bitsN, bitsN]
    have := h k
    cases a : A.testBit k <;> cases b : B.testBit k <;> simp_all <;> omega
theorem bitsN_mod (A B k : Nat) : bitsN (A &&& B) k + bitsN (A ||| B) k = bitsN A k + bitsN B k := by
  induction k with
  | zero => rfl
  | succ k ih =>
    rw [bitsN, bitsN, bitsN, bitsN, Nat.testBit_and, Nat.testBit_or]
    cases a : A.testBit k <;> cases b : B.testBit k <;> simp <;> omega
def LKok (lk : Nat → Nat) : Prop := ∀ k, k < 8 → lk k ≤ 255
def likedN (lk : Nat → Nat) (S : Nat) : Nat → Nat
  | 0 => 0
  | k + 1 => if S.testBit k then likedN lk S k ||| lk k else likedN lk S k
def tog (lk : Nat → Nat) (S : Nat) : Nat := likedN lk S 8
theorem likedN_lt {lk : Nat → Nat} (h : LKok lk) (S : Nat) {k : Nat} (hk : k ≤ 8) : likedN lk S k < 2 ^ 8 := by
  induction k with
  | zero => exact Nat.two_pow_pos 8
  | succ k ih =>
    have ih := ih (by omega)
    rw [likedN]
    split
    · exact Nat.or_lt_two_pow ih (by have := h k (by omega); omega)
    · exact ih
theorem tog_lt {lk : Nat → Nat} (h : LKok lk) (S : Nat) : tog lk S < 256 := likedN_lt h S (Nat.le_refl _)
theorem likedN_or (lk : Nat → Nat) (A B k : Nat) : likedN lk (A ||| B) k = likedN lk A k ||| likedN lk B k := by
  induction k with
  | zero => simp [likedN]
  | succ k ih =>
    rw [likedN, likedN, likedN, ih, Nat.testBit_or]
    apply Nat.eq_of_testBit_eq
    intro i
    cases a : A.testBit k <;> cases b : B.testBit k <;> simp only [Bool.or_true, Bool.or_false, Bool.false_eq_true, if_true, if_false, Nat.testBit_or] <;> cases (likedN lk A k).testBit i <;> cases (likedN lk B k).testBit i <;> cases (lk k).testBit i <;> rfl
theorem likedN_and (lk : Nat → Nat) (A B k : Nat) : subB (likedN lk (A &&& B) k) (likedN lk A k &&& likedN lk B k) := by
  induction k with
  | zero => intro i h; rw [likedN, Nat.zero_testBit] at h; cases h
  | succ k ih =>
    intro i
    have ih := ih i
    rw [Nat.testBit_and] at ih
    rw [likedN, likedN, likedN, Nat.testBit_and, Nat.testBit_and]
    cases a : A.testBit k <;> cases b : B.testBit k <;> simp only [Bool.and_true, Bool.and_false, Bool.false_eq_true, if_true, if_false, Nat.testBit_or] <;> revert ih <;> cases (likedN lk (A &&& B) k).testBit i <;> cases (likedN lk A k).testBit i <;> cases (likedN lk B k).testBit i <;> cases (lk k).testBit i <;> simp
theorem tb_add {j k i : Nat} (hj : j < 2 ^ k) : (j + 2 ^ k).testBit i = if i = k then true else j.testBit i := by
  rw [Nat.add_comm]
  by_cases h : i = k
  · subst h
    rw [if_pos rfl, Nat.testBit_two_pow_add_eq, Nat.testBit_lt_two_pow hj]; rfl
  · rw [if_neg h]
    by_cases h2 : i < k
    · exact Nat.testBit_two_pow_add_gt h2 j
    · have h3 : 2 ^ k + j < 2 ^ (k + 1) := by rw [Nat.pow_succ]; omega
      have h4 : 2 ^ (k + 1) ≤ 2 ^ i := Nat.pow_le_pow_right (by omega) (by omega)
      have h5 : 2 ^ k ≤ 2 ^ i := Nat.pow_le_pow_right (by omega) (by omega)
      rw [Nat.testBit_lt_two_pow (Nat.lt_of_lt_of_le h3 h4), Nat.testBit_lt_two_pow (Nat.lt_of_lt_of_le hj h5)]
theorem likedN_add (lk : Nat → Nat) {j k : Nat} (hj : j < 2 ^ k) (m : Nat) : likedN lk (j + 2 ^ k) m = if k < m then likedN lk j m ||| lk k else likedN lk j m := by
  induction m with
  | zero => rfl
  | succ m ih =>
    rw [likedN, likedN, ih, tb_add hj]
    by_cases h : m = k
    · subst h
      rw [if_pos rfl, if_pos rfl, if_neg (Nat.lt_irrefl _), if_pos (Nat.lt_succ_self _), Nat.testBit_lt_two_pow hj]
      rfl
    · simp only [if_neg h]
      by_cases h2 : k < m
      · have h3 : k < m + 1 := by omega
        simp only [if_pos h2, if_pos h3]
        cases j.testBit m <;> simp only [Bool.false_eq_true, if_true, if_false]
        rw [Nat.or_assoc, Nat.or_comm (lk k), ← Nat.or_assoc]
      · have h3 : ¬ k < m + 1 := by omega
        simp only [if_neg h2, if_neg h3]
theorem tog_add (lk : Nat → Nat) {j k : Nat} (hj : j < 2 ^ k) (hk : k < 8) : tog lk (j + 2 ^ k) = tog lk j ||| lk k := by
  unfold tog
  rw [likedN_add lk hj, if_pos hk]
/-- how much a set of left ones is too many, for free right ones -/
def fsur (lk : Nat → Nat) (R S : Nat) : Int := (pc8 S : Int) - (pc8 (tog lk S &&& R) : Int)
def sur (lk : Nat → Nat) (L R : Nat) : Int := mx 0 (fun S => decide (nd S L = 0)) (fsur lk R) (L + 1)
def prs (lk : Nat → Nat) (L R : Nat) : Int := (pc8 L : Int) - sur lk L R
theorem fsur_bd (lk : Nat → Nat) (R S : Nat) : -8 ≤ fsur lk R S ∧ fsur lk R S ≤ 8 := by
  have := bitsN_le S 8
  have := bitsN_le (tog lk S &&& R) 8
  unfold fsur pc8
  omega
theorem sur_bd (lk : Nat → Nat) (L R : Nat) : 0 ≤ sur lk L R ∧ sur lk L R ≤ 8 := by
  unfold sur
  have h := mx_spec 0 (fun S => decide (nd S L = 0)) (fsur lk R) (L + 1)
  refine ⟨h.1, ?_⟩
  rcases h.2.2 with h | ⟨S, -, -, h⟩
  · rw [h]; decide
  · rw [h]; exact (fsur_bd lk R S).2
theorem prs_bd (lk : Nat → Nat) (L R : Nat) : -8 ≤ prs lk L R ∧ prs lk L R ≤ 8 := by
  have := sur_bd lk L R
  have := bitsN_le L 8
  unfold prs pc8
  omega
/-- numbers of bits, as the JDK counts them -/
def bcF (a0 : Int) : Int := let x1 := a0 - v_iand (v_iushr a0 1) 1431655765; let x3 := v_iand x1 858993459 + v_iand (v_iushr x1 2) 858993459; let x5 := v_iand (x3 + v_iushr x3 4) 252645135; let x7 := x5 + v_iushr x5 8; let x9 := x7 + v_iushr x7 16; v_iand x9 63
theorem bcF_ok : ∀ S : Fin 256, bcF ((S.val : Nat) : Int) = ((pc8 S.val : Nat) : Int) := by decide +kernel
theorem hiM_1 : ∀ f : Fin 9, ∀ r : Fin 256, r.val < 2 ^ (8 - f.val) → pc8 (r.val * 2 ^ f.val) = pc8 r.val ∧ nd (r.val * 2 ^ f.val) (256 - 2 ^ f.val) = 0 ∧ r.val * 2 ^ f.val ≤ 256 - 2 ^ f.val := by decide +kernel
theorem hiM_2 : ∀ f : Fin 9, ∀ S : Fin 256, nd S.val (256 - 2 ^ f.val) = 0 → S.val / 2 ^ f.val < 2 ^ (8 - f.val) ∧ S.val / 2 ^ f.val * 2 ^ f.val = S.val := by decide +kernel
theorem hiM_3 : ∀ f : Fin 9, pc8 (256 - 2 ^ f.val) = 8 - f.val := by decide +kernel
def hiM (f : Nat) : Nat := 256 - 2 ^ f
/-- by the class's numbers: the least over all sets of those from first on -/
theorem prs_mw (lk : Nat → Nat) {f R : Nat} (hf : f ≤ 8) : mw ((8 - f : Nat) : Int) (fun r => ((8 - f : Nat) : Int) - (pc8 r : Int) + (pc8 (tog lk (r * 2 ^ f) &&& R) : Int)) (2 ^ (8 - f)) = prs lk (hiM f) R := by
  have hp : 2 ^ (8 - f) ≤ 256 := pow2_le8 (by omega)
  have h3 := hiM_3 ⟨f, by omega⟩
  dsimp only at h3
  have hL : hiM f < 256 := by have := Nat.two_pow_pos f; unfold hiM; omega
  have hx := mx_spec 0 (fun S => decide (nd S (hiM f) = 0)) (fsur lk R) (hiM f + 1)
  have h4 : prs lk (hiM f) R = ((8 - f : Nat) : Int) - mx 0 (fun S => decide (nd S (hiM f) = 0)) (fsur lk R) (hiM f + 1) := by unfold prs sur hiM; rw [h3]
  rw [h4]
  apply Int.le_antisymm
  · rcases hx.2.2 with h | ⟨S, h5, h6, h7⟩
    · rw [h]
      have := (mw_le (lim := ((8 - f : Nat) : Int)) (g := fun r => ((8 - f : Nat) : Int) - (pc8 r : Int) + (pc8 (tog lk (r * 2 ^ f) &&& R) : Int)) (k := 2 ^ (8 - f))).1
      omega
    · obtain ⟨b1, b2⟩ := hiM_2 ⟨f, by omega⟩ ⟨S, by omega⟩ (of_decide_eq_true h6)
      dsimp only at b1 b2
      have h8 := (mw_le (lim := ((8 - f : Nat) : Int)) (g := fun r => ((8 - f : Nat) : Int) - (pc8 r : Int) + (pc8 (tog lk (r * 2 ^ f) &&& R) : Int)) (k := 2 ^ (8 - f))).2 _ b1
      obtain ⟨a1, -, -⟩ := hiM_1 ⟨f, by omega⟩ ⟨S / 2 ^ f, by omega⟩ b1
      dsimp only at a1 h8
      rw [b2] at a1 h8
      rw [h7]
      unfold fsur
      omega
  · refine mw_ge (by omega) fun r hr => ?_
    obtain ⟨a1, a2, a3⟩ := hiM_1 ⟨f, by omega⟩ ⟨r, by omega⟩ hr
    dsimp only at a1 a2 a3
    have := hx.2.1 (r * 2 ^ f) (by unfold hiM; omega) (decide_eq_true a2)
    have e0 : fsur lk R (r * 2 ^ f) = (pc8 (r * 2 ^ f) : Int) - (pc8 (tog lk (r * 2 ^ f) &&& R) : Int) := rfl
    rw [e0, a1] at this
    omega
def CL (I : xIn) (lk : Nat → Nat) : Prop := ∀ k, k < 8 → I (0, 21) k = (lk k : Int)
def TG (I : xIn) (lk : Nat → Nat) : Prop := ∀ S, S < 256 → I (0, 22) S = (tog lk S : Int)
theorem nd_one {R r : Nat} : nd R (2 ^ r) ≤ R := nd_le _ _
section MPA
variable {X : xX} {c : xCx} {I : xIn} {lk : Nat → Nat}
theorem jd_bitCount (hX : xBase X) (d : Nat) {a : Int} {S : Nat} (ha : a = S) (hS : S < 256) : xRet rI X m_J6_bitCount_0f7a4 d [xi a] c I 0 0 (pv ((pc8 S : Nat) : Int) I) xNo := by
  subst ha
  refine xRet_of hX pl_J6_bitCount_0f7a4 (LE1 rfl) fun V hV => rg_J6_bitCount_0f7a4_0 hV I _ ?_
  rintro _ rfl _ rfl _ rfl _ rfl _ rfl
  exact pvI (bcF_ok ⟨S, hS⟩)
theorem cn_needLeft (hX : xBase X) (d : Nat) {a : Int} (ha : xin a) : xRet rU X m_X9_needLeft (d + 7) [xi a] c I 1 6 (fun _ I9 => I9 = I ∧ 0 ≤ a ∧ a < 8) (fun e I9 => e = xIOB ∧ I9 = I ∧ ¬ (0 ≤ a ∧ a < 8)) :=
  xRet_of hX pl_X9_needLeft (LE1 rfl) fun V hV => rg_X9_needLeft_0 hV I _ ⟨ha, fun h => ⟨rfl, rfl, by omega⟩, fun h => ⟨fun h2 => ⟨rfl, h, h2⟩, fun h2 => ⟨rfl, rfl, by omega⟩⟩⟩
theorem pa_gather (hX : xBase X) (d : Nat) (hk : LKok lk) (hC : CL I lk) : xRet rU X m_X4_gather d [xr (0, 20)] c I 0 0 (fun _ I9 => kp [(0, 22)] I I9 ∧ TG I9 lk) xNo := by
  refine xRet_of hX pl_X4_gather (LE1 rfl) fun V hV => rg_X4_gather_0 hV I ?_
  rintro I1 h1
  have loop := up_to0 (m := 8) (W := fun k => ∀ J : xIn, kp [(0, 22)] I J → (∀ S, S < 2 ^ k → J (0, 22) S = (tog lk S : Int)) → V 9 [(0, xr (0, 20)), (1, xi (k : Int))] [] (J, xst c) 0 0) ?_ ?_ I1 (by rw [h1]; exact kp.rfl.xu (by simp)) (fun S hS => ?_)
  · exact loop
  · intro J k1 k2
    exact rg_X4_gather_9 hV J _ ⟨⟨by decide, by decide⟩, fun _ => ⟨k1, k2⟩, fun h => absurd h (by decide)⟩
  · intro k hk8 ih J k1 k2
    have hp := pow2_le8 (show k ≤ 8 by omega)
    have hp7 : 2 ^ k ≤ 2 ^ 7 := Nat.pow_le_pow_right (by omega) (by omega)
    have hsh := v_pow (show k ≤ 8 by omega)
    have hsucc : 2 ^ (k + 1) = 2 ^ k + 2 ^ k := by rw [Nat.pow_succ]; omega
    rw [hsucc] at ih
    have hadd : ∀ j, j < 2 ^ k → tog lk (j + 2 ^ k) = tog lk j ||| lk k := fun j hj => tog_add lk hj hk8
    refine rg_X4_gather_9 hV J _ ⟨⟨by omega, by omega⟩, fun h => by omega, fun _ => ?_⟩
    rw [hsh]
    generalize 2 ^ k = P at *
    refine up_to0 (m := P) (W := fun j => ∀ J2 : xIn, kp [(0, 22)] I J2 → (∀ S, S < P + j → J2 (0, 22) S = (tog lk S : Int)) → V 21 [(0, xr (0, 20)), (1, xi (k : Int)), (2, xi (P : Int)), (3, xi (j : Int))] [] (J2, xst c) 0 0) ?_ ?_ J k1 k2
    · intro J2 m1 m2
      exact rg_X4_gather_21 hV J2 _ _ _ ⟨⟨by omega, by omega⟩, ⟨by omega, by omega⟩, fun _ => ih J2 m1 m2, fun h => by omega⟩
    · intro j hj ih2 J2 m1 m2
      refine rg_X4_gather_21 hV J2 _ _ _ ⟨⟨by omega, by omega⟩, ⟨by omega, by omega⟩, fun h => by omega, fun _ => ⟨⟨by omega, by omega⟩, ⟨by omega, by omega⟩, ⟨by omega, by omega⟩, ?_⟩⟩
      have hl := hk k hk8
      have ht := tog_lt hk j
      rw [tnN, tnN, m2 j (by omega), m1 (0, 21) (by decide), hC k hk8, v_or_nat (by omega) (by omega), ← hadd j hj, show Int.toNat ((j : Int) + (P : Int)) = j + P by omega]
      rintro J3 rfl
      refine ih2 _ (m1.xu (by simp)) fun S hS => ?_
      rw [xuL]
      by_cases h : S = j + P
      · rw [h, upL_s]
      · rw [upL_n h]; exact m2 S (by omega)
  · have hS : S = 0 := by have : 2 ^ 0 = 1 := rfl; omega
    rw [hS, h1, show Int.toNat 0 = 0 from rfl, xu_same]
    have : ∀ k, likedN lk 0 k = 0 := fun k => by
      induction k with
      | zero => rfl
      | succ k ih => rw [likedN, Nat.zero_testBit]; exact ih
    unfold tog
    rw [this]
    rfl
theorem pa_greatest (hX : xBase X) (d : Nat) (hk : LKok lk) (hT : TG I lk) {f R : Nat} (hf : f ≤ 8) (hR : R ≤ 255) : xRet rI X m_X4_greatest (d + 1) [xr (0, 20), xi (f : Int), xi (R : Int)] c I 0 0 (pv (prs lk (hiM f) R) I) xNo := by
  have hpow : 2 ^ (8 - f) * 2 ^ f = 256 := by rw [← Nat.pow_add, show 8 - f + f = 8 by omega]
  have hp : 2 ^ (8 - f) ≤ 256 := pow2_le8 (by omega)
  have hsh := v_pow (show 8 - f ≤ 8 by omega)
  rw [← prs_mw lk hf]
  have h8 : (8 : Int) - (f : Int) = ((8 - f : Nat) : Int) := by omega
  refine xRet_of hX pl_X4_greatest (LE1 rfl) fun V hV => rg_X4_greatest_0 hV I _ _ ?_
  rw [h8]
  have hmul : ∀ r, r < 2 ^ (8 - f) → r * 2 ^ f < 256 := fun r hr => by rw [← hpow]; exact Nat.mul_lt_mul_of_pos_right hr (Nat.two_pow_pos f)
  generalize hP : 2 ^ (8 - f) = P at hp hsh hmul ⊢
  have hbd : ∀ k, -8 ≤ mw ((8 - f : Nat) : Int) (fun r => ((8 - f : Nat) : Int) - (pc8 r : Int) + (pc8 (tog lk (r * 2 ^ f) &&& R) : Int)) k ∧ mw ((8 - f : Nat) : Int) (fun r => ((8 - f : Nat) : Int) - (pc8 r : Int) + (pc8 (tog lk (r * 2 ^ f) &&& R) : Int)) k ≤ 8 := fun k => by
    have h1 := (mw_le (lim := ((8 - f : Nat) : Int)) (g := fun r => ((8 - f : Nat) : Int) - (pc8 r : Int) + (pc8 (tog lk (r * 2 ^ f) &&& R) : Int)) (k := k)).1
    have h2 := mw_ge (lim := ((8 - f : Nat) : Int)) (b := -8) (g := fun r => ((8 - f : Nat) : Int) - (pc8 r : Int) + (pc8 (tog lk (r * 2 ^ f) &&& R) : Int)) (k := k) (by omega) (fun i _ => by have := bitsN_le i 8; show _ ≤ ((8 - f : Nat) : Int) - ((bitsN i 8 : Nat) : Int) + _; omega)
    omega
  refine up_to0 (m := P) (W := fun r => V 11 [(0, xr (0, 20)), (1, xi (f : Int)), (2, xi (R : Int)), (3, xi ((8 - f : Nat) : Int)), (4, xi (mw ((8 - f : Nat) : Int) (fun r => ((8 - f : Nat) : Int) - (pc8 r : Int) + (pc8 (tog lk (r * 2 ^ f) &&& R) : Int)) r)), (5, xi (r : Int))] [] (I, xst c) 0 0) ?_ ?_
  · refine rg_X4_greatest_11 hV I _ _ _ _ _ ⟨⟨by omega, by omega⟩, fun _ => pvI (by rw [hP]), fun h => ?_⟩
    rw [hsh] at h; omega
  · intro r hr ih
    have hm := hmul r hr
    have hb := hbd r
    rw [mw] at ih
    refine rg_X4_greatest_11 hV I _ _ _ _ _ ⟨⟨by omega, by omega⟩, fun h => ?_, fun _ => ⟨_, jd_bitCount hX d rfl (by omega), ?_⟩⟩
    · rw [hsh] at h; omega
    rintro _ _ ⟨rfl, rfl⟩
    rw [v_shl_nat (by omega) (by omega), tnN, hT _ hm, v_and_nat (by have := tog_lt hk (r * 2 ^ f); omega)]
    refine ⟨⟨by omega, by omega⟩, _, jd_bitCount hX d rfl (Nat.lt_of_le_of_lt Nat.and_le_right (by omega)), ?_⟩
    rintro _ _ ⟨rfl, rfl⟩
    rintro x hx
    rw [← hx] at ih
    have h1 := bitsN_le r 8
    have h2 := bitsN_le (tog lk (r * 2 ^ f) &&& R) 8
    refine ⟨?_, ⟨by omega, by omega⟩, fun h => ?_, fun h => ?_⟩
    · rw [hx]; show xin (((8 - f : Nat) : Int) - ((bitsN r 8 : Nat) : Int) + ((bitsN (tog lk (r * 2 ^ f) &&& R) 8 : Nat) : Int)); constructor <;> omega
    · rw [if_neg (by omega)] at ih; exact ih
    · rw [if_pos h] at ih; exact ih
end MPA
