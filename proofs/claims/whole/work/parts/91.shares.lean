/-! quotients of small numbers are numbers -/
theorem fl_share : ∀ a : Fin 17, ∀ b : Fin 17, b.val ≠ 0 → (FP.fdiv (FP.i2f (Int32.ofInt ((a.val : Nat) : Int))) (FP.i2f (Int32.ofInt ((b.val : Nat) : Int)))) &&& 0x7fffffff ≤ 0x7f800000 := by decide +kernel
theorem db_bound {c : Nat} {q : Int} (hc : c < 2 ^ 53) (hq : FP.Core.b64.qmin ≤ q) : FP.Core.encode FP.Core.b64 (FP.Core.bound FP.Core.b64 false c q) ≤ 9218868437227405312 := by
  have e1 : FP.Core.b64.qmin = -1074 := by decide
  have e2 : FP.Core.b64.qmax = 971 := by decide
  have e3 : FP.Core.b64.tails = 4503599627370496 := by decide
  have e4 : FP.Core.b64.exps = 2048 := by decide
  rw [e1] at hq
  unfold FP.Core.bound
  rw [e2]
  split
  · unfold FP.Core.encode FP.Core.assemble
    dsimp only
    rw [e3, e4, e1]
    have : Bool.toNat false = 0 := rfl
    rw [this]
    split <;> omega
  · unfold FP.Core.encode FP.Core.assemble
    dsimp only
    rw [e3, e4]
    decide
theorem db_ratio (c d : Nat) (e : Int) : FP.Core.encode FP.Core.b64 (FP.Core.roundRatio FP.Core.b64 false c d e) ≤ 9218868437227405312 := by
  unfold FP.Core.roundRatio
  split
  · decide
  · unfold FP.Core.roundAt FP.Core.settle
    have hq : FP.Core.b64.qmin ≤ FP.Core.quantum FP.Core.b64 c d e := by unfold FP.Core.quantum; omega
    have ep : FP.Core.b64.p = 53 := rfl
    rw [ep]
    split
    · rename_i h
      exact db_bound h hq
    · exact db_bound (by decide) (by omega)
def db_ok (x : UInt64) : Bool := match FP.Core.decode FP.Core.b64 x.toNat with
  | .fin s c _ => !s && decide (c ≠ 0)
  | _ => false
theorem db_div {a b : UInt64} (ha : db_ok a = true ∨ FP.Core.decode FP.Core.b64 a.toNat = .fin false 0 (-1074)) (hb : db_ok b = true) : (FP.ddiv a b) &&& 0x7fffffffffffffff ≤ 0x7ff0000000000000 := by
  have key : FP.Core.div FP.Core.b64 a.toNat b.toNat ≤ 9218868437227405312 := by
    unfold FP.Core.div
    unfold db_ok at ha hb
    generalize FP.Core.decode FP.Core.b64 a.toNat = da at ha
    generalize FP.Core.decode FP.Core.b64 b.toNat = db at hb
    cases db with
    | nan => cases hb
    | inf s => cases hb
    | fin t d r =>
      have hb1 : t = false ∧ d ≠ 0 := by simpa using hb
      obtain ⟨rfl, hd⟩ := hb1
      cases da with
      | nan => rcases ha with ha | ha <;> cases ha
      | inf s => rcases ha with ha | ha <;> cases ha
      | fin s c q =>
        have hs : s = false := by
          rcases ha with ha | ha
          · have : s = false ∧ c ≠ 0 := by simpa using ha
            exact this.1
          · cases ha; rfl
        subst hs
        unfold FP.Core.quotient
        dsimp only
        rw [if_neg hd]
        exact db_ratio _ _ _
  unfold FP.ddiv FP.Core.ddiv
  generalize FP.Core.div FP.Core.b64 a.toNat b.toNat = n at key
  rw [UInt64.le_iff_toNat_le, UInt64.toNat_and, UInt64.toNat_ofNat']
  refine Nat.le_trans Nat.and_le_left (Nat.le_trans (Nat.mod_le _ _) ?_)
  exact key
theorem db_int : ∀ a : Fin 1601, db_ok (FP.i2d (Int32.ofInt ((a.val + 1 : Nat) : Int))) = true := by decide +kernel
theorem db_0 : FP.Core.decode FP.Core.b64 (FP.i2d (Int32.ofInt 0)).toNat = .fin false 0 (-1074) := by decide +kernel
theorem db_mean {a b : Int} (ha : 0 ≤ a ∧ a ≤ 1600) (hb : 1 ≤ b ∧ b ≤ 1600) : vf_n64 (FP.ddiv (FP.i2d (Int32.ofInt a)) (FP.i2d (Int32.ofInt b))) := by
  have hb2 : db_ok (FP.i2d (Int32.ofInt b)) = true := by
    have := db_int ⟨Int.toNat b - 1, by omega⟩
    rw [show (((Int.toNat b - 1 + 1 : Nat)) : Int) = b by omega] at this
    exact this
  by_cases h0 : a = 0
  · rw [h0]; exact db_div (Or.inr db_0) hb2
  · have := db_int ⟨Int.toNat a - 1, by omega⟩
    rw [show (((Int.toNat a - 1 + 1 : Nat)) : Int) = a by omega] at this
    exact db_div (Or.inl this) hb2
theorem fl_mean {a b : Int} (ha : 0 ≤ a ∧ a ≤ 16) (hb : 1 ≤ b ∧ b ≤ 16) : vf_n32 (FP.fdiv (FP.i2f (Int32.ofInt a)) (FP.i2f (Int32.ofInt b))) := by
  have := fl_share ⟨Int.toNat a, by omega⟩ ⟨Int.toNat b, by omega⟩ (by show Int.toNat b ≠ 0; omega)
  rw [show ((Int.toNat a : Nat) : Int) = a by omega, show ((Int.toNat b : Nat) : Int) = b by omega] at this
  exact this
/-! the row of the told flow, how many are full, their sum -/
def rowV (G : Gr) (lo hi : Nat → Int) (s t e : Nat) : Int := (lxF G lo hi s t (amountF G lo hi s t) G.m).1 e
def fullN (G : Gr) (lo hi : Nat → Int) (s t k : Nat) : Int := sumE k (fun e => if rowV G lo hi s t e = hi e then 1 else 0)
def meanN (G : Gr) (lo hi : Nat → Int) (s t k : Nat) : Int := sumE k (rowV G lo hi s t)
theorem fullN_s (G : Gr) (lo hi : Nat → Int) (s t k : Nat) : fullN G lo hi s t (k + 1) = fullN G lo hi s t k + (if rowV G lo hi s t k = hi k then 1 else 0) := rfl
theorem meanN_s (G : Gr) (lo hi : Nat → Int) (s t k : Nat) : meanN G lo hi s t (k + 1) = meanN G lo hi s t k + rowV G lo hi s t k := rfl
def shareG (G : Gr) (lo hi : Nat → Int) (s t : Nat) : UInt32 × Int := if amountF G lo hi s t = NONE9 ∨ G.m = 0 then (0, 3) else (FP.fdiv (FP.i2f (Int32.ofInt (fullN G lo hi s t G.m))) (FP.i2f (Int32.ofInt (G.m : Int))), 0)
def meanG (G : Gr) (lo hi : Nat → Int) (s t : Nat) : UInt64 × Int := if amountF G lo hi s t = NONE9 ∨ G.m = 0 then (0, 3) else (FP.ddiv (FP.i2d (Int32.ofInt (meanN G lo hi s t G.m))) (FP.i2d (Int32.ofInt (G.m : Int))), 0)
def shareA (T : NT) (a s t : Int) : UInt32 × Int := wE 0 (wrongT T a s t) (shareG (T.G (Int.toNat a)) (T.lo (Int.toNat a)) (T.hi (Int.toNat a)) (Int.toNat s) (Int.toNat t))
def meanA (T : NT) (a s t : Int) : UInt64 × Int := wE 0 (wrongT T a s t) (meanG (T.G (Int.toNat a)) (T.lo (Int.toNat a)) (T.hi (Int.toNat a)) (Int.toNat s) (Int.toNat t))
theorem fullN_bd (G : Gr) (lo hi : Nat → Int) (s t k : Nat) : 0 ≤ fullN G lo hi s t k ∧ fullN G lo hi s t k ≤ k := by
  have := sumE_bd (n := k) (f := fun e => if rowV G lo hi s t e = hi e then 1 else 0) (a := 0) (b := 1) (fun e he => by split <;> omega)
  unfold fullN
  omega
theorem rowV_bd {T : NT} (hT : NTok T) {i s t : Nat} (hi : i < T.N) (hs : s < (T.G i).n) (ht : t < (T.G i).n) (hst : s ≠ t) (hn : amountF (T.G i) (T.lo i) (T.hi i) s t ≠ NONE9) {e : Nat} (he : e < (T.G i).m) : 0 ≤ rowV (T.G i) (T.lo i) (T.hi i) s t e ∧ rowV (T.G i) (T.lo i) (T.hi i) s t e ≤ 99 := by
  obtain ⟨hG, hB, -⟩ := hT.2 i hi
  rcases amount_in hT hi hs ht hst with z | ⟨-, -, f, hf⟩
  · exact absurd z hn
  · have h1 := (lxF_ok hG.in hs ht hst hf (Nat.le_refl _)).1 e he
    rw [← lxF_same he] at h1
    have h2 := (hB e he).1
    unfold rowV
    omega
section SHR
variable {X : xX} {c : xCx} {I : xIn} {T : NT} {a s t : Int}
theorem cn_needSomeEdge (hX : xBase X) (d : Nat) {i : Nat} (hi : i < c.1) {m : Nat} (hm : I (i + 3, 0) 7 = (m : Int)) : xRet rU X m_X9_needSomeEdge (d + 7) [xr (i + 3, 0)] c I 1 6 (fun _ I9 => I9 = I ∧ 0 < m) (fun e I9 => e = xNSE ∧ I9 = I ∧ m = 0) :=
  xRet_of hX pl_X9_needSomeEdge (LE1 rfl) fun V hV => rg_X9_needSomeEdge_0 hV I i hi ⟨fun h => ⟨rfl, by omega⟩, fun h => ⟨rfl, rfl, by omega⟩⟩
theorem cn_fullShare (hX : xBase X) (d : Nat) (hT : NTok T) (hI : CI I c T) (ha : xin a) (hs : xin s) (ht : xin t) : xRet rF X m_X9_fullShare (d + 9) [xr (0, 0), xi a, xi s, xi t] c I 4 24 (fun v I9 => keepC I I9 ∧ (v, 0) = shareA T a s t) (fun x I9 => keepC I I9 ∧ exN x (shareA T a s t).2) := by
  refine xRet_of hX pl_X9_fullShare (LE1 rfl) fun V hV => rg_X9_fullShare_0 hV I _ _ _ (go_ends hX (d + 1) hT hI ha hs ht (fun x hx hw => ⟨keepC.id9, by unfold shareA; rw [wE_p hw]; exact hx⟩) ?_)
  rintro i s t rfl rfl rfl hi hC hs9 ht9 hst hw
  have hA : shareA T (i : Int) (s : Int) (t : Int) = shareG (T.G i) (T.lo i) (T.hi i) s t := by unfold shareA; rw [wE_0 hw, tnN, tnN, tnN]
  rw [hA]
  have hG := hC.2.2.2.1
  have hm := hG.2.2.1
  have hcg : amountF (T.G i) (I (i + 3, 3)) (I (i + 3, 4)) s t = amountF (T.G i) (T.lo i) (T.hi i) s t := amountF_cong (hI.lo hi) (hI.hi hi)
  refine ⟨_, _, cn_needSomeEdge hX (d + 1) hC.1 hC.2.2.1, ?_, ?_⟩
  · rintro x J ⟨rfl, rfl, h0⟩
    exact ⟨keepC.id9, by unfold shareG; rw [if_pos (Or.inr h0)]; exact Or.inr (Or.inr ⟨rfl, rfl⟩)⟩
  rintro _ J ⟨rfl, h0⟩
  refine ⟨_, _, cn_tellGreatest hX d hC (hI.nb hT hi) hs9 ht9 hst, ?_, ?_⟩
  · rintro x J2 ⟨rfl, k1, k2⟩
    rw [hcg] at k2
    exact ⟨k1.C, by unfold shareG; rw [if_pos (Or.inl k2)]; exact Or.inr (Or.inr ⟨rfl, rfl⟩)⟩
  rintro _ J2 ⟨k1, k2, k3, k4⟩
  rw [hcg] at k2 k4
  have hrow : ∀ e, e < (T.G i).m → J2 (0, 11) e = rowV (T.G i) (T.lo i) (T.hi i) s t e := fun e he => by
    rw [k4 e he]; exact (lxF_cong (hI.lo hi) (hI.hi hi) (Nat.le_refl _) e he).1
  have hJm : J2 (i + 3, 0) 7 = ((T.G i).m : Int) := by rw [k1 (i + 3, 0) (by simp)]; exact hC.2.2.1
  have hJh : ∀ e, e < (T.G i).m → J2 (i + 3, 4) e = T.hi i e := fun e he => by rw [k1 (i + 3, 4) (by simp)]; exact hI.hi hi e he
  refine up_to0 (m := (T.G i).m) (W := fun k => V 33 [(0, xr (0, 0)), (4, xr (i + 3, 0)), (5, xi (fullN (T.G i) (T.lo i) (T.hi i) s t k)), (6, xi (k : Int))] [] (J2, xst c) 4 24) ?_ ?_
  · have hb := fullN_bd (T.G i) (T.lo i) (T.hi i) s t (T.G i).m
    refine rg_X9_fullShare_33 hV J2 i hC.1 _ _ ⟨⟨by omega, by omega⟩, fun _ => ?_, fun h => by omega⟩
    rw [hJm]
    refine ⟨fl_mean ⟨by omega, by omega⟩ ⟨by omega, by omega⟩, k1.C, ?_⟩
    rw [hA]
    unfold shareG
    rw [if_neg (by rintro (z | z); exact k2 z; omega)]
  · intro k hk ih
    rw [fullN_s] at ih
    have hrb := rowV_bd hT hi hs9 ht9 hst k2 hk
    refine rg_X9_fullShare_33 hV J2 i hC.1 _ _ ⟨⟨by omega, by omega⟩, fun h => by omega, fun _ => ⟨_, st_numberOf hX (d + 6) k3 (Nat.lt_succ_of_lt hk), ?_⟩⟩
    rintro _ J2 ⟨rfl, rfl⟩
    rw [hrow k hk, tnN, hJh k hk]
    refine ⟨⟨by omega, by omega⟩, ⟨by omega, by omega⟩, fun z => ?_, fun z => ?_⟩
    · rw [if_neg z] at ih; exact ih
    · rw [if_pos z] at ih; exact ih
theorem cn_meanFlow (hX : xBase X) (d : Nat) (hT : NTok T) (hI : CI I c T) (ha : xin a) (hs : xin s) (ht : xin t) : xRet rD X m_X9_meanFlow (d + 9) [xr (0, 0), xi a, xi s, xi t] c I 4 24 (fun v I9 => keepC I I9 ∧ (v, 0) = meanA T a s t) (fun x I9 => keepC I I9 ∧ exN x (meanA T a s t).2) := by
  refine xRet_of hX pl_X9_meanFlow (LE1 rfl) fun V hV => rg_X9_meanFlow_0 hV I _ _ _ (go_ends hX (d + 1) hT hI ha hs ht (fun x hx hw => ⟨keepC.id9, by unfold meanA; rw [wE_p hw]; exact hx⟩) ?_)
  rintro i s t rfl rfl rfl hi hC hs9 ht9 hst hw
  have hA : meanA T (i : Int) (s : Int) (t : Int) = meanG (T.G i) (T.lo i) (T.hi i) s t := by unfold meanA; rw [wE_0 hw, tnN, tnN, tnN]
  rw [hA]
  have hG := hC.2.2.2.1
  have hm := hG.2.2.1
  have hcg : amountF (T.G i) (I (i + 3, 3)) (I (i + 3, 4)) s t = amountF (T.G i) (T.lo i) (T.hi i) s t := amountF_cong (hI.lo hi) (hI.hi hi)
  refine ⟨_, _, cn_needSomeEdge hX (d + 1) hC.1 hC.2.2.1, ?_, ?_⟩
  · rintro x J ⟨rfl, rfl, h0⟩
    exact ⟨keepC.id9, by unfold meanG; rw [if_pos (Or.inr h0)]; exact Or.inr (Or.inr ⟨rfl, rfl⟩)⟩
  rintro _ J ⟨rfl, h0⟩
  refine ⟨_, _, cn_tellGreatest hX d hC (hI.nb hT hi) hs9 ht9 hst, ?_, ?_⟩
  · rintro x J2 ⟨rfl, k1, k2⟩
    rw [hcg] at k2
    exact ⟨k1.C, by unfold meanG; rw [if_pos (Or.inl k2)]; exact Or.inr (Or.inr ⟨rfl, rfl⟩)⟩
  rintro _ J2 ⟨k1, k2, k3, k4⟩
  rw [hcg] at k2 k4
  have hrow : ∀ e, e < (T.G i).m → J2 (0, 11) e = rowV (T.G i) (T.lo i) (T.hi i) s t e := fun e he => by
    rw [k4 e he]; exact (lxF_cong (hI.lo hi) (hI.hi hi) (Nat.le_refl _) e he).1
  have hJm : J2 (i + 3, 0) 7 = ((T.G i).m : Int) := by rw [k1 (i + 3, 0) (by simp)]; exact hC.2.2.1
  refine up_to0 (m := (T.G i).m) (W := fun k => V 33 [(0, xr (0, 0)), (4, xr (i + 3, 0)), (5, xi (meanN (T.G i) (T.lo i) (T.hi i) s t k)), (6, xi (k : Int))] [] (J2, xst c) 4 24) ?_ ?_
  · have hb := sumE_bd (n := (T.G i).m) (f := rowV (T.G i) (T.lo i) (T.hi i) s t) (a := 0) (b := 99) (fun e he => rowV_bd hT hi hs9 ht9 hst k2 he)
    refine rg_X9_meanFlow_33 hV J2 i hC.1 _ _ ⟨⟨by omega, by omega⟩, fun _ => ?_, fun h => by omega⟩
    rw [hJm]
    refine ⟨db_mean (by unfold meanN; omega) ⟨by omega, by omega⟩, k1.C, ?_⟩
    rw [hA]
    unfold meanG
    rw [if_neg (by rintro (z | z); exact k2 z; omega)]
  · intro k hk ih
    rw [meanN_s] at ih
    refine rg_X9_meanFlow_33 hV J2 i hC.1 _ _ ⟨⟨by omega, by omega⟩, fun h => by omega, fun _ => ⟨_, st_numberOf hX (d + 6) k3 (Nat.lt_succ_of_lt hk), ?_⟩⟩
    rintro _ J2 ⟨rfl, rfl⟩
    rw [hrow k hk]
    exact ih
theorem ok_fullShare (hX : xBase X) (d : Nat) (hT : NTok T) (hI : MI I T) (ha : xin a) (hs : xin s) (ht : xin t) : xRet rF X m_X10_fullShare (d + 6) [xr (1, 0), xi a, xi s, xi t] c I 0 0 (fun v I9 => keepM I I9 ∧ (v, I9 (1, 0) 32) = shareA T a s t) xNo := by
  refine xRet_of hX pl_X10_fullShare (LE1 rfl) fun V hV => rg_X10_fullShare_0 hV I _ _ _ (mo_wrong hX (d + 2) hT hI ha hs ht fun J k1 e32 => ?_)
  have hwc := wrong_c T a s t
  have bad : ∀ K, keepM I K → ∀ w : Int, 0 < w → w ≤ 3 → shareA T a s t = (0, w) → V 50 [(0, xr (1, 0)), (1, xi a)] [xi w, xr (1, 0)] (K, xst c) 0 0 := fun K hK w w0 w3 hA => rg_X10_fullShare_50 hV K _ _ ⟨⟨by omega, by omega⟩, by
    rintro K2 rfl
    rw [xu_same]
    exact ⟨fun h => by omega, fun _ => ⟨hK.tr (keepM.thrown _), by rw [hA]⟩⟩⟩
  rw [e32]
  refine ⟨fun h => ?_, fun h => bad J k1 _ h (by omega) (by unfold shareA; rw [wE_p h])⟩
  have hw : wrongT T a s t = 0 := by omega
  obtain ⟨i, s, t, rfl, rfl, rfl, hi, hs9, ht9, hst⟩ := wrong_0 h
  obtain ⟨hG, hB, -⟩ := hT.2 i hi
  have hm := hG.2.2.1
  have hA : shareA T (i : Int) (s : Int) (t : Int) = shareG (T.G i) (T.lo i) (T.hi i) s t := by unfold shareA; rw [wE_0 hw, tnN, tnN, tnN]
  have h4 := hT.1
  obtain ⟨hM, hN, -⟩ := (hI.keep k1).2.2 i hi
  refine ⟨_, ok_finds hX d hG hM hN (fun e he => by have := (hB e he).1; omega) hs9 ht9 hst, ?_⟩
  rintro v J2 ⟨a1, ⟨rfl, b1, b2⟩ | ⟨rfl, b1⟩⟩
  rotate_left
  · exact ⟨fun _ => rg_X10_fullShare_49 hV J2 _ (bad J2 (k1.tr a1.keep) 3 (by decide) (by decide) (by rw [hA]; unfold shareG; rw [if_pos (Or.inl b1)])), fun z => (by cases z)⟩
  · have k2 := k1.tr a1.keep
    obtain ⟨hM2, hN2, -⟩ := (hI.keep k2).2.2 i hi
    refine ⟨fun z => (by cases z), fun _ => ⟨⟨by omega, by omega⟩, ?_⟩⟩
    rw [tnN, hM2.2.2.1]
    refine ⟨fun h0 => rg_X10_fullShare_49 hV J2 _ (bad J2 k2 3 (by decide) (by decide) (by rw [hA]; unfold shareG; rw [if_pos (Or.inr (by omega))])), fun h0 => rg_X10_fullShare_50 hV J2 _ _ ⟨⟨by decide, by decide⟩, ?_⟩⟩
    rintro K e1
    have j32 : K (1, 0) 32 = 0 := by rw [e1, xu_same]
    have k3 : keepM I K := k2.tr (by rw [e1]; exact keepM.thrown _)
    have e17 : K (1, 17) = J2 (1, 17) := by rw [e1, xu_p (by decide)]
    obtain ⟨hM3, hN3, -⟩ := (hI.keep k3).2.2 i hi
    clear e1
    rw [j32]
    refine ⟨fun _ => ?_, fun z => absurd z (by decide)⟩
    have hrow : ∀ e, e < (T.G i).m → K (1, 17) e = rowV (T.G i) (T.lo i) (T.hi i) s t e := fun e he => by rw [e17, (b2 e he).1]; rfl
    refine up_to0 (m := (T.G i).m) (W := fun k => V 68 [(0, xr (1, 0)), (1, xi (i : Int)), (4, xi (fullN (T.G i) (T.lo i) (T.hi i) s t k)), (5, xi (k : Int))] [] (K, xst c) 0 0) ?_ ?_
    · have hb := fullN_bd (T.G i) (T.lo i) (T.hi i) s t (T.G i).m
      refine rg_X10_fullShare_68 hV K _ _ _ ⟨⟨by omega, by omega⟩, ⟨by omega, by omega⟩, fun _ => ?_, fun h => ?_⟩
      · rw [tnN, hM3.2.2.1]
        refine ⟨fl_mean ⟨by omega, by omega⟩ ⟨by omega, by omega⟩, k3, ?_⟩
        rw [hA, j32]
        unfold shareG
        rw [if_neg (by rintro (z | z); exact b1 z; omega)]
      · rw [tnN, hM3.2.2.1] at h; omega
    · intro k hk ih
      rw [fullN_s] at ih
      refine rg_X10_fullShare_68 hV K _ _ _ ⟨⟨by omega, by omega⟩, ⟨by omega, by omega⟩, fun h => ?_, fun _ => ⟨⟨by omega, by omega⟩, ⟨by omega, by omega⟩, ?_⟩⟩
      · rw [tnN, hM3.2.2.1] at h; omega
      · rw [tn16, tnN, hrow k hk, (hN3 k hk).2]
        refine ⟨fun z => ?_, fun z => ?_⟩
        · rw [if_neg z] at ih; exact ih
        · rw [if_pos z] at ih; exact ih
theorem ok_meanFlow (hX : xBase X) (d : Nat) (hT : NTok T) (hI : MI I T) (ha : xin a) (hs : xin s) (ht : xin t) : xRet rD X m_X10_meanFlow (d + 6) [xr (1, 0), xi a, xi s, xi t] c I 0 0 (fun v I9 => keepM I I9 ∧ (v, I9 (1, 0) 32) = meanA T a s t) xNo := by
  refine xRet_of hX pl_X10_meanFlow (LE1 rfl) fun V hV => rg_X10_meanFlow_0 hV I _ _ _ (mo_wrong hX (d + 2) hT hI ha hs ht fun J k1 e32 => ?_)
  have hwc := wrong_c T a s t
  have bad : ∀ K, keepM I K → ∀ w : Int, 0 < w → w ≤ 3 → meanA T a s t = (0, w) → V 50 [(0, xr (1, 0)), (1, xi a)] [xi w, xr (1, 0)] (K, xst c) 0 0 := fun K hK w w0 w3 hA => rg_X10_meanFlow_50 hV K _ _ ⟨⟨by omega, by omega⟩, by
    rintro K2 rfl
    rw [xu_same]
    exact ⟨fun h => by omega, fun _ => ⟨hK.tr (keepM.thrown _), by rw [hA]⟩⟩⟩
  rw [e32]
  refine ⟨fun h => ?_, fun h => bad J k1 _ h (by omega) (by unfold meanA; rw [wE_p h])⟩
  have hw : wrongT T a s t = 0 := by omega
  obtain ⟨i, s, t, rfl, rfl, rfl, hi, hs9, ht9, hst⟩ := wrong_0 h
  obtain ⟨hG, hB, -⟩ := hT.2 i hi
  have hm := hG.2.2.1
  have hA : meanA T (i : Int) (s : Int) (t : Int) = meanG (T.G i) (T.lo i) (T.hi i) s t := by unfold meanA; rw [wE_0 hw, tnN, tnN, tnN]
  have h4 := hT.1
  obtain ⟨hM, hN, -⟩ := (hI.keep k1).2.2 i hi
  refine ⟨_, ok_finds hX d hG hM hN (fun e he => by have := (hB e he).1; omega) hs9 ht9 hst, ?_⟩
  rintro v J2 ⟨a1, ⟨rfl, b1, b2⟩ | ⟨rfl, b1⟩⟩
  rotate_left
  · exact ⟨fun _ => rg_X10_meanFlow_49 hV J2 _ (bad J2 (k1.tr a1.keep) 3 (by decide) (by decide) (by rw [hA]; unfold meanG; rw [if_pos (Or.inl b1)])), fun z => (by cases z)⟩
  · have k2 := k1.tr a1.keep
    obtain ⟨hM2, hN2, -⟩ := (hI.keep k2).2.2 i hi
    refine ⟨fun z => (by cases z), fun _ => ⟨⟨by omega, by omega⟩, ?_⟩⟩
    rw [tnN, hM2.2.2.1]
    refine ⟨fun h0 => rg_X10_meanFlow_49 hV J2 _ (bad J2 k2 3 (by decide) (by decide) (by rw [hA]; unfold meanG; rw [if_pos (Or.inr (by omega))])), fun h0 => rg_X10_meanFlow_50 hV J2 _ _ ⟨⟨by decide, by decide⟩, ?_⟩⟩
    rintro K e1
    have j32 : K (1, 0) 32 = 0 := by rw [e1, xu_same]
    have k3 : keepM I K := k2.tr (by rw [e1]; exact keepM.thrown _)
    have e17 : K (1, 17) = J2 (1, 17) := by rw [e1, xu_p (by decide)]
    obtain ⟨hM3, hN3, -⟩ := (hI.keep k3).2.2 i hi
    clear e1
    rw [j32]
    refine ⟨fun _ => ?_, fun z => absurd z (by decide)⟩
    have hrow : ∀ e, e < (T.G i).m → K (1, 17) e = rowV (T.G i) (T.lo i) (T.hi i) s t e := fun e he => by rw [e17, (b2 e he).1]; rfl
    refine up_to0 (m := (T.G i).m) (W := fun k => V 68 [(0, xr (1, 0)), (1, xi (i : Int)), (4, xi (meanN (T.G i) (T.lo i) (T.hi i) s t k)), (5, xi (k : Int))] [] (K, xst c) 0 0) ?_ ?_
    · have hb := sumE_bd (n := (T.G i).m) (f := rowV (T.G i) (T.lo i) (T.hi i) s t) (a := 0) (b := 99) (fun e he => rowV_bd hT hi hs9 ht9 hst b1 he)
      refine rg_X10_meanFlow_68 hV K _ _ _ ⟨⟨by omega, by omega⟩, ⟨by omega, by omega⟩, fun _ => ?_, fun h => ?_⟩
      · rw [tnN, hM3.2.2.1]
        refine ⟨db_mean (by unfold meanN; omega) ⟨by omega, by omega⟩, k3, ?_⟩
        rw [hA, j32]
        unfold meanG
        rw [if_neg (by rintro (z | z); exact b1 z; omega)]
      · rw [tnN, hM3.2.2.1] at h; omega
    · intro k hk ih
      rw [meanN_s] at ih
      refine rg_X10_meanFlow_68 hV K _ _ _ ⟨⟨by omega, by omega⟩, ⟨by omega, by omega⟩, fun h => ?_, fun _ => ⟨⟨by omega, by omega⟩, ?_⟩⟩
      · rw [tnN, hM3.2.2.1] at h; omega
      · rw [tnN, hrow k hk]
        rintro _ rfl
        exact ih
end SHR
