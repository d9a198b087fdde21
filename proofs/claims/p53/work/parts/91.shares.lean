/-! quotients of small numbers are numbers -/
theorem fl_share : ∀ a : Fin 17, ∀ b : Fin 17, b.val ≠ 0 → (FP.fdiv (FP.i2f (Int32.ofInt ((a.val : Nat) : Int))) (FP.i2f (Int32.ofInt ((b.val : Nat) : Int)))) &&& 0x7fffffff ≤ 0x7f800000 := by decide +kernel
theorem db_bound {c : Nat} {q : Int} (hc : c < 2 ^ 53) (hq : FP.Core.b64.qmin ≤ q) : FP.Core.encode FP.Core.b64 (FP.Core.bound FP.Core.b64 false c q) ≤ 9218868437227405312 := by
  have e1 : FP.Core.b64.qmin = -1074 := by decide
  have e2 : FP.Core.b64.qmax = 971 := by decide
  have e3 : FP.Core.b64.tails = 4503599627370496 := by decide
  have e4 : FP.Core.b64.exps = 2048 := by decide
  rw [e1] at hq
  unfold FP.Core.bound
  rw [e2]
  split
  · unfold FP.Core.encode FP.Core.assemble
    dsimp only
    rw [e3, e4, e1]
    have : Bool.toNat false = 0 := rfl
    rw [this]
    split <;> omega
  · unfold FP.Core.encode FP.Core.assemble
    dsimp only
    rw [e3, e4]
    decide
theorem db_ratio (c d : Nat) (e : Int) : FP.Core.encode FP.Core.b64 (FP.Core.roundRatio FP.Core.b64 false c d e) ≤ 9218868437227405312 := by
  unfold FP.Core.roundRatio
  split
  · decide
  · unfold FP.Core.roundAt FP.Core.settle
    have hq : FP.Core.b64.qmin ≤ FP.Core.quantum FP.Core.b64 c d e := by unfold FP.Core.quantum; omega
    have ep : FP.Core.b64.p = 53 := rfl
    rw [ep]
    split
    · rename_i h
      exact db_bound h hq
    · exact db_bound (by decide) (by omega)
def db_ok (x : UInt64) : Bool := match FP.Core.decode FP.Core.b64 x.toNat with
  | .fin s c _ => !s && decide (c ≠ 0)
  | _ => false
theorem db_div {a b : UInt64} (ha : db_ok a = true ∨ FP.Core.decode FP.Core.b64 a.toNat = .fin false 0 (-1074)) (hb : db_ok b = true) : (FP.ddiv a b) &&& 0x7fffffffffffffff ≤ 0x7ff0000000000000 := by
  have key : FP.Core.div FP.Core.b64 a.toNat b.toNat ≤ 9218868437227405312 := by
    unfold FP.Core.div
    unfold db_ok at ha hb
    generalize FP.Core.decode FP.Core.b64 a.toNat = da at ha
    generalize FP.Core.decode FP.Core.b64 b.toNat = db at hb
    cases db with
    | nan => cases hb
    | inf s => cases hb
    | fin t d r =>
      have hb1 : t = false ∧ d ≠ 0 := by simpa using hb
      obtain ⟨rfl, hd⟩ := hb1
      cases da with
      | nan => rcases ha with ha | ha <;> cases ha
      | inf s => rcases ha with ha | ha <;> cases ha
      | fin s c q =>
        have hs : s = false := by
          rcases ha with ha | ha
          · have : s = false ∧ c ≠ 0 := by simpa using ha
            exact this.1
          · cases ha; rfl
        subst hs
        unfold FP.Core.quotient
        dsimp only
        rw [if_neg hd]
        exact db_ratio _ _ _
  unfold FP.ddiv FP.Core.ddiv
  generalize FP.Core.div FP.Core.b64 a.toNat b.toNat = n at key
  rw [UInt64.le_iff_toNat_le, UInt64.toNat_and, UInt64.toNat_ofNat']
  refine Nat.le_trans Nat.and_le_left (Nat.le_trans (Nat.mod_le _ _) ?_)
  exact key
theorem db_int : ∀ a : Fin 1601, db_ok (FP.i2d (Int32.ofInt ((a.val + 1 : Nat) : Int))) = true := by decide +kernel
theorem db_0 : FP.Core.decode FP.Core.b64 (FP.i2d (Int32.ofInt 0)).toNat = .fin false 0 (-1074) := by decide +kernel
theorem db_mean {a b : Int} (ha : 0 ≤ a ∧ a ≤ 1600) (hb : 1 ≤ b ∧ b ≤ 1600) : vf_n64 (FP.ddiv (FP.i2d (Int32.ofInt a)) (FP.i2d (Int32.ofInt b))) := by
  have hb2 : db_ok (FP.i2d (Int32.ofInt b)) = true := by
    have := db_int ⟨Int.toNat b - 1, by omega⟩
    rw [show (((Int.toNat b - 1 + 1 : Nat)) : Int) = b by omega] at this
    exact this
  by_cases h0 : a = 0
  · rw [h0]; exact db_div (Or.inr db_0) hb2
  · have := db_int ⟨Int.toNat a - 1, by omega⟩
    rw [show (((Int.toNat a - 1 + 1 : Nat)) : Int) = a by omega] at this
    exact db_div (Or.inl this) hb2
theorem fl_mean {a b : Int} (ha : 0 ≤ a ∧ a ≤ 16) (hb : 1 ≤ b ∧ b ≤ 16) : vf_n32 (FP.fdiv (FP.i2f (Int32.ofInt a)) (FP.i2f (Int32.ofInt b))) := by
  have := fl_share ⟨Int.toNat a, by omega⟩ ⟨Int.toNat b, by omega⟩ (by show Int.toNat b ≠ 0; omega)
  rw [show ((Int.toNat a : Nat) : Int) = a by omega, show ((Int.toNat b : Nat) : Int) = b by omega] at this
  exact this
/-! the row of the told flow, how many are full, their sum -/
def rowV (G : Gr) (lo hi : Nat → Int) (s t e : Nat) : Int := (lxF G lo hi s t (amountF G lo hi s t) G.m).1 e
def fullN (G : Gr) (lo hi : Nat → Int) (s t k : Nat) : Int := sumE k (fun e => if rowV G lo hi s t e = hi e then 1 else 0)
def meanN (G : Gr) (lo hi : Nat → Int) (s t k : Nat) : Int := sumE k (rowV G lo hi s t)
theorem fullN_s (G : Gr) (lo hi : Nat → Int) (s t k : Nat) : fullN G lo hi s t (k + 1) = fullN G lo hi s t k + (if rowV G lo hi s t k = hi k then 1 else 0) := rfl
theorem meanN_s (G : Gr) (lo hi : Nat → Int) (s t k : Nat) : meanN G lo hi s t (k + 1) = meanN G lo hi s t k + rowV G lo hi s t k := rfl
def shareG (G : Gr) (lo hi : Nat → Int) (s t : Nat) : UInt32 × Int := if amountF G lo hi s t = NONE9 ∨ G.m = 0 then (0, 3) else (FP.fdiv (FP.i2f (Int32.ofInt (fullN G lo hi s t G.m))) (FP.i2f (Int32.ofInt (G.m : Int))), 0)
def meanG (G : Gr) (lo hi : Nat → Int) (s t : Nat) : UInt64 × Int := if amountF G lo hi s t = NONE9 ∨ G.m = 0 then (0, 3) else (FP.ddiv (FP.i2d (Int32.ofInt (meanN G lo hi s t G.m))) (FP.i2d (Int32.ofInt (G.m : Int))), 0)
def shareA (T : NT) (a s t : Int) : UInt32 × Int := wE 0 (wrongT T a s t) (shareG (T.G (Int.toNat a)) (T.lo (Int.toNat a)) (T.hi (Int.toNat a)) (Int.toNat s) (Int.toNat t))
def meanA (T : NT) (a s t : Int) : UInt64 × Int := wE 0 (wrongT T a s t) (meanG (T.G (Int.toNat a)) (T.lo (Int.toNat a)) (T.hi (Int.toNat a)) (Int.toNat s) (Int.toNat t))
theorem fullN_bd (G : Gr) (lo hi : Nat → Int) (s t k : Nat) : 0 ≤ fullN G lo hi s t k ∧ fullN G lo hi s t k ≤ k := by
  have := sumE_bd (n := k) (f := fun e => if rowV G lo hi s t e = hi e then 1 else 0) (a := 0) (b := 1) (fun e he => by split <;> omega)
  unfold fullN
  omega
theorem rowV_bd {T : NT} (hT : NTok T) {i s t : Nat} (hi : i < T.N) (hs : s < (T.G i).n) (ht : t < (T.G i).n) (hst : s ≠ t) (hn : amountF (T.G i) (T.lo i) (T.hi i) s t ≠ NONE9) {e : Nat} (he : e < (T.G i).m) : 0 ≤ rowV (T.G i) (T.lo i) (T.hi i) s t e ∧ rowV (T.G i) (T.lo i) (T.hi i) s t e ≤ 99 := by
  obtain ⟨hG, hB, -⟩ := hT.2 i hi
  rcases amount_in hT hi hs ht hst with z | ⟨-, -, f, hf⟩
  · exact absurd z hn
  · have h1 := (lxF_ok hG.in hs ht hst hf (Nat.le_refl _)).1 e he
    rw [← lxF_same he] at h1
    have h2 := (hB e he).1
    unfold rowV
    omega
section SHR
variable {X : xX} {c : xCx} {I : xIn} {T : NT} {a s t : Int}
end SHR
