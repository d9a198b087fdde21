/-! the row of pairs -/
def fN (p : Nat → Bool) : Nat → Nat
  | 0 => 0
  | n + 1 => if fN p n < n then fN p n else if p n then n else n + 1
theorem fN_none {p : Nat → Bool} : ∀ {n : Nat}, (∀ r, r < n → p r = false) → fN p n = n
  | 0, _ => rfl
  | n + 1, h => by
    have ih := fN_none (n := n) fun r hr => h r (by omega)
    rw [fN, ih, if_neg (Nat.lt_irrefl _), if_neg (by rw [h n (by omega)]; decide)]
theorem fN_hit {p : Nat → Bool} {n s : Nat} (hs : s < n) (hp : p s = true) (h : ∀ r, r < s → p r = false) : fN p n = s := by
  induction n with
  | zero => omega
  | succ n ih =>
    rw [fN]
    by_cases hsn : s = n
    · subst hsn
      rw [fN_none h, if_neg (Nat.lt_irrefl _), if_pos hp]
    · rw [ih (by omega), if_pos (by omega)]
theorem fN_le (p : Nat → Bool) (n : Nat) : fN p n ≤ n := by
  induction n with
  | zero => exact Nat.le_refl _
  | succ n ih =>
    rw [fN]
    split
    · omega
    · split <;> omega
theorem fN_spec {p : Nat → Bool} {n : Nat} (h : fN p n < n) : p (fN p n) = true ∧ ∀ r, r < fN p n → p r = false := by
  induction n with
  | zero => omega
  | succ n ih =>
    have hle := fN_le p n
    rw [fN] at h ⊢
    by_cases h1 : fN p n < n
    · rw [if_pos h1]; exact ih h1
    · rw [if_neg h1] at h ⊢
      by_cases h2 : p n = true
      · rw [if_pos h2]
        refine ⟨h2, fun r hr => ?_⟩
        by_cases hr2 : p r = true
        · have hall : ∃ s, s ≤ r ∧ p s = true ∧ ∀ q, q < s → p q = false := by
            clear h h1 hle ih
            induction r using Nat.strongRecOn with
            | ind r ihr =>
              by_cases hq : ∃ q, q < r ∧ p q = true
              · obtain ⟨q, hq1, hq2⟩ := hq
                obtain ⟨s, hs1, hs2⟩ := ihr q hq1 (by omega) hq2
                exact ⟨s, by omega, hs2⟩
              · exact ⟨r, Nat.le_refl _, hr2, fun q hq1 => by
                  cases hpq : p q
                  · rfl
                  · exact absurd ⟨q, hq1, hpq⟩ hq⟩
          obtain ⟨s, hs1, hs2, hs3⟩ := hall
          have := fN_hit (n := n) (by omega) hs2 hs3
          omega
        · cases hpr : p r
          · rfl
          · exact absurd hpr hr2
      · rw [if_neg h2] at h; omega
def rgtP (lk : Nat → Nat) (W : Int) (k F r : Nat) : Bool := (lk k &&& F).testBit r && decide (prs lk (hiM (k + 1)) (nd F (2 ^ r)) = W - 1)
def rgt (lk : Nat → Nat) (W : Int) (k F : Nat) : Nat := fN (rgtP lk W k F) 8
def pSt (lk : Nat → Nat) : Nat → Nat × Int
  | 0 => (255, prs lk 255 255)
  | k + 1 => if rgt lk (pSt lk k).2 k (pSt lk k).1 < 8 then (nd (pSt lk k).1 (2 ^ rgt lk (pSt lk k).2 k (pSt lk k).1), (pSt lk k).2 - 1) else pSt lk k
def rowF (lk : Nat → Nat) (k : Nat) : Nat := rgt lk (pSt lk k).2 k (pSt lk k).1
theorem pSt_s (lk : Nat → Nat) (k : Nat) : pSt lk (k + 1) = if rowF lk k < 8 then (nd (pSt lk k).1 (2 ^ rowF lk k), (pSt lk k).2 - 1) else pSt lk k := rfl
theorem rowF_le (lk : Nat → Nat) (k : Nat) : rowF lk k ≤ 8 := fN_le _ _
theorem pSt_bd (lk : Nat → Nat) (k : Nat) : (pSt lk k).1 ≤ 255 ∧ -8 - (k : Int) ≤ (pSt lk k).2 ∧ (pSt lk k).2 ≤ 8 := by
  induction k with
  | zero => have := prs_bd lk 255 255
            refine ⟨Nat.le_refl _, ?_, ?_⟩
            · show -8 - ((0 : Nat) : Int) ≤ prs lk 255 255; omega
            · show prs lk 255 255 ≤ 8; omega
  | succ k ih =>
    rw [pSt_s]
    split
    · refine ⟨Nat.le_trans (nd_le _ _) ih.1, ?_, ?_⟩
      · show -8 - ((k + 1 : Nat) : Int) ≤ (pSt lk k).2 - 1; omega
      · show (pSt lk k).2 - 1 ≤ 8; omega
    · omega
theorem restM : ∀ k : Fin 8, v_iand 255 (v_ixor (v_ishl 2 ((k.val : Nat) : Int) - 1) (-1)) = ((hiM (k.val + 1) : Nat) : Int) := by decide +kernel
theorem hiM_le (f : Nat) : hiM (f + 1) ≤ 255 := by
  have : 0 < 2 ^ (f + 1) := Nat.two_pow_pos _
  unfold hiM; omega
def pairOfA (lk : Nat → Nat) (a : Int) : Int × Int := if 0 ≤ a ∧ a < 8 then (if rowF lk (Int.toNat a) = 8 then (0, 2) else ((rowF lk (Int.toNat a) : Int), 0)) else (0, 1)
section MPC
variable {X : xX} {c : xCx} {I : xIn} {lk : Nat → Nat}
theorem pa_leastRight (hX : xBase X) (d : Nat) (hk : LKok lk) (hC : CL I lk) (hT : TG I lk) {k F : Nat} {W : Int} (hk8 : k < 8) (hF : F ≤ 255) (hW : -100 ≤ W ∧ W ≤ 100) : xRet rI X m_X4_leastRight (d + 2) [xr (0, 20), xi (k : Int), xi (F : Int), xi W] c I 0 0 (pv (rgt lk W k F : Int) I) xNo := by
  refine xRet_of hX pl_X4_leastRight (LE1 rfl) fun V hV => rg_X4_leastRight_0 hV I _ _ _ ?_
  refine up_to0 (m := 8) (W := fun r => (∀ q, q < r → rgtP lk W k F q = false) → V 3 [(0, xr (0, 20)), (1, xi (k : Int)), (2, xi (F : Int)), (3, xi W), (4, xi (r : Int))] [] (I, xst c) 0 0) ?_ ?_ (fun q hq => absurd hq (by omega))
  · intro hno
    exact rg_X4_leastRight_3 hV I _ _ _ _ ⟨⟨by decide, by decide⟩, fun _ => pvI (by unfold rgt; rw [fN_none hno]; rfl), fun h => absurd h (by decide)⟩
  · intro r hr ih hno
    have next : rgtP lk W k F r = false → ∀ q, q < r + 1 → rgtP lk W k F q = false := fun h q hq => by
      by_cases hqr : q = r
      · rw [hqr]; exact h
      · exact hno q (by omega)
    have hk9 := hk k hk8
    have hle : lk k &&& F ≤ 255 := Nat.le_trans Nat.and_le_right hF
    have hnd := nd_le F (2 ^ r)
    have hpb := prs_bd lk (hiM (k + 1)) (nd F (2 ^ r))
    have hdef : rgtP lk W k F r = ((lk k &&& F).testBit r && decide (prs lk (hiM (k + 1)) (nd F (2 ^ r)) = W - 1)) := rfl
    refine rg_X4_leastRight_3 hV I _ _ _ _ ⟨⟨by omega, by omega⟩, fun h => by omega, fun _ => ⟨⟨by omega, by omega⟩, ?_⟩⟩
    rw [tnN, hC k hk8, v_and_nat (by omega)]
    refine ⟨_, cn_hasBit hX (d + 1) (S := lk k &&& F) (k := r) (by omega) (by omega), ?_⟩
    rintro _ I ⟨rfl, rfl⟩
    refine ⟨fun z => ih (next (by rw [hdef, z]; rfl)), fun z => ?_⟩
    rw [v_pow (show r ≤ 8 by omega), v_andnot (by omega)]
    refine ⟨_, pa_greatest hX d hk hT (f := k + 1) (by omega) (R := nd F (2 ^ r)) (by omega), ?_⟩
    rintro _ I ⟨rfl, rfl⟩
    refine ⟨⟨by omega, by omega⟩, ⟨by omega, by omega⟩, fun h => ih (next ?_), fun h => pvI ?_⟩
    · rw [hdef, z, decide_eq_false h]; rfl
    · unfold rgt
      rw [fN_hit hr (by rw [hdef, z, decide_eq_true h]; rfl) hno]
theorem TG.k9 {J : xIn} {ps : List xP} (h : TG I lk) (hk : kp ps I J) (hp : (0, 22) ∉ ps) : TG J lk := by
  unfold TG
  rw [hk _ hp]; exact h
def ROW (I : xIn) (lk : Nat → Nat) : Prop := ∀ k, k < 8 → I (0, 23) k = (rowF lk k : Int)
theorem pa_tellLeastRow (hX : xBase X) (d : Nat) (hk : LKok lk) (hC : CL I lk) (hT : TG I lk) : xRet rU X m_X4_tellLeastRow (d + 3) [xr (0, 20)] c I 0 0 (fun _ I9 => kp [(0, 23)] I I9 ∧ ROW I9 lk) xNo := by
  refine xRet_of hX pl_X4_tellLeastRow (LE1 rfl) fun V hV => rg_X4_tellLeastRow_0 hV I ⟨_, pa_greatest hX (d + 1) hk hT (f := 0) (by omega) (R := 255) (by omega), ?_⟩
  rintro _ I ⟨rfl, rfl⟩
  rw [show hiM 0 = 255 from rfl]
  refine up_to0 (m := 8) (W := fun k => ∀ J, kp [(0, 23)] I J → (∀ j, j < k → J (0, 23) j = (rowF lk j : Int)) → V 13 [(0, xr (0, 20)), (1, xi ((pSt lk k).1 : Int)), (2, xi (pSt lk k).2), (3, xi (k : Int))] [] (J, xst c) 0 0) ?_ ?_ I kp.rfl (fun j hj => absurd hj (by omega))
  · intro J hJ hr
    exact rg_X4_tellLeastRow_13 hV J _ _ _ ⟨⟨by decide, by decide⟩, fun _ => ⟨hJ, hr⟩, fun h => absurd h (by decide)⟩
  · intro k hk8 ih J hJ hr
    have hb := pSt_bd lk k
    have hrl := rowF_le lk k
    have hdef : rgt lk (pSt lk k).2 k (pSt lk k).1 = rowF lk k := rfl
    have hs := pSt_s lk k
    refine rg_X4_tellLeastRow_13 hV J _ _ _ ⟨⟨by omega, by omega⟩, fun h => by omega, fun _ => ⟨_, pa_leastRight hX d hk (hC.k9 hJ (by decide)) (hT.k9 hJ (by decide)) hk8 hb.1 ⟨by omega, by omega⟩, ?_⟩⟩
    rintro _ J ⟨rfl, rfl⟩
    rw [hdef]
    refine ⟨⟨by omega, by omega⟩, ⟨by omega, by omega⟩, ?_⟩
    rintro J2 e2
    rw [tnN] at e2
    have k2 : kp [(0, 23)] I J2 := by rw [e2]; exact hJ.xu (by simp)
    have i2 := ih J2 k2 fun j hj => by
      rw [e2, xuL]
      by_cases hjk : j = k
      · rw [hjk, upL_s]
      · rw [upL_n hjk]; exact hr j (by omega)
    rw [hs] at i2
    refine ⟨fun h => ?_, fun h => ?_⟩
    · rw [if_neg (by omega)] at i2; exact i2
    · rw [if_pos (by omega)] at i2
      rw [v_pow hrl, v_andnot (by omega)]
      rintro _ rfl
      exact i2
theorem cn_pairOf (hX : xBase X) (d : Nat) (hk : LKok lk) (hC : CL I lk) {a : Int} (ha : xin a) : xRet rI X m_X9_pairOf (d + 8) [xr (0, 0), xi a] c I 2 12 (fun v I9 => keepC I I9 ∧ (v, 0) = pairOfA lk a) (fun x I9 => keepC I I9 ∧ exL [xIOB, xNSE] x (pairOfA lk a).2) := by
  refine xRet_of hX pl_X9_pairOf (LE1 rfl) fun V hV => rg_X9_pairOf_0 hV I _ ⟨_, _, cn_needLeft hX d ha, ?_, ?_⟩
  · rintro x J ⟨rfl, rfl, hn⟩
    unfold pairOfA
    rw [if_neg hn]
    exact ⟨keepC.id9, 0, rfl, rfl⟩
  rintro _ J ⟨rfl, hl⟩
  obtain ⟨k, rfl⟩ := Int.eq_ofNat_of_zero_le hl.1
  refine ⟨_, pa_gather hX (d + 7) hk hC, ?_⟩
  rintro _ J1 ⟨k1, t1⟩
  refine ⟨_, pa_tellLeastRow hX (d + 4) hk (hC.k9 k1 (by decide)) t1, ?_⟩
  rintro _ J2 ⟨k2, r2⟩
  have kc : keepC J J2 := (kp.C k1 (by decide)).tr (kp.C k2 (by decide))
  refine ⟨⟨by omega, by omega⟩, ?_⟩
  rintro x hx
  rw [tnN, r2 k (by omega)] at hx
  unfold pairOfA
  rw [if_pos hl, tnN]
  refine ⟨fun h => ⟨kc, by rw [if_neg (by omega), hx]⟩, fun h => ⟨kc, by rw [if_pos (by omega)]; exact ⟨1, rfl, rfl⟩⟩⟩
end MPC
