/-! pairs: whoever is left out by the row would not bring one more -/
theorem pc8_pow : ∀ k : Fin 8, pc8 (2 ^ k.val) = 1 := by decide +kernel
theorem pc8_or (A : Nat) {k : Nat} (hk : k < 8) : pc8 (A ||| 2 ^ k) ≤ pc8 A + 1 ∧ (A.testBit k = false → pc8 (A ||| 2 ^ k) = pc8 A + 1) := by
  have h1 := bitsN_mod A (2 ^ k) 8
  have h2 := pc8_pow ⟨k, hk⟩
  dsimp only at h2
  unfold pc8 at *
  refine ⟨by omega, fun h => ?_⟩
  have h3 : A &&& 2 ^ k = 0 := by
    refine Nat.eq_of_testBit_eq fun i => ?_
    rw [Nat.testBit_and, Nat.testBit_two_pow, Nat.zero_testBit]
    by_cases hik : k = i
    · rw [← hik, h]; rfl
    · rw [decide_eq_false hik, Bool.and_false]
  rw [h3] at h1
  have h4 : bitsN 0 8 = 0 := pc8_0
  omega
theorem hiM_bit : ∀ k : Fin 9, ∀ i : Fin 8, (hiM k.val).testBit i.val = decide (k.val ≤ i.val) := by decide +kernel
theorem hiM_lt : ∀ k : Fin 9, hiM k.val < 256 := by decide +kernel
section HAL
variable {lk : Nat → Nat}
theorem nd_sub {S L : Nat} : nd S L = 0 ↔ subB S L := by
  rw [nd_0]
  constructor
  · intro h i hi
    rw [← h, Nat.testBit_and] at hi
    cases h9 : L.testBit i
    · rw [h9, Bool.and_false] at hi; cases hi
    · rfl
  · intro h
    refine Nat.eq_of_testBit_eq fun i => ?_
    rw [Nat.testBit_and]
    cases h9 : S.testBit i
    · rfl
    · rw [h i h9]; rfl
theorem fsur_mod (lk : Nat → Nat) (R A B : Nat) : fsur lk R A + fsur lk R B ≤ fsur lk R (A &&& B) + fsur lk R (A ||| B) := by
  unfold fsur
  have h1 := bitsN_mod A B 8
  have h4 : tog lk (A ||| B) = tog lk A ||| tog lk B := likedN_or lk A B 8
  have h5 : (tog lk A ||| tog lk B) &&& R = (tog lk A &&& R) ||| (tog lk B &&& R) := by
    refine Nat.eq_of_testBit_eq fun i => ?_
    rw [Nat.testBit_and, Nat.testBit_or, Nat.testBit_or, Nat.testBit_and, Nat.testBit_and]
    cases (tog lk A).testBit i <;> cases (tog lk B).testBit i <;> cases R.testBit i <;> rfl
  have h2 := bitsN_mod (tog lk A &&& R) (tog lk B &&& R) 8
  have h3 : bitsN (tog lk (A &&& B) &&& R) 8 ≤ bitsN ((tog lk A &&& R) &&& (tog lk B &&& R)) 8 := bitsN_mono (fun i hi => by
    rw [Nat.testBit_and, Bool.and_eq_true] at hi
    have := likedN_and lk A B 8 i hi.1
    rw [Nat.testBit_and, Bool.and_eq_true] at this
    have t1 : (tog lk A).testBit i = true := this.1
    have t2 : (tog lk B).testBit i = true := this.2
    rw [Nat.testBit_and, Nat.testBit_and, Nat.testBit_and, t1, t2, hi.2]
    rfl) 8
  rw [h4, h5]
  show ((bitsN A 8 : Nat) : Int) - ((bitsN (tog lk A &&& R) 8 : Nat) : Int) + (((bitsN B 8 : Nat) : Int) - ((bitsN (tog lk B &&& R) 8 : Nat) : Int)) ≤ ((bitsN (A &&& B) 8 : Nat) : Int) - ((bitsN (tog lk (A &&& B) &&& R) 8 : Nat) : Int) + (((bitsN (A ||| B) 8 : Nat) : Int) - ((bitsN ((tog lk A &&& R) ||| (tog lk B &&& R)) 8 : Nat) : Int))
  omega
theorem sur_le (lk : Nat → Nat) {L R S : Nat} (h : subB S L) : fsur lk R S ≤ sur lk L R := by
  have hS : S ≤ L := by
    have := (nd_0 S L).1 (nd_sub.2 h)
    rw [← this]; exact Nat.and_le_right
  exact (mx_spec 0 (fun S => decide (nd S L = 0)) (fsur lk R) (L + 1)).2.1 S (by omega) (decide_eq_true (nd_sub.2 h))
theorem sur_at (lk : Nat → Nat) (L R : Nat) : ∃ S, S ≤ L ∧ subB S L ∧ fsur lk R S = sur lk L R := by
  have h := mx_spec 0 (fun S => decide (nd S L = 0)) (fsur lk R) (L + 1)
  rcases h.2.2 with e | ⟨S, s1, s2, s3⟩
  · refine ⟨0, Nat.zero_le _, (fun i hi => by rw [Nat.zero_testBit] at hi; cases hi), ?_⟩
    have e9 : sur lk L R = 0 := e
    rw [e9]
    unfold fsur
    rw [tog_0, Nat.zero_and]
    omega
  · exact ⟨S, by omega, nd_sub.1 (of_decide_eq_true s2), s3.symm⟩
theorem tog_bit {S k i : Nat} (hk : k < 8) (hS : S.testBit k = true) (h : (lk k).testBit i = true) : (tog lk S).testBit i = true := by
  have key : ∀ n, k < n → (likedN lk S n).testBit i = true := by
    intro n
    induction n with
    | zero => intro h; omega
    | succ n ih =>
      intro hn
      rw [likedN]
      by_cases hkn : k = n
      · rw [← hkn, if_pos hS, Nat.testBit_or, h, Bool.or_true]
      · split
        · rw [Nat.testBit_or, ih (by omega)]; rfl
        · exact ih (by omega)
  exact key 8 hk
theorem tog_mono {A B : Nat} (h : subB A B) : subB (tog lk A) (tog lk B) := by
  have key : ∀ n, subB (likedN lk A n) (likedN lk B n) := by
    intro n
    induction n with
    | zero => exact fun i hi => hi
    | succ n ih =>
      intro i hi
      rw [likedN] at hi ⊢
      by_cases hA : A.testBit n = true
      · rw [if_pos hA, Nat.testBit_or] at hi
        rw [if_pos (h n hA), Nat.testBit_or]
        cases h1 : (likedN lk A n).testBit i
        · rw [h1, Bool.false_or] at hi; rw [hi, Bool.or_true]
        · rw [ih i h1]; rfl
      · rw [if_neg hA] at hi
        split
        · rw [Nat.testBit_or, ih i hi]; rfl
        · exact ih i hi
  exact key 8
/-- one more on the left that no one on the right helps -/
theorem hall_step {k F : Nat} (hk : k < 8) (hF : F < 256) (h : rgt lk (prs lk (hiM k) F) k F = 8) : prs lk (hiM (k + 1)) F = prs lk (hiM k) F := by
  have h3 : pc8 (hiM k) = 8 - k := hiM_3 ⟨k, by omega⟩
  have h4 : pc8 (hiM (k + 1)) = 8 - (k + 1) := hiM_3 ⟨k + 1, by omega⟩
  have b1 : ∀ i, i < 8 → (hiM k).testBit i = decide (k ≤ i) := fun i hi => hiM_bit ⟨k, by omega⟩ ⟨i, hi⟩
  have b2 : ∀ i, i < 8 → (hiM (k + 1)).testBit i = decide (k + 1 ≤ i) := fun i hi => hiM_bit ⟨k + 1, by omega⟩ ⟨i, hi⟩
  have l1 : hiM k < 256 := hiM_lt ⟨k, by omega⟩
  have l2 : hiM (k + 1) < 256 := hiM_lt ⟨k + 1, by omega⟩
  have hbig : ∀ S i, S < 256 → S.testBit i = true → i < 8 := fun S i hS hi => by
    by_cases hc : i < 8
    · exact hc
    · have := Nat.testBit_lt_two_pow (x := S) (i := i) (Nat.lt_of_lt_of_le hS (Nat.pow_le_pow_right (n := 2) (by decide) (show 8 ≤ i by omega)))
      rw [this] at hi; cases hi
  have hsub : subB (hiM (k + 1)) (hiM k) := fun i hi => by
    have h8 := hbig _ i l2 hi
    rw [b2 i h8] at hi
    rw [b1 i h8]
    have := of_decide_eq_true hi
    exact decide_eq_true (by omega)
  have hnk : (hiM (k + 1)).testBit k = false := by rw [b2 k hk]; exact decide_eq_false (by omega)
  have hp1 : prs lk (hiM k) F = 8 - (k : Int) - sur lk (hiM k) F := by unfold prs; rw [h3]; omega
  have hp2 : prs lk (hiM (k + 1)) F = 8 - (k : Int) - 1 - sur lk (hiM (k + 1)) F := by unfold prs; rw [h4]; omega
  -- one more at most
  have hup : sur lk (hiM k) F ≤ sur lk (hiM (k + 1)) F + 1 := by
    obtain ⟨S, s1, s2, s3⟩ := sur_at lk (hiM k) F
    have hS' : subB (nd S (2 ^ k)) (hiM (k + 1)) := fun i hi => by
      rw [nd_bit, Bool.and_eq_true, Bool.not_eq_true', Nat.testBit_two_pow] at hi
      have h8 := hbig _ i (by omega) hi.1
      have h9 := s2 i hi.1
      rw [b1 i h8] at h9
      have h9 := of_decide_eq_true h9
      have h7 := of_decide_eq_false hi.2
      rw [b2 i h8]
      exact decide_eq_true (by omega)
    have h5 := sur_le lk (R := F) hS'
    have hSs : subB (nd S (2 ^ k)) S := fun i hi => by
      rw [nd_bit, Bool.and_eq_true] at hi
      exact hi.1
    have h6 : bitsN (tog lk (nd S (2 ^ k)) &&& F) 8 ≤ bitsN (tog lk S &&& F) 8 := bitsN_mono (fun i hi => by
      rw [Nat.testBit_and, Bool.and_eq_true] at hi
      rw [Nat.testBit_and, tog_mono hSs i hi.1, hi.2]; rfl) 8
    have h7 : bitsN S 8 ≤ bitsN (nd S (2 ^ k) ||| 2 ^ k) 8 := bitsN_mono (fun i hi => by
      rw [Nat.testBit_or, nd_bit, hi, Nat.testBit_two_pow]
      cases decide (k = i) <;> rfl) 8
    have h8 := (pc8_or (nd S (2 ^ k)) hk).1
    unfold fsur at s3 h5
    unfold pc8 at *
    omega
  by_cases hc : sur lk (hiM (k + 1)) F + 1 ≤ sur lk (hiM k) F
  · omega
  exfalso
  have hlow : sur lk (hiM (k + 1)) F ≤ sur lk (hiM k) F := by
    obtain ⟨S, s1, s2, s3⟩ := sur_at lk (hiM (k + 1)) F
    rw [← s3]
    exact sur_le lk fun i hi => hsub i (s2 i hi)
  have hσ : sur lk (hiM k) F = sur lk (hiM (k + 1)) F := by omega
  -- no right one keeps the number
  have hno : ∀ r, r < 8 → (lk k &&& F).testBit r = true → prs lk (hiM (k + 1)) (nd F (2 ^ r)) ≠ prs lk (hiM k) F - 1 := fun r hr hb he => by
    have hp : rgtP lk (prs lk (hiM k) F) k F r = true := by
      unfold rgtP
      rw [hb, decide_eq_true he]; rfl
    have hlt : rgt lk (prs lk (hiM k) F) k F < 8 := by
      unfold rgt
      by_cases hq : ∃ j, j < r ∧ rgtP lk (prs lk (hiM k) F) k F j = true
      · by_cases hz : fN (rgtP lk (prs lk (hiM k) F) k F) 8 < 8
        · exact hz
        · exfalso
          have hle := fN_le (rgtP lk (prs lk (hiM k) F) k F) 8
          have hmin : ∀ n, n ≤ 8 → fN (rgtP lk (prs lk (hiM k) F) k F) n = n → ∀ j, j < n → rgtP lk (prs lk (hiM k) F) k F j = false := by
            intro n
            induction n with
            | zero => intro _ _ j hj; omega
            | succ n ih =>
              intro hn he9 j hj
              rw [fN] at he9
              by_cases q1 : fN (rgtP lk (prs lk (hiM k) F) k F) n < n
              · rw [if_pos q1] at he9; omega
              · rw [if_neg q1] at he9
                have q2 : rgtP lk (prs lk (hiM k) F) k F n = false := by
                  cases q3 : rgtP lk (prs lk (hiM k) F) k F n
                  · rfl
                  · rw [q3, if_pos rfl] at he9; omega
                have q4 : fN (rgtP lk (prs lk (hiM k) F) k F) n = n := by have := fN_le (rgtP lk (prs lk (hiM k) F) k F) n; omega
                by_cases hjn : j = n
                · rw [hjn]; exact q2
                · exact ih (by omega) q4 j (by omega)
          have := hmin 8 (Nat.le_refl 8) (by omega) r hr
          rw [hp] at this; cases this
      · have := fN_hit (p := rgtP lk (prs lk (hiM k) F) k F) hr hp (fun j hj => by
          cases h9 : rgtP lk (prs lk (hiM k) F) k F j
          · rfl
          · exact absurd ⟨j, hj, h9⟩ hq)
        omega
    omega
  -- tight sets, all together
  have hq : ∀ S, (decide (nd S (hiM (k + 1)) = 0) && decide (fsur lk F S = sur lk (hiM (k + 1)) F)) = true ↔ subB S (hiM (k + 1)) ∧ fsur lk F S = sur lk (hiM (k + 1)) F := fun S => by
    rw [Bool.and_eq_true, decide_eq_true_iff, decide_eq_true_iff, nd_sub]
  obtain ⟨S0, t1, t2, t3⟩ := sur_at lk (hiM (k + 1)) F
  have hU := orF_mem (q := fun S => decide (nd S (hiM (k + 1)) = 0) && decide (fsur lk F S = sur lk (hiM (k + 1)) F)) (k := 8) (fun A B _ _ hA hB => by
    have hA := (hq A).1 hA
    have hB := (hq B).1 hB
    refine (hq _).2 ?_
    have c1 : subB (A ||| B) (hiM (k + 1)) := fun i hi => by
      rw [Nat.testBit_or] at hi
      cases h9 : A.testBit i
      · rw [h9, Bool.false_or] at hi; exact hB.1 i hi
      · exact hA.1 i h9
    have c2 : subB (A &&& B) (hiM (k + 1)) := fun i hi => by
      rw [Nat.testBit_and, Bool.and_eq_true] at hi
      exact hA.1 i hi.1
    have m := fsur_mod lk F A B
    have z1 := sur_le lk (R := F) c1
    have z2 := sur_le lk (R := F) c2
    exact ⟨c1, by omega⟩) (n := 2 ^ 8) (Nat.le_refl _) ⟨S0, by show S0 < 256; omega, (hq S0).2 ⟨t2, t3⟩⟩
  obtain ⟨u1, -, u3⟩ := hU
  have u1 := (hq _).1 u1
  generalize orF (fun S => decide (nd S (hiM (k + 1)) = 0) && decide (fsur lk F S = sur lk (hiM (k + 1)) F)) (2 ^ 8) = U at u1 u3
  have hfill : ∀ r, (lk k).testBit r = true → F.testBit r = true → (tog lk U).testBit r = true := fun r hr hFr => by
    have h8 := hbig F r hF hFr
    have hne := hno r h8 (by rw [Nat.testBit_and, hr, hFr]; rfl)
    have hp3 : prs lk (hiM (k + 1)) (nd F (2 ^ r)) = 8 - (k : Int) - 1 - sur lk (hiM (k + 1)) (nd F (2 ^ r)) := by unfold prs; rw [h4]; omega
    have hmono : ∀ S, bitsN (tog lk S &&& nd F (2 ^ r)) 8 ≤ bitsN (tog lk S &&& F) 8 := fun S => bitsN_mono (fun i hi => by
      rw [Nat.testBit_and, nd_bit, Bool.and_eq_true, Bool.and_eq_true] at hi
      rw [Nat.testBit_and, hi.1, hi.2.1]; rfl) 8
    have hge : sur lk (hiM (k + 1)) F ≤ sur lk (hiM (k + 1)) (nd F (2 ^ r)) := by
      have z := sur_le lk (R := nd F (2 ^ r)) t2
      have m := hmono S0
      unfold fsur pc8 at t3 z
      omega
    obtain ⟨S, s1, s2, s3⟩ := sur_at lk (hiM (k + 1)) (nd F (2 ^ r))
    have m := hmono S
    have z := sur_le lk (R := F) s2
    have hor : bitsN (tog lk S &&& F) 8 ≤ bitsN ((tog lk S &&& nd F (2 ^ r)) ||| 2 ^ r) 8 := bitsN_mono (fun i hi => by
      rw [Nat.testBit_and, Bool.and_eq_true] at hi
      rw [Nat.testBit_or, Nat.testBit_and, nd_bit, hi.1, hi.2, Nat.testBit_two_pow]
      cases decide (r = i) <;> rfl) 8
    have hor2 := (pc8_or (tog lk S &&& nd F (2 ^ r)) h8).1
    have hSr : (tog lk S).testBit r = true := by
      cases h9 : (tog lk S).testBit r
      · exfalso
        have e : tog lk S &&& nd F (2 ^ r) = tog lk S &&& F := by
          refine Nat.eq_of_testBit_eq fun i => ?_
          rw [Nat.testBit_and, Nat.testBit_and, nd_bit, Nat.testBit_two_pow]
          by_cases hri : r = i
          · rw [← hri, h9]; rfl
          · rw [decide_eq_false hri]
            cases F.testBit i <;> rfl
        unfold fsur at s3 z
        rw [e] at s3
        omega
      · rfl
    have hfS : fsur lk F S = sur lk (hiM (k + 1)) F := by
      unfold fsur pc8 at *
      omega
    exact tog_mono (u3 S (by show S < 256; omega) ((hq S).2 ⟨s2, hfS⟩)) r hSr
  -- with the one more there are too many
  have hUk : U.testBit k = false := by
    cases h9 : U.testBit k
    · rfl
    · have := u1.1 k h9
      rw [hnk] at this; cases this
  have hS9 : subB (U ||| 2 ^ k) (hiM k) := fun i hi => by
    rw [Nat.testBit_or, Nat.testBit_two_pow] at hi
    cases h9 : U.testBit i
    · rw [h9, Bool.false_or] at hi
      have hik := of_decide_eq_true hi
      rw [b1 i (by omega)]
      exact decide_eq_true (by omega)
    · exact hsub i (u1.1 i h9)
  have hpc := (pc8_or U hk).2 hUk
  have htp : tog lk (2 ^ k) = lk k := by
    have := tog_add lk (j := 0) (k := k) (Nat.two_pow_pos k) hk
    rw [Nat.zero_add, tog_0, Nat.zero_or] at this
    exact this
  have hto : tog lk (U ||| 2 ^ k) = tog lk U ||| lk k := by rw [← htp]; exact likedN_or lk U (2 ^ k) 8
  have hle : bitsN (tog lk (U ||| 2 ^ k) &&& F) 8 ≤ bitsN (tog lk U &&& F) 8 := bitsN_mono (fun i hi => by
    rw [hto, Nat.testBit_and, Bool.and_eq_true, Nat.testBit_or] at hi
    rw [Nat.testBit_and, hi.2]
    cases h9 : (tog lk U).testBit i
    · rw [h9, Bool.false_or] at hi
      rw [hfill i hi.1 hi.2] at h9; cases h9
    · rfl) 8
  have z := sur_le lk (R := F) hS9
  have hfU := u1.2
  unfold fsur pc8 at *
  omega
/-- what is still to be paired is what can be -/
theorem pSt_inv (h : LKok lk) (k : Nat) (hk : k ≤ 8) : (pSt lk k).2 = prs lk (hiM k) (pSt lk k).1 := by
  induction k with
  | zero => rfl
  | succ k ih =>
    have ih := ih (by omega)
    have hb := pSt_bd lk k
    rw [pSt_s]
    by_cases hc : rowF lk k < 8
    · rw [if_pos hc]
      have hr : rowF lk k = rgt lk (pSt lk k).2 k (pSt lk k).1 := rfl
      rw [hr] at hc ⊢
      have := (fN_spec (p := rgtP lk (pSt lk k).2 k (pSt lk k).1) hc).1
      unfold rgtP at this
      rw [Bool.and_eq_true, decide_eq_true_iff] at this
      exact this.2.symm
    · rw [if_neg hc]
      have hr : rgt lk (prs lk (hiM k) (pSt lk k).1) k (pSt lk k).1 = 8 := by
        have := rowF_le lk k
        have h9 : rowF lk k = rgt lk (pSt lk k).2 k (pSt lk k).1 := rfl
        rw [ih] at h9
        omega
      rw [hall_step (by omega) (by omega) hr]
      exact ih
def manyN (lk : Nat → Nat) : Nat → Int
  | 0 => 0
  | k + 1 => manyN lk k + if rowF lk k < 8 then 1 else 0
theorem many_st (lk : Nat → Nat) (k : Nat) : manyN lk k = prs lk 255 255 - (pSt lk k).2 := by
  induction k with
  | zero => show (0 : Int) = prs lk 255 255 - prs lk 255 255; omega
  | succ k ih =>
    rw [manyN, pSt_s, ih]
    by_cases hc : rowF lk k < 8
    · rw [if_pos hc, if_pos hc]
      show _ = prs lk 255 255 - ((pSt lk k).2 - 1)
      omega
    · rw [if_neg hc, if_neg hc]; omega
theorem many_all (h : LKok lk) : manyN lk 8 = prs lk 255 255 := by
  rw [many_st, pSt_inv h 8 (Nat.le_refl 8)]
  have h0 : hiM 8 = 0 := by decide
  have h1 := rowF_le lk 0
  rw [h0]
  obtain ⟨S, s1, s2, s3⟩ := sur_at lk 0 (pSt lk 8).1
  have hS : S = 0 := by omega
  unfold prs
  rw [← s3, hS]
  unfold fsur
  rw [tog_0, Nat.zero_and]
  have := pc8_0
  omega
/-- who is paired likes the one, and no one before has got it -/
theorem row_free {k : Nat} (hc : rowF lk k < 8) : (lk k &&& (pSt lk k).1).testBit (rowF lk k) = true := by
  have := (fN_spec (p := rgtP lk (pSt lk k).2 k (pSt lk k).1) hc).1
  unfold rgtP at this
  rw [Bool.and_eq_true] at this
  exact this.1
end HAL
