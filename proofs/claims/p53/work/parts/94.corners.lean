/-! ways apart by corners: the net with each corner as two nodes -/
theorem bits_sum (S k : Nat) : ((bitsN S k : Nat) : Int) = sumE k (fun x => if S.testBit x then 1 else 0) := by
  induction k with
  | zero => rfl
  | succ k ih =>
    rw [bitsN, sumE, ← ih]
    cases S.testBit k <;> simp
theorem bits_strict {A B : Nat} (h : subB A B) {i : Nat} (hi1 : A.testBit i = false) (hi2 : B.testBit i = true) : ∀ k, bitsN A k + (if i < k then 1 else 0) ≤ bitsN B k := by
  intro k
  induction k with
  | zero => simp [bitsN]
  | succ k ih =>
    rw [bitsN, bitsN]
    by_cases hik : i = k
    · subst hik
      rw [if_neg (Nat.lt_irrefl _)] at ih
      rw [hi1, hi2, if_pos (Nat.lt_succ_self _)]
      simp
      omega
    · have hk : A.testBit k = true → B.testBit k = true := h k
      have e1 : (if i < k + 1 then 1 else 0) = (if i < k then 1 else 0) := by
        by_cases h1 : i < k
        · rw [if_pos h1, if_pos (by omega)]
        · rw [if_neg h1, if_neg (by omega)]
      rw [e1]
      cases hA : A.testBit k
      · cases B.testBit k <;> simp <;> omega
      · rw [hk hA]; simp; omega
theorem passP_sub (G : Gr) (us : Nat → Bool) (Z R k : Nat) : subB R (passP G us Z R k) := by
  induction k with
  | zero => exact fun i h => h
  | succ k ih =>
    intro i h
    rw [passP_s]
    split
    · rw [Nat.testBit_or, ih i h]; rfl
    · exact ih i h
theorem passP_mono (G : Gr) (us : Nat → Bool) (Z R k j : Nat) : subB (passP G us Z R k) (passP G us Z R (k + j)) := by
  induction j with
  | zero => exact fun i h => h
  | succ j ih =>
    intro i h
    rw [← Nat.add_assoc, passP_s]
    split
    · rw [Nat.testBit_or, ih i h]; rfl
    · exact ih i h
theorem rch_stop {G : Gr} (hG : GrOK G) (us : Nat → Bool) (Z : Nat) {s : Nat} (hs : s < G.n) : rchN G us Z (2 ^ s) (G.n + 1) = rchN G us Z (2 ^ s) G.n := by
  have hn := hG.2.1
  have hR0 : 2 ^ s < 256 := Nat.pow_lt_pow_right (n := 8) (by decide) (by omega)
  have key : ∀ j, (∃ i, i < j ∧ rchN G us Z (2 ^ s) (i + 1) = rchN G us Z (2 ^ s) i) ∨ j + 1 ≤ bitsN (rchN G us Z (2 ^ s) j) 8 := by
    intro j
    induction j with
    | zero =>
      right
      have := bits_strict (A := 0) (B := 2 ^ s) (fun i h => by rw [Nat.zero_testBit] at h; cases h) (i := s) (Nat.zero_testBit _) (by rw [Nat.testBit_two_pow]; exact decide_eq_true rfl) 8
      rw [if_pos (by omega)] at this
      show 0 + 1 ≤ bitsN (2 ^ s) 8
      omega
    | succ j ih =>
      rcases ih with ⟨i, h1, h2⟩ | ih
      · exact Or.inl ⟨i, by omega, h2⟩
      · by_cases he : rchN G us Z (2 ^ s) (j + 1) = rchN G us Z (2 ^ s) j
        · exact Or.inl ⟨j, by omega, he⟩
        · right
          have hsub : subB (rchN G us Z (2 ^ s) j) (rchN G us Z (2 ^ s) (j + 1)) := passP_sub _ _ _ _ _
          have hex : ∃ i, i < 8 ∧ (rchN G us Z (2 ^ s) j).testBit i = false ∧ (rchN G us Z (2 ^ s) (j + 1)).testBit i = true := by
            refine Classical.byContradiction fun hno => he ?_
            refine Nat.eq_of_testBit_eq fun i => ?_
            cases hA : (rchN G us Z (2 ^ s) j).testBit i
            · cases hB : (rchN G us Z (2 ^ s) (j + 1)).testBit i
              · rfl
              · exfalso
                refine hno ⟨i, ?_, hA, hB⟩
                refine Classical.byContradiction fun hi8 => ?_
                have hlt := rchN_lt hG us Z hR0 (j + 1)
                rw [Nat.testBit_lt_two_pow (Nat.lt_of_lt_of_le hlt (show 2 ^ 8 ≤ 2 ^ i from Nat.pow_le_pow_right (by decide) (by omega)))] at hB
                cases hB
            · exact hsub i hA
          obtain ⟨i, hi8, hA, hB⟩ := hex
          have := bits_strict hsub hA hB 8
          rw [if_pos hi8] at this
          omega
  rcases key G.n with ⟨i, h1, h2⟩ | h
  · have e1 := rchN_fix h2 (G.n - i)
    have e2 := rchN_fix h2 (G.n + 1 - i)
    rw [show i + (G.n - i) = G.n by omega] at e1
    rw [show i + (G.n + 1 - i) = G.n + 1 by omega] at e2
    rw [e1, e2]
  · have hb : ∀ k, bitsN (rchN G us Z (2 ^ s) G.n) (G.n + k) ≤ G.n := by
      have hsm : ∀ j x, (rchN G us Z (2 ^ s) j).testBit x = true → x < G.n := by
        intro j
        induction j with
        | zero =>
          intro x hx
          rw [show rchN G us Z (2 ^ s) 0 = 2 ^ s from rfl, Nat.testBit_two_pow] at hx
          have := of_decide_eq_true hx; omega
        | succ j ih =>
          have hp : ∀ k, k ≤ G.m → ∀ x, (passP G us Z (rchN G us Z (2 ^ s) j) k).testBit x = true → x < G.n := by
            intro k
            induction k with
            | zero => exact fun _ x hx => ih x hx
            | succ k ihk =>
              intro hk x hx
              rw [passP_s] at hx
              split at hx
              · rw [Nat.testBit_or, Bool.or_eq_true] at hx
                rcases hx with hx | hx
                · exact ihk (by omega) x hx
                · rw [Nat.testBit_two_pow] at hx
                  have := of_decide_eq_true hx
                  have := (hG.2.2.2 k (by omega)).2.1; omega
              · exact ihk (by omega) x hx
          exact hp G.m (Nat.le_refl _)
      intro k
      induction k with
      | zero => exact bitsN_le _ _
      | succ k ih =>
        rw [← Nat.add_assoc, bitsN]
        have : (rchN G us Z (2 ^ s) G.n).testBit (G.n + k) = false := by
          cases hc : (rchN G us Z (2 ^ s) G.n).testBit (G.n + k)
          · rfl
          · have := hsm _ _ hc; omega
        rw [this]; simp; exact ih
    have := hb (8 - G.n)
    rw [show G.n + (8 - G.n) = 8 by omega] at this
    omega
theorem rch_closed {G : Gr} (hG : GrOK G) (us : Nat → Bool) (Z : Nat) {s : Nat} (hs : s < G.n) {e : Nat} (he : e < G.m) (hu : us e = true) (hR : (rchN G us Z (2 ^ s) G.n).testBit (G.u e) = true) (hZ : Z.testBit (G.v e) = false) : (rchN G us Z (2 ^ s) G.n).testBit (G.v e) = true := by
  have hst := rch_stop hG us Z hs
  have h1 : passP G us Z (rchN G us Z (2 ^ s) G.n) G.m = rchN G us Z (2 ^ s) G.n := hst
  generalize rchN G us Z (2 ^ s) G.n = R at hR h1
  have h2 := passP_sub G us Z R e (G.u e) hR
  have h3 := passP_mono G us Z R (e + 1) (G.m - (e + 1))
  rw [show e + 1 + (G.m - (e + 1)) = G.m by omega, h1] at h3
  refine h3 _ ?_
  rw [passP_s, hu, h2, hZ, if_pos (show (true && true && !false) = true from rfl), Nat.testBit_or, Nat.testBit_two_pow, decide_eq_true rfl, Bool.or_true]
/-! the split net -/
def spG (G : Gr) (s t : Nat) : Nat → Gr
  | 0 => (16, G.m, fun e => G.u e + 8, G.v)
  | x + 1 => if x = s ∨ x = t then spG G s t x else bk (spG G s t x) (x + 8) x
def spH (G : Gr) (hi : Nat → Int) (e : Nat) : Int := if e < G.m then onH hi e else 1
theorem spG_n (G : Gr) (s t x : Nat) : (spG G s t x).n = 16 ∧ G.m ≤ (spG G s t x).m ∧ (spG G s t x).m ≤ G.m + x := by
  induction x with
  | zero => exact ⟨rfl, Nat.le_refl _, Nat.le_refl _⟩
  | succ x ih =>
    rw [spG]
    split
    · exact ⟨ih.1, ih.2.1, by omega⟩
    · refine ⟨ih.1, ?_, ?_⟩
      · show G.m ≤ (spG G s t x).m + 1; omega
      · show (spG G s t x).m + 1 ≤ G.m + (x + 1); omega
def insN (s t S x : Nat) : Int := sumE x (fun y => if y = s ∨ y = t then 0 else if btw y (y + 8) S then 1 else 0)
theorem sp_out (G : Gr) (hi : Nat → Int) (s t S x : Nat) : sOut (spG G s t x) (spH G hi) S = sOut (spG G s t 0) (spH G hi) S + insN s t S x := by
  induction x with
  | zero => show _ = _ + (0 : Int); omega
  | succ x ih =>
    have hd : insN s t S (x + 1) = insN s t S x + (if x = s ∨ x = t then 0 else if btw x (x + 8) S then 1 else 0) := rfl
    have hsp : spG G s t (x + 1) = if x = s ∨ x = t then spG G s t x else bk (spG G s t x) (x + 8) x := rfl
    rw [hd, hsp]
    by_cases hx : x = s ∨ x = t
    · rw [if_pos hx, if_pos hx, ih]; omega
    · rw [if_neg hx, if_neg hx, bk_out, ih]
      have h1 : spH G hi (spG G s t x).m = 1 := if_neg (by have := (spG_n G s t x).2.1; omega)
      rw [h1]
      omega
theorem sp_0 (G : Gr) (hi : Nat → Int) (s t S : Nat) : sOut (spG G s t 0) (spH G hi) S = sumE G.m (fun e => if S.testBit (G.u e + 8) && !S.testBit (G.v e) then onH hi e else 0) := by
  refine sumE_cong fun e he => ?_
  have h1 : spH G hi e = onH hi e := if_pos he
  rw [h1]; rfl
theorem mask16 (p : Nat → Bool) {x : Nat} (hx : x < 16) : (mask p 16).testBit x = p x := mask_bit _ _ _ hx
/-- the least sum of a cut of the split net is what the reference says -/
theorem corner_cut {G : Gr} (hG : GrOK G) {hi : Nat → Int} {s t : Nat} (hs : s < G.n) (ht : t < G.n) (hst : s ≠ t) {a : Int} (h1 : ∀ S, btw (s + 8) t S = true → a ≤ sOut (spG G s t G.n) (spH G hi) S) (h2 : ∃ S, S < 2 ^ 16 ∧ btw (s + 8) t S = true ∧ sOut (spG G s t G.n) (spH G hi) S = a) : a = cornerWaysG G hi s t := by
  have hn := hG.2.1
  obtain ⟨P, hP, hpv, -, hpp, hpm⟩ := part_ex hG hi hs ht hst
  have hdef : cornerWaysG G hi s t = dirN G hi s t G.m + (pc8 P : Int) := by unfold cornerWaysG; rw [hpv, tnN]
  rw [hdef]
  refine Int.le_antisymm ?_ ?_
  · -- the set of fewest corners makes a cut
    unfold prtP at hpp
    have hclo := fun (e : Nat) he hu => rch_closed hG (usD G hi s t) P hs (e := e) he hu
    have hR0 : (rchN G (usD G hi s t) P (2 ^ s) G.n).testBit s = true := by
      have hsub : ∀ j, subB (2 ^ s) (rchN G (usD G hi s t) P (2 ^ s) j) := by
        intro j
        induction j with
        | zero => exact fun i h => h
        | succ j ih => exact fun i h => passP_sub _ _ _ _ _ i (ih i h)
      exact hsub G.n s (by rw [Nat.testBit_two_pow]; exact decide_eq_true rfl)
    generalize rchN G (usD G hi s t) P (2 ^ s) G.n = R at hpp hclo hR0
    have hps : P.testBit s = false := by
      cases h : P.testBit s
      · rfl
      · rw [h] at hpp; cases hpp
    have hpt : P.testBit t = false := by
      cases h : P.testBit t
      · rfl
      · rw [h, hps] at hpp; cases hpp
    have hrt : R.testBit t = false := by
      cases h : R.testBit t
      · rfl
      · rw [h, hps, hpt] at hpp; cases hpp
    have hS1 : ∀ x, x < 8 → (mask (fun y => if y < 8 then R.testBit y || P.testBit y else R.testBit (y - 8)) 16).testBit x = (R.testBit x || P.testBit x) := fun x hx => by
      rw [mask16 _ (by omega), if_pos hx]
    have hS2 : ∀ x, x < 8 → (mask (fun y => if y < 8 then R.testBit y || P.testBit y else R.testBit (y - 8)) 16).testBit (x + 8) = R.testBit x := fun x hx => by
      rw [mask16 _ (by omega), if_neg (by omega), Nat.add_sub_cancel]
    generalize mask (fun y => if y < 8 then R.testBit y || P.testBit y else R.testBit (y - 8)) 16 = S at hS1 hS2
    have hb : btw (s + 8) t S = true := by
      unfold btw
      rw [hS2 s (by omega), hS1 t (by omega), hR0, hrt, hpt]; rfl
    refine Int.le_trans (h1 S hb) ?_
    rw [sp_out, sp_0]
    have e1 : sumE G.m (fun e => if S.testBit (G.u e + 8) && !S.testBit (G.v e) then onH hi e else 0) ≤ dirN G hi s t G.m := sumE_le fun e he => by
      obtain ⟨g1, g2, g3⟩ := hG.2.2.2 e he
      rw [hS2 _ (by omega), hS1 _ (by omega)]
      by_cases hc : (R.testBit (G.u e) && !(R.testBit (G.v e) || P.testBit (G.v e))) = true
      · rw [if_pos hc]
        rw [Bool.and_eq_true, Bool.not_eq_true', Bool.or_eq_false_iff] at hc
        by_cases hz : 0 < hi e
        · by_cases hd : G.u e = s ∧ G.v e = t
          · rw [if_pos ⟨hz, hd⟩]; exact (onH_bd hi e).2
          · have hu : usD G hi s t e = true := by unfold usD; rw [decide_eq_true hz, decide_eq_false hd]; rfl
            have := hclo e he hu hc.1 hc.2.2
            rw [this] at hc; exact absurd hc.2.1 (by decide)
        · have : onH hi e = 0 := if_neg hz
          rw [this]
          split <;> omega
      · rw [if_neg hc]
        split <;> omega
    have e2 : insN s t S G.n ≤ (pc8 P : Int) := by
      have hmono : ∀ k, insN s t S G.n ≤ sumE (G.n + k) (fun x => if P.testBit x then (1 : Int) else 0) := by
        intro k
        induction k with
        | zero =>
          refine sumE_le fun y hy => ?_
          unfold btw
          rw [hS1 y (by omega), hS2 y (by omega)]
          cases R.testBit y <;> cases P.testBit y <;> simp <;> split <;> omega
        | succ k ih =>
          rw [← Nat.add_assoc, sumE]
          split <;> omega
      have := hmono (8 - G.n)
      rw [show G.n + (8 - G.n) = 8 by omega, ← bits_sum] at this
      exact this
    omega
  · obtain ⟨S, -, hb, hSa⟩ := h2
    unfold btw at hb
    rw [Bool.and_eq_true, Bool.not_eq_true'] at hb
    obtain ⟨hbs, hbt⟩ := hb
    rw [sp_out, sp_0] at hSa
    generalize hL : (fun e => decide (0 < hi e) && (S.testBit (G.u e + 8) && !S.testBit (G.v e)) && !decide (G.u e = s ∧ G.v e = t)) = Lf
    have hLd : ∀ e, Lf e = (decide (0 < hi e) && (S.testBit (G.u e + 8) && !S.testBit (G.v e)) && !decide (G.u e = s ∧ G.v e = t)) := fun e => by rw [← hL]
    clear hL
    generalize hCh : (fun e => if G.v e = t then G.u e else G.v e) = ch
    have hChd : ∀ e, ch e = if G.v e = t then G.u e else G.v e := fun e => by rw [← hCh]
    clear hCh
    generalize hQ : mask (fun x => !(x == s) && (!(x == t) && (btw x (x + 8) S || decide (0 < sumE G.m (fun e => if Lf e = true ∧ ch e = x then (1 : Int) else 0))))) G.n = Q
    have hQlt : Q < 2 ^ G.n := by rw [← hQ]; exact mask_lt _ _
    have hQb : ∀ x, x < G.n → Q.testBit x = (!(x == s) && (!(x == t) && (btw x (x + 8) S || decide (0 < sumE G.m (fun e => if Lf e = true ∧ ch e = x then (1 : Int) else 0))))) := fun x hx => by rw [← hQ]; exact mask_bit _ _ _ hx
    clear hQ
    have hQs : Q.testBit s = false := by rw [hQb s hs, beq_self_eq_true]; rfl
    have hQt : Q.testBit t = false := by rw [hQb t ht, beq_self_eq_true]; simp
    have hch : ∀ e, e < G.m → Lf e = true → ch e ≠ s → ch e ≠ t → Q.testBit (ch e) = true := by
      intro e he hLe c1 c2
      obtain ⟨g1, g2, g3⟩ := hG.2.2.2 e he
      have hcn : ch e < G.n := by rw [hChd]; split <;> assumption
      have hpos : 0 < sumE G.m (fun k => if Lf k = true ∧ ch k = ch e then (1 : Int) else 0) := by
        rw [sumE_at he, if_pos ⟨hLe, rfl⟩]
        have := sumE_nonneg (n := G.m) (f := fun k => if k = e then 0 else if Lf k = true ∧ ch k = ch e then (1 : Int) else 0) (fun k hk => by split; omega; split <;> omega)
        omega
      rw [hQb _ hcn, beq_eq_false_iff_ne.mpr c1, beq_eq_false_iff_ne.mpr c2, decide_eq_true hpos]; simp
    have hin : ∀ x, x < G.n → x ≠ s → x ≠ t → S.testBit x = true → S.testBit (x + 8) = false → Q.testBit x = true := by
      intro x hx c1 c2 b1 b2
      rw [hQb x hx, beq_eq_false_iff_ne.mpr c1, beq_eq_false_iff_ne.mpr c2]
      unfold btw
      rw [b1, b2]; rfl
    -- what is reached without these corners
    have hreach : ∀ j x, (rchN G (usD G hi s t) Q (2 ^ s) j).testBit x = true → x < G.n ∧ S.testBit (x + 8) = true ∧ x ≠ t ∧ Q.testBit x = false := by
      intro j
      induction j with
      | zero =>
        intro x hx
        rw [show rchN G (usD G hi s t) Q (2 ^ s) 0 = 2 ^ s from rfl, Nat.testBit_two_pow] at hx
        have hx := of_decide_eq_true hx
        subst hx
        exact ⟨hs, hbs, hst, hQs⟩
      | succ j ih =>
        have hp : ∀ k, k ≤ G.m → ∀ x, (passP G (usD G hi s t) Q (rchN G (usD G hi s t) Q (2 ^ s) j) k).testBit x = true → x < G.n ∧ S.testBit (x + 8) = true ∧ x ≠ t ∧ Q.testBit x = false := by
          intro k
          induction k with
          | zero => exact fun _ x hx => ih x hx
          | succ k ihk =>
            intro hk x hx
            rw [passP_s] at hx
            split at hx
            · rename_i hcond
              rw [Nat.testBit_or, Bool.or_eq_true] at hx
              rcases hx with hx | hx
              · exact ihk (by omega) x hx
              · rw [Nat.testBit_two_pow] at hx
                have hx := of_decide_eq_true hx
                subst hx
                rw [Bool.and_eq_true, Bool.and_eq_true, Bool.not_eq_true'] at hcond
                obtain ⟨⟨hus, hRu⟩, hQv⟩ := hcond
                obtain ⟨g1, g2, g3⟩ := hG.2.2.2 k (by omega)
                obtain ⟨-, hSu, hut, hQu⟩ := ihk (by omega) _ hRu
                unfold usD at hus
                rw [Bool.and_eq_true, Bool.not_eq_true'] at hus
                have hz := of_decide_eq_true hus.1
                have hnd := of_decide_eq_false hus.2
                cases hSv : S.testBit (G.v k)
                · -- the edge leaves
                  have hLk : Lf k = true := by rw [hLd, hSu, hSv, decide_eq_true hz, decide_eq_false hnd]; rfl
                  by_cases hvt : G.v k = t
                  · have hck : ch k = G.u k := by rw [hChd, if_pos hvt]
                    have hus9 : G.u k ≠ s := fun h => hnd ⟨h, hvt⟩
                    have := hch k (by omega) hLk (by rw [hck]; exact hus9) (by rw [hck]; exact hut)
                    rw [hck, hQu] at this; cases this
                  · have hck : ch k = G.v k := by rw [hChd, if_neg hvt]
                    by_cases hvs : G.v k = s
                    · rw [hvs]; exact ⟨hs, hbs, hst, hQs⟩
                    · have := hch k (by omega) hLk (by rw [hck]; exact hvs) (by rw [hck]; exact hvt)
                      rw [hck, hQv] at this; cases this
                · have hvt : G.v k ≠ t := fun h => by rw [h, hbt] at hSv; cases hSv
                  by_cases hvs : G.v k = s
                  · rw [hvs]; exact ⟨hs, hbs, hst, hQs⟩
                  · cases hS8 : S.testBit (G.v k + 8)
                    · have := hin _ g2 hvs hvt hSv hS8
                      rw [hQv] at this; cases this
                    · exact ⟨g2, rfl, hvt, hQv⟩
            · exact ihk (by omega) x hx
        exact hp G.m (Nat.le_refl _)
    have hQp : prtP G (usD G hi s t) s t Q = true := by
      unfold prtP
      rw [hQs, hQt]
      cases hr : (rchN G (usD G hi s t) Q (2 ^ s) G.n).testBit t
      · rfl
      · exact absurd rfl (hreach G.n t hr).2.2.1
    have hle := hpm Q hQlt hQp
    -- how many there are
    have hcount : (pc8 Q : Int) ≤ insN s t S G.n + sumE G.m (fun e => if Lf e = true then (1 : Int) else 0) := by
      have e0 : (pc8 Q : Int) = sumE 8 (fun x => if Q.testBit x then (1 : Int) else 0) := bits_sum Q 8
      have e1 : sumE 8 (fun x => if Q.testBit x then (1 : Int) else 0) ≤ sumE 8 (fun x => (if x < G.n then (if x = s ∨ x = t then 0 else if btw x (x + 8) S then (1 : Int) else 0) else 0) + sumE G.m (fun e => if Lf e = true ∧ ch e = x then (1 : Int) else 0)) := sumE_le fun x hx => by
        have hnn : 0 ≤ sumE G.m (fun e => if Lf e = true ∧ ch e = x then (1 : Int) else 0) := sumE_nonneg fun e he => by split <;> omega
        cases hq : Q.testBit x
        · simp only [Bool.false_eq_true, if_false]
          split
          · split
            · omega
            · split <;> omega
          · omega
        · have hxn : x < G.n := by
            refine Classical.byContradiction fun hx9 => ?_
            rw [Nat.testBit_lt_two_pow (Nat.lt_of_lt_of_le hQlt (show 2 ^ G.n ≤ 2 ^ x from Nat.pow_le_pow_right (by decide) (by omega)))] at hq
            cases hq
          rw [hQb x hxn] at hq
          have hxs : x ≠ s := fun h => by rw [h, beq_self_eq_true] at hq; cases hq
          have hxt : x ≠ t := fun h => by rw [h, beq_self_eq_true] at hq; simp at hq
          rw [beq_eq_false_iff_ne.mpr hxs, beq_eq_false_iff_ne.mpr hxt] at hq
          rw [if_pos hxn, if_neg (show ¬ (x = s ∨ x = t) by omega), if_pos (show true = true from rfl)]
          by_cases hbx : btw x (x + 8) S = true
          · rw [if_pos hbx]; omega
          · rw [if_neg hbx]
            have hbx : btw x (x + 8) S = false := by simpa using hbx
            rw [hbx] at hq
            have := of_decide_eq_true (show decide (0 < sumE G.m (fun e => if Lf e = true ∧ ch e = x then (1 : Int) else 0)) = true by simpa using hq)
            omega
      rw [sumE_add, sumE_swap 8 G.m] at e1
      have e2 : sumE 8 (fun x => if x < G.n then (if x = s ∨ x = t then 0 else if btw x (x + 8) S then (1 : Int) else 0) else 0) = insN s t S G.n := by
        have hk : ∀ k, sumE (G.n + k) (fun x => if x < G.n then (if x = s ∨ x = t then 0 else if btw x (x + 8) S then (1 : Int) else 0) else 0) = insN s t S G.n := by
          intro k
          induction k with
          | zero => exact sumE_cong fun x hx => if_pos hx
          | succ k ih => rw [← Nat.add_assoc, sumE, ih, if_neg (by omega)]; omega
        have := hk (8 - G.n)
        rw [show G.n + (8 - G.n) = 8 by omega] at this
        exact this
      have e3 : sumE G.m (fun e => sumE 8 (fun x => if Lf e = true ∧ ch e = x then (1 : Int) else 0)) ≤ sumE G.m (fun e => if Lf e = true then (1 : Int) else 0) := sumE_le fun e he => by
        by_cases hLe : Lf e = true
        · rw [if_pos hLe]
          have hcn : ch e < 8 := by
            have := hG.2.2.2 e he
            rw [hChd]; split <;> omega
          have h9 := sumE_one hcn (1 : Int)
          rw [← h9]
          refine sumE_le fun x hx => ?_
          by_cases hx : ch e = x
          · rw [if_pos ⟨hLe, hx⟩, if_pos hx.symm]; omega
          · rw [if_neg (fun z => hx z.2), if_neg (fun z => hx z.symm)]; omega
        · rw [if_neg hLe, sumE_0 (fun x hx => if_neg (fun z => hLe z.1))]; omega
      omega
    have hsum : dirN G hi s t G.m + sumE G.m (fun e => if Lf e = true then (1 : Int) else 0) ≤ sumE G.m (fun e => if S.testBit (G.u e + 8) && !S.testBit (G.v e) then onH hi e else 0) := by
      have h0 : dirN G hi s t G.m + sumE G.m (fun e => if Lf e = true then (1 : Int) else 0) = sumE G.m (fun e => (if 0 < hi e ∧ G.u e = s ∧ G.v e = t then (1 : Int) else 0) + (if Lf e = true then (1 : Int) else 0)) := (sumE_add _ _ _).symm
      rw [h0]
      refine sumE_le fun e he => ?_
      have hLe := hLd e
      by_cases hz : 0 < hi e
      · have h1 : onH hi e = 1 := if_pos hz
        rw [h1]
        by_cases hd : G.u e = s ∧ G.v e = t
        · have hLf : Lf e = false := by rw [hLe, decide_eq_true hd]; simp
          rw [if_pos ⟨hz, hd⟩, hLf, hd.1, hd.2, hbs, hbt]; simp
        · rw [if_neg (fun z => hd z.2)]
          by_cases hl : (S.testBit (G.u e + 8) && !S.testBit (G.v e)) = true
          · rw [if_pos hl]; split <;> omega
          · have hl : (S.testBit (G.u e + 8) && !S.testBit (G.v e)) = false := by simpa using hl
            have hLf : Lf e = false := by rw [hLe, hl]; simp
            rw [hLf, hl]; simp
      · have h1 : onH hi e = 0 := if_neg hz
        have hLf : Lf e = false := by rw [hLe, decide_eq_false hz]; rfl
        rw [h1, hLf, if_neg (fun z => hz z.1)]; simp
    omega
section CRW
variable {X : xX} {c : xCx} {I : xIn} {i : Nat} {G : Gr} {s t : Nat}
theorem st_waysByCorners (hX : xBase X) (d : Nat) (hC : CG I c i G) (hN : NB I i G.m) (hs : s < G.n) (ht : t < G.n) (hst : s ≠ t) : xRet rI X m_X6_waysByCorners (d + 4) [xr (0, 2), xr (i + 3, 0), xi (s : Int), xi (t : Int)] c I 0 0 (fun v I9 => kp flP I I9 ∧ v = cornerWaysG G (I (i + 3, 4)) s t) xNo := by
  obtain ⟨c1, c2, c3, c4, c5⟩ := id hC
  have hn := c4.2.1
  have hm := c4.2.2.1
  have hH : ∀ e, 0 ≤ spH G (I (i + 3, 4)) e ∧ spH G (I (i + 3, 4)) e ≤ 1 := fun e => by
    have := onH_bd (I (i + 3, 4)) e
    unfold spH; split <;> omega
  refine xRet_of hX pl_X6_waysByCorners (LE1 rfl) fun V hV => rg_X6_waysByCorners_0 hV I _ c1 _ _ ?_
  refine ⟨_, fl_startK hX (d + 3) (n := 16) (Nat.le_refl _) (fun e => G.u e + 8) G.v (fun _ => 0) (spH G (I (i + 3, 4))) (fun _ => 0), ?_⟩
  rintro _ J0 ⟨k0, f0, h0⟩
  refine up_to0 (m := G.m) (W := fun k => ∀ J, kp flP I J → FR J (16, k, fun e => G.u e + 8, G.v) → Has J k (fun _ => 0) (spH G (I (i + 3, 4))) (fun _ => 0) → V 12 [(0, xr (0, 2)), (1, xr (i + 3, 0)), (2, xi (s : Int)), (3, xi (t : Int)), (4, xi (k : Int))] [] (J, xst c) 0 0) ?_ ?_ J0 (k0.mo (by simp [flP])) f0 h0
  · rintro J k1 f1 h1
    refine rg_X6_waysByCorners_12 hV J _ c1 _ _ _ ⟨⟨by omega, by omega⟩, fun _ => ?_, fun h => ?_⟩
    · refine up_to0 (m := G.n) (W := fun x => ∀ J, kp flP I J → FR J (spG G s t x) → Has J (spG G s t x).m (fun _ => 0) (spH G (I (i + 3, 4))) (fun _ => 0) → V 71 [(0, xr (0, 2)), (1, xr (i + 3, 0)), (2, xi (s : Int)), (3, xi (t : Int)), (4, xi (x : Int))] [] (J, xst c) 0 0) ?_ ?_ J k1 f1 h1
      · rintro J k1 f1 h1
        refine rg_X6_waysByCorners_71 hV J _ c1 _ _ _ ⟨⟨by omega, by omega⟩, fun _ => ⟨_, fl_pushE hX (d + 1) f1 h1 (s := s + 8) (t := t) (fun e he => by have := hH e; omega) (by rw [(spG_n G s t G.n).1]; omega) (by rw [(spG_n G s t G.n).1]; omega) (by omega), ?_⟩, fun h => ?_⟩
        · rintro v K ⟨k2, p0, -, p1, p2⟩
          rw [(spG_n G s t G.n).1] at p2
          exact ⟨k1.tr k2.q, corner_cut c4 hs ht hst p1 p2⟩
        · rw [kpq.net k1, c2] at h; omega
      · intro x hx ih J k1 f1 h1
        have hsn := spG_n G s t x
        rw [spG] at ih
        refine rg_X6_waysByCorners_71 hV J _ c1 _ _ _ ⟨⟨by omega, by omega⟩, fun h => ?_, fun _ => ⟨⟨by omega, by omega⟩, fun z => ?_, fun z => ⟨⟨by omega, by omega⟩, fun y => ?_, fun y => ?_⟩⟩⟩
        · rw [kpq.net k1, c2] at h; omega
        · rw [if_pos (Or.inl (by omega))] at ih; exact ih J k1 f1 h1
        · rw [if_pos (Or.inr (by omega))] at ih; exact ih J k1 f1 h1
        · rw [if_neg (by omega)] at ih
          refine ⟨_, fl_add hX (d + 1) f1 (a := x) (b := x + 8) (by omega) (by omega) (by omega) ⟨by decide, by decide⟩ ⟨by decide, by decide⟩ ⟨by decide, by decide⟩, ?_⟩
          rintro _ K ⟨a1, a2⟩
          have a3 := Added.has h1 a2
          have e1 : spH G (I (i + 3, 4)) (spG G s t x).m = 1 := if_neg (by omega)
          have u1 : upL (fun _ => (0 : Int)) (spG G s t x).m 0 = fun _ => 0 := upL_id (fun _ => (0 : Int)) _
          have u2 : upL (spH G (I (i + 3, 4))) (spG G s t x).m 1 = spH G (I (i + 3, 4)) := by
            have := upL_id (spH G (I (i + 3, 4))) (spG G s t x).m
            rw [e1] at this; exact this
          rw [u1, u2] at a3
          exact ih K (k1.tr (kpA.q ⟨a2.1, a2.2.1⟩)) a1 a3
    · rw [kpq.net k1, c3] at h; omega
  · intro k hk ih J k1 f1 h1
    have hl := c4.2.2.2 k hk
    have hb := hN k hk
    have hHk : spH G (I (i + 3, 4)) k = onH (I (i + 3, 4)) k := if_pos hk
    refine rg_X6_waysByCorners_12 hV J _ c1 _ _ _ ⟨⟨by omega, by omega⟩, fun h => ?_, fun _ => ⟨⟨by omega, by omega⟩, ?_⟩⟩
    · rw [kpq.net k1, c3] at h; omega
    rw [tnN, kpq.net k1, kpq.net k1, kpq.net k1, (c5 k hk).1, (c5 k hk).2]
    have add : ∀ x : Int, x = spH G (I (i + 3, 4)) k → ∃ (P8 : Unit → xIn → Prop), xRet rU X m_X1_add (d + 3) [xr (0, 3), xi ((G.u k : Int) + 8), xi (G.v k : Int), xi 0, xi x, xi 0] c J 0 0 P8 xNo ∧ (∀ (_ : Unit) (I9 : xIn), P8 () I9 → V 12 [(0, xr (0, 2)), (1, xr (i + 3, 0)), (2, xi (s : Int)), (3, xi (t : Int)), (4, xi ((k : Int) + 1))] [] (I9, xst c) 0 0) := by
      rintro _ rfl
      refine ⟨_, fl_addK hX (d + 1) f1 h1 (show G.u k + 8 < 16 by omega) (show G.v k < 16 by omega) (by omega) ⟨by decide, by decide⟩ (by have := hH k; exact ⟨by omega, by omega⟩) ⟨by decide, by decide⟩, ?_⟩
      rintro _ K ⟨k2, f2, h2⟩
      exact ih K (k1.tr k2.q) f2 h2
    refine ⟨fun z => add 0 (by rw [hHk]; unfold onH; rw [if_neg (by omega)]), fun z => add 1 (by rw [hHk]; unfold onH; rw [if_pos (by omega)])⟩
end CRW
section CRX
variable {X : xX} {c : xCx} {I : xIn} {T : NT} {a s t : Int}
theorem cornerWaysG_cong {G : Gr} {hi hi9 : Nat → Int} (h : ∀ e, e < G.m → hi e = hi9 e) (s t : Nat) : cornerWaysG G hi s t = cornerWaysG G hi9 s t := by
  unfold cornerWaysG
  rw [partV_cong h, dirN_cong h]
theorem cn_cornerWays (hX : xBase X) (d : Nat) (hT : NTok T) (hI : CI I c T) (ha : xin a) (hs : xin s) (ht : xin t) : xRet rI X m_X9_cornerWays (d + 8) [xr (0, 0), xi a, xi s, xi t] c I 2 12 (fun v I9 => keepC I I9 ∧ (v, 0) = cornerWaysA T a s t) (fun x I9 => I9 = I ∧ exL [xIOB, xIAE] x (cornerWaysA T a s t).2) := by
  unfold cornerWaysA
  have hwc := wrong_c T a s t
  refine xRet_of hX pl_X9_cornerWays (LE1 rfl) fun V hV => rg_X9_cornerWays_0 hV I _ _ _ (go_ends hX d hT hI ha hs ht (fun x hx hw => ⟨rfl, by rw [wE_p hw]; exact hx.l (by omega)⟩) ?_)
  rintro i s t rfl rfl rfl hi hC hs9 ht9 hst hw
  rw [wE_0 hw, tnN, tnN, tnN]
  refine ⟨_, st_waysByCorners hX (d + 3) hC (hI.nb hT hi) hs9 ht9 hst, ?_⟩
  rintro _ J ⟨k1, rfl⟩
  exact ⟨kp.C k1 (by decide), by rw [cornerWaysG_cong (hI.hi hi)]⟩
end CRX
