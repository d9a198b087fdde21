/-! ways by corners are no more than ways by edges; more steps carry no less -/
section PW
variable {G : Gr} {hi : Nat → Int} {s t : Nat}
def qvC (G : Gr) (hi : Nat → Int) (s t S e : Nat) : Bool := (decide (0 < hi e) && !decide (G.u e = s ∧ G.v e = t)) && lvs G S e
def qvK (G : Gr) (t e : Nat) : Nat := if G.v e = t then G.u e else G.v e
def qvF (G : Gr) (hi : Nat → Int) (s t S : Nat) : Nat → Nat
  | 0 => 0
  | k + 1 => if qvC G hi s t S k then qvF G hi s t S k ||| 2 ^ qvK G t k else qvF G hi s t S k
theorem qvK_ok (hG : GrOK G) {S e : Nat} (he : e < G.m) (hs : S.testBit s = true) (ht : S.testBit t = false) (h : qvC G hi s t S e = true) : qvK G t e < G.n ∧ qvK G t e ≠ s ∧ qvK G t e ≠ t := by
  obtain ⟨g1, g2, g3⟩ := hG.2.2.2 e he
  unfold qvC lvs at h
  rw [Bool.and_eq_true, Bool.and_eq_true, Bool.not_eq_true', Bool.and_eq_true, Bool.not_eq_true'] at h
  obtain ⟨⟨-, h2⟩, h3, h4⟩ := h
  have h2 := of_decide_eq_false h2
  unfold qvK
  by_cases hv : G.v e = t
  · rw [if_pos hv]
    exact ⟨g1, fun z => h2 ⟨z, hv⟩, fun z => by rw [z, ht] at h3; cases h3⟩
  · rw [if_neg hv]
    exact ⟨g2, (fun z => by rw [z, hs] at h4; cases h4), hv⟩
theorem qvF_bit (hG : GrOK G) {S : Nat} (hs : S.testBit s = true) (ht : S.testBit t = false) : ∀ k, k ≤ G.m → ∀ x, (qvF G hi s t S k).testBit x = true → x < G.n ∧ x ≠ s ∧ x ≠ t := by
  intro k
  induction k with
  | zero => intro _ x hx; rw [qvF, Nat.zero_testBit] at hx; cases hx
  | succ k ih =>
    intro hk x hx
    rw [qvF] at hx
    split at hx
    · rename_i hc
      rw [Nat.testBit_or, Bool.or_eq_true] at hx
      rcases hx with hx | hx
      · exact ih (by omega) x hx
      · rw [Nat.testBit_two_pow] at hx
        have hx := of_decide_eq_true hx
        subst hx
        exact qvK_ok hG (by omega) hs ht hc
    · exact ih (by omega) x hx
theorem qvF_mem {S : Nat} : ∀ k e, e < k → qvC G hi s t S e = true → (qvF G hi s t S k).testBit (qvK G t e) = true := by
  intro k
  induction k with
  | zero => intro e he; omega
  | succ k ih =>
    intro e he h
    rw [qvF]
    by_cases hek : e = k
    · subst hek
      rw [if_pos h, Nat.testBit_or, Nat.testBit_two_pow, decide_eq_true rfl, Bool.or_true]
    · have := ih e (by omega) h
      split
      · rw [Nat.testBit_or, this, Bool.true_or]
      · exact this
theorem qvF_cnt (hG : GrOK G) {S : Nat} (hs : S.testBit s = true) (ht : S.testBit t = false) : ∀ k, k ≤ G.m → dirN G hi s t k + (pc8 (qvF G hi s t S k) : Int) ≤ sumE k (fun e => if lvs G S e then onH hi e else 0) := by
  intro k
  induction k with
  | zero => intro _; show (0 : Int) + ((pc8 0 : Nat) : Int) ≤ 0; rw [pc8_0]; decide
  | succ k ih =>
    intro hk
    have ih := ih (by omega)
    rw [dirN_s, qvF]
    show _ ≤ sumE k (fun e => if lvs G S e then onH hi e else 0) + (if lvs G S k then onH hi k else 0)
    by_cases h0 : 0 < hi k
    · have hon : onH hi k = 1 := by unfold onH; exact if_pos h0
      by_cases hd : G.u k = s ∧ G.v k = t
      · have hl : lvs G S k = true := by unfold lvs; rw [hd.1, hd.2, hs, ht]; rfl
        have hc : qvC G hi s t S k = false := by unfold qvC; rw [decide_eq_true hd]; simp
        rw [if_pos ⟨h0, hd⟩, hc, hl, hon, if_neg (by decide), if_pos rfl]
        omega
      · rw [if_neg (fun z => hd z.2)]
        cases hl : lvs G S k
        · have hc : qvC G hi s t S k = false := by unfold qvC; rw [hl, Bool.and_false]
          rw [hc, if_neg (by decide), if_neg (by decide)]
          omega
        · have hc : qvC G hi s t S k = true := by unfold qvC; rw [hl, decide_eq_true h0, decide_eq_false hd]; rfl
          have h8 := (qvK_ok hG (show k < G.m by omega) hs ht hc).1
          have h88 := hG.2.1
          have := (pc8_or (qvF G hi s t S k) (show qvK G t k < 8 by omega)).1
          rw [hc, if_pos rfl, if_pos rfl, hon]
          omega
    · have hon : onH hi k = 0 := by unfold onH; exact if_neg h0
      have hc : qvC G hi s t S k = false := by unfold qvC; rw [decide_eq_false h0]; rfl
      rw [if_neg (fun z => h0 z.1), hc, hon, if_neg (by decide)]
      split <;> omega
theorem ways_le (hG : GrOK G) (hs : s < G.n) (ht : t < G.n) (hst : s ≠ t) : cornerWaysG G hi s t ≤ edgeWaysG G hi s t := by
  have h8 := hG.2.1
  have hf : ∀ S, S < 2 ^ G.n → sOut G (onH hi) S ≤ 16 := fun S _ => (sOut_bd (z := 1) hG.2.2.1 (by decide) fun e he => by
    unfold onH
    split <;> omega).2
  obtain ⟨⟨S, s1, s2, s3⟩, -⟩ := mnb_hit (b := 1000) (p := btw s t) (n := 2 ^ G.n) (by decide) hf (btw_ex hs hst)
  obtain ⟨bs, bt⟩ := btw_i.mp s2
  have hcnt := qvF_cnt (hi := hi) hG bs bt G.m (Nat.le_refl _)
  have hbit := qvF_bit (hi := hi) hG bs bt G.m (Nat.le_refl _)
  have hmem := fun e (he : e < G.m) (h : qvC G hi s t S e = true) => qvF_mem G.m e he h
  generalize qvF G hi s t S G.m = Q at *
  have hno : ∀ x, ¬ (x < G.n ∧ x ≠ s ∧ x ≠ t) → Q.testBit x = false := fun x hx => by
    cases h : Q.testBit x
    · rfl
    · exact absurd (hbit x h) hx
  have hQs := hno s (fun z => z.2.1 rfl)
  have hQt := hno t (fun z => z.2.2 rfl)
  have hQlt : Q < 2 ^ G.n := Nat.lt_pow_two_of_testBit _ fun i hi => hno i (fun z => by have := z.1; omega)
  have hreach : ∀ j x, (rchN G (usD G hi s t) Q (2 ^ s) j).testBit x = true → S.testBit x = true ∧ Q.testBit x = false := by
    intro j
    induction j with
    | zero =>
      intro x hx
      rw [show rchN G (usD G hi s t) Q (2 ^ s) 0 = 2 ^ s from rfl, Nat.testBit_two_pow] at hx
      have hx := of_decide_eq_true hx
      subst hx
      exact ⟨bs, hQs⟩
    | succ j ih =>
      have hp : ∀ k, k ≤ G.m → ∀ x, (passP G (usD G hi s t) Q (rchN G (usD G hi s t) Q (2 ^ s) j) k).testBit x = true → S.testBit x = true ∧ Q.testBit x = false := by
        intro k
        induction k with
        | zero => exact fun _ x hx => ih x hx
        | succ k ihk =>
          intro hk x hx
          rw [passP_s] at hx
          split at hx
          · rename_i hcond
            rw [Nat.testBit_or, Bool.or_eq_true] at hx
            rcases hx with hx | hx
            · exact ihk (by omega) x hx
            · rw [Nat.testBit_two_pow] at hx
              have hx := of_decide_eq_true hx
              subst hx
              rw [Bool.and_eq_true, Bool.and_eq_true, Bool.not_eq_true'] at hcond
              obtain ⟨⟨hus, hRu⟩, hQv⟩ := hcond
              obtain ⟨hSu, hQu⟩ := ihk (by omega) _ hRu
              refine ⟨?_, hQv⟩
              cases hSv : S.testBit (G.v k)
              · have hl : lvs G S k = true := by unfold lvs; rw [hSu, hSv]; rfl
                have hc : qvC G hi s t S k = true := by
                  unfold qvC
                  unfold usD at hus
                  rw [hl, hus]
                  rfl
                have hm := hmem k (by omega) hc
                unfold qvK at hm
                split at hm
                · rw [hQu] at hm; cases hm
                · rw [hQv] at hm; cases hm
              · rfl
          · exact ihk (by omega) x hx
      exact hp G.m (Nat.le_refl _)
  have hQp : prtP G (usD G hi s t) s t Q = true := by
    unfold prtP
    rw [hQs, hQt]
    cases hr : (rchN G (usD G hi s t) Q (2 ^ s) G.n).testBit t
    · rfl
    · have := (hreach G.n t hr).1
      rw [bt] at this; cases this
  obtain ⟨M, m1, m2, -, -, m5⟩ := part_ex hG hi hs ht hst
  have hle := m5 Q hQlt hQp
  unfold cornerWaysG edgeWaysG
  rw [← s3, m2, tnN]
  have hcnt : dirN G hi s t G.m + (pc8 Q : Int) ≤ sOut G (onH hi) S := hcnt
  omega
theorem ways_bd (hG : GrOK G) (hs : s < G.n) (ht : t < G.n) (hst : s ≠ t) : (0 ≤ cornerWaysG G hi s t ∧ cornerWaysG G hi s t ≤ 1000) ∧ edgeWaysG G hi s t ≤ 1000 := by
  have h1 := ways_le (hi := hi) hG hs ht hst
  have h2 : edgeWaysG G hi s t ≤ 1000 := (mnb_le0 _ _ _ _).1
  have h3 := (dirN_bd G hi s t G.m).1
  refine ⟨⟨?_, by omega⟩, h2⟩
  unfold cornerWaysG
  omega
theorem steps_0 (hs : s < G.n) (hst : s ≠ t) : inStepsG G hi s t 0 = 0 := by
  obtain ⟨S, h1, h2⟩ := btw_ex hs hst
  exact mnb_eq (by decide) (fun _ _ _ => Int.le_refl _) ⟨S, h1, h2, rfl⟩
theorem steps_up (hG : GrOK G) (hb : ∀ e, e < G.m → 0 ≤ hi e ∧ hi e ≤ 99) (k : Nat) : inStepsG G hi s t k ≤ inStepsG G hi s t (k + 1) := by
  obtain ⟨l1, l2⟩ := mnb_le0 1000000 (btw s t) (nowF G hi s t k) (2 ^ G.n)
  show mnb 1000000 (btw s t) (nowF G hi s t k) (2 ^ G.n) ≤ mnb 1000000 (btw s t) (nowF G hi s t (k + 1)) (2 ^ G.n)
  rcases mnb_at 1000000 (btw s t) (nowF G hi s t (k + 1)) (2 ^ G.n) with h | ⟨S, h1, h2, h3⟩
  · rw [h]; exact l1
  rw [h3]
  have e : nowF G hi s t (k + 1) S = mnb 1000000 (fun B => decide (B &&& S = B) && btw s t B) (fun B => nowF G hi s t k B + lostF G hi B S) (S + 1) := if_pos h2
  rw [e]
  rcases mnb_at 1000000 (fun B => decide (B &&& S = B) && btw s t B) (fun B => nowF G hi s t k B + lostF G hi B S) (S + 1) with g | ⟨B, g1, g2, g3⟩
  · rw [g]; exact l1
  rw [g3]
  rw [Bool.and_eq_true] at g2
  have := l2 B (by omega) g2.2
  have := (lost_bd hG.2.2.1 hb B S).1
  omega
theorem steps_bd (hG : GrOK G) (hb : ∀ e, e < G.m → 0 ≤ hi e ∧ hi e ≤ 99) (k : Nat) : 0 ≤ inStepsG G hi s t k ∧ inStepsG G hi s t k ≤ 1000000 := by
  refine ⟨?_, (mnb_le0 _ _ _ _).1⟩
  unfold inStepsG
  rcases mnb_at 1000000 (btw s t) (nowF G hi s t k) (2 ^ G.n) with h | ⟨S, h1, h2, h3⟩
  · rw [h]; decide
  · rw [h3]; exact (nowF_bd hG.2.2.1 hb k S).1
end PW
