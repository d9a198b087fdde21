/-! holds, meets, breaks by the reference -/
theorem sOut_at {G : Gr} {S e : Nat} (g : Nat → Int) (he : e < G.m) (hl : lvs G S e = true) : sOut G g S = sumE G.m (fun k => if k = e then 0 else if lvs G S k then g k else 0) + g e := by
  unfold sOut
  rw [sumE_at he, if_pos hl]
theorem FS.bound2 {G : Gr} {lo hi b f : Nat → Int} (hG : GrIn G) (h : FS G lo hi b f) {S e : Nat} (he : e < G.m) (hl : lvs G S e = true) : bS G.n b S + sIn G lo S - (sOut G hi S - hi e) ≤ f e := by
  have h1 := h.cut hG S
  have h2 := sIn_le (G := G) S (fun e he => (h.1 e he).1)
  rw [sOut_at f he hl] at h1
  rw [sOut_at hi he hl]
  have h3 : sumE G.m (fun k => if k = e then 0 else if lvs G S k then f k else 0) ≤ sumE G.m (fun k => if k = e then 0 else if lvs G S k then hi k else 0) := sumE_le fun k hk => by
    have := (h.1 k hk).2
    split
    · omega
    · split <;> omega
  omega
def lmF (G : Gr) (lo hi su : Nat → Int) (e : Nat) : Nat → Int
  | 0 => lo e
  | n + 1 => if lvs G n e then max (lmF G lo hi su e n) (bS G.n su n + sIn G lo n - (sOut G hi n - hi e)) else if ens G n e then max (lmF G lo hi su e n) (sOut G lo n - bS G.n su n - (sIn G hi n - hi e)) else lmF G lo hi su e n
theorem lmF_s (G : Gr) (lo hi su : Nat → Int) (e n : Nat) : lmF G lo hi su e (n + 1) = if lvs G n e then max (lmF G lo hi su e n) (bS G.n su n + sIn G lo n - (sOut G hi n - hi e)) else if ens G n e then max (lmF G lo hi su e n) (sOut G lo n - bS G.n su n - (sIn G hi n - hi e)) else lmF G lo hi su e n := rfl
theorem lmF_le {G : Gr} {lo hi su f : Nat → Int} (hG : GrIn G) (h : FS G lo hi su f) {e : Nat} (he : e < G.m) (n : Nat) : lmF G lo hi su e n ≤ f e := by
  induction n with
  | zero => exact (h.1 e he).1
  | succ n ih =>
    rw [lmF_s]
    by_cases h1 : lvs G n e = true
    · rw [if_pos h1]
      have := h.bound2 hG he h1
      omega
    · rw [if_neg h1]
      by_cases h2 : ens G n e = true
      · rw [if_pos h2]
        have := h.bound hG he h2
        omega
      · rw [if_neg h2]; exact ih
theorem lmF_ge {G : Gr} {lo hi su : Nat → Int} {e n : Nat} : lo e ≤ lmF G lo hi su e n ∧ ∀ S, S < n → ens G S e = true → sOut G lo S - bS G.n su S - (sIn G hi S - hi e) ≤ lmF G lo hi su e n := by
  induction n with
  | zero => exact ⟨Int.le_refl _, fun S hS => by omega⟩
  | succ n ih =>
    rw [lmF_s]
    by_cases h1 : lvs G n e = true
    · rw [if_pos h1]
      refine ⟨by omega, fun S hS hs => ?_⟩
      by_cases hSn : S = n
      · rw [hSn] at hs
        unfold lvs at h1
        unfold ens at hs
        rw [Bool.and_eq_true, Bool.not_eq_true'] at h1 hs
        rw [h1.1] at hs; cases hs.1
      · have := ih.2 S (by omega) hs; omega
    · rw [if_neg h1]
      by_cases h2 : ens G n e = true
      · rw [if_pos h2]
        refine ⟨by omega, fun S hS hs => ?_⟩
        by_cases hSn : S = n
        · rw [hSn]; omega
        · have := ih.2 S (by omega) hs; omega
      · rw [if_neg h2]
        refine ⟨ih.1, fun S hS hs => ?_⟩
        by_cases hSn : S = n
        · rw [hSn] at hs; exact absurd hs h2
        · exact ih.2 S (by omega) hs
theorem lmF_eq {G : Gr} {lo hi su : Nat → Int} (hG : GrIn G) (hex : ∃ f, FS G lo hi su f) {e : Nat} (he : e < G.m) : lmF G lo hi su e (2 ^ G.n) = leastC G lo hi su e := by
  obtain ⟨f, hf⟩ := hex
  refine Int.le_antisymm ?_ ?_
  · obtain ⟨g, g1, g2⟩ := FS.least hG he (Int.toNat (f e - lo e)) f hf (by omega)
    rw [← g2]; exact lmF_le hG g1 he _
  · have h1 := lmF_ge (G := G) (lo := lo) (hi := hi) (su := su) (e := e) (n := 2 ^ G.n)
    unfold leastC
    rcases (mx_spec (lo e) (fun S => ens G S e) (fun S => sOut G lo S - bS G.n su S - (sIn G hi S - hi e)) (2 ^ G.n)).2.2 with h | ⟨S, s1, s2, s3⟩
    · rw [h]; exact h1.1
    · rw [s3]; exact h1.2 S s1 s2
theorem lmF_bd {G : Gr} (hG : GrOK G) {lo hi su : Nat → Int} (hb : ∀ e, e < G.m → (-100 ≤ lo e ∧ lo e ≤ 100) ∧ (-100 ≤ hi e ∧ hi e ≤ 100)) (hs : ∀ x, x < G.n → -99 ≤ su x ∧ su x ≤ 99) {e : Nat} (he : e < G.m) (n : Nat) : -9000 ≤ lmF G lo hi su e n ∧ lmF G lo hi su e n ≤ 9000 := by
  have hn := hG.2.1
  have hm := hG.2.2.1
  induction n with
  | zero => have := hb e he
            show -9000 ≤ lo e ∧ lo e ≤ 9000
            omega
  | succ n ih =>
    have b1 := sOut_bd (G := G) hm (b := lo) (S := n) (z := 100) (by decide) (fun e he => (hb e he).1)
    have b2 := sOut_bd (G := G) hm (b := hi) (S := n) (z := 100) (by decide) (fun e he => (hb e he).2)
    have b3 := sIn_bd (G := G) hm (b := lo) (S := n) (z := 100) (by decide) (fun e he => (hb e he).1)
    have b4 := sIn_bd (G := G) hm (b := hi) (S := n) (z := 100) (by decide) (fun e he => (hb e he).2)
    have b5 := bSp_bd (S := n) hs
    rw [← bS_if] at b5
    have b6 := hb e he
    rw [lmF_s]
    split
    · omega
    · split <;> omega
def brkZ (G : Gr) (lo hi su : Nat → Int) : Int := if brkF G lo hi su = -1 then 0 else brkF G lo hi su
theorem tn8 (i e : Nat) : Int.toNat (8 * (i : Int) + (e : Int)) = 8 * i + e := by omega
section MDM
variable {X : xX} {c : xCx} {I : xIn} {i : Nat} {G : Gr} {lo hi su : Nat → Int}
end MDM
section MDN
variable {X : xX} {c : xCx} {I : xIn} {T : NT} {a e : Int}
theorem brkZ_bd {G : Gr} (hn : G.n ≤ 8) (lo hi su : Nat → Int) : 0 ≤ brkZ G lo hi su ∧ brkZ G lo hi su ≤ 256 := by
  have := brkF_bd hn lo hi su
  unfold brkZ
  split <;> omega
theorem brkZ_0 (G : Gr) (lo hi su : Nat → Int) : brkZ G lo hi su = 0 ↔ brkF G lo hi su = -1 := by
  have := brkF_ne0 G lo hi su
  unfold brkZ
  split <;> omega
theorem gale {G : Gr} {lo hi su : Nat → Int} (hG : GrOK G) (hb : ∀ e, e < G.m → 0 ≤ lo e ∧ lo e ≤ hi e) (hs : ∀ x, x < G.n → -99 ≤ su x ∧ su x ≤ 99) (h : brkF G lo hi su = -1) : ∃ f, FS G lo hi su f := by
  have hno : ∀ C, C < 2 ^ G.n → brkP G lo hi su C = false := by
    unfold brkF at h
    rcases ff_cases (brkP G lo hi su) (2 ^ G.n) with ⟨-, q⟩ | ⟨S, q1, q2, -, -⟩
    · exact q
    · rw [q2] at h; omega
  have hH := hu_in (su := su) hG (Nat.le_refl _)
  have hmm := hu_n (G := G) (su := su) G.n
  have hbnd : ∀ e, e < (huG G su G.n).m → huB G su lo G.n e ≤ huB G su hi G.n e ∧ 0 ≤ huB G su hi G.n e := fun e he => by
    by_cases hem : e < G.m
    · rw [huB_lo hem, huB_lo hem]
      have := hb e hem; omega
    · have q1 := huB_bd (lo := hi) hs (show G.m ≤ e by omega) G.n (Nat.le_refl _) he
      have q2 := huB_eq (su := su) (lo := lo) (hi := hi) (show G.m ≤ e by omega) G.n he
      omega
  obtain ⟨f, hf⟩ := hoff (l := huB G su lo G.n) (h := huB G su hi G.n) hH.1 hbnd (fun S hS => by
    refine Classical.byContradiction fun hlt => ?_
    rw [hmm.1] at hS
    obtain ⟨C, c1, c2⟩ := brk_of (su := su) (lo := lo) (hi := hi) hG hS (by omega)
    rw [hno C c1] at c2; cases c2) (Nat.le_refl _)
  refine ⟨f, hub_to (LO := huB G su lo G.n) (HI := huB G su hi G.n) hG.in ⟨fun e he => ⟨huB_lo he _, huB_lo he _⟩, fun e e1 e2 => ⟨rfl, (huB_eq (su := su) (lo := lo) (hi := hi) e1 G.n e2).symm⟩⟩ ⟨fun e he => ?_, hf.2⟩⟩
  have := hf.1 e he
  unfold mixk at this
  rw [if_pos he] at this
  exact this
theorem lxC_bd {G : Gr} {lo hi b f : Nat → Int} (hG : GrIn G) (h : FS G lo hi b f) (hb : ∀ e, e < G.m → -100 ≤ lo e ∧ hi e ≤ 100) {k : Nat} (hk : k ≤ G.m) : ∀ e, e < G.m → (-100 ≤ (lxC G lo hi b k).1 e ∧ (lxC G lo hi b k).1 e ≤ 100) ∧ (-100 ≤ (lxC G lo hi b k).2 e ∧ (lxC G lo hi b k).2 e ≤ 100) := fun e he => by
  obtain ⟨h1, g, h2⟩ := lxC_ok hG h hk
  have q1 := h1 e he
  have q2 := h2.1 e he
  have q3 := hb e he
  omega
end MDN
