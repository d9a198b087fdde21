/-! why all is sound: sets that are closed, the tree, tight cuts -/
theorem andF_mem {q : Nat → Bool} {N : Nat} (hN : N ≤ 256) (hcl : ∀ A B, A < N → B < N → q A = true → q B = true → q (A &&& B) = true) {n : Nat} (hn : n ≤ N) (h : ∃ S, S < n ∧ q S = true) : q (andF q n) = true ∧ andF q n < N := by
  induction n with
  | zero => obtain ⟨S, hS, -⟩ := h; omega
  | succ n ih =>
    rw [andF]
    cases hq : q n
    · rw [if_neg (by decide)]
      obtain ⟨S, h2, h3⟩ := h
      refine ih (by omega) ⟨S, ?_, h3⟩
      by_cases hSn : S = n
      · rw [hSn, hq] at h3; cases h3
      · omega
    · rw [if_pos rfl]
      by_cases h2 : ∃ S, S < n ∧ q S = true
      · have h3 := ih (by omega) h2
        exact ⟨hcl _ _ h3.2 (by omega) h3.1 hq, Nat.lt_of_le_of_lt Nat.and_le_right (by omega)⟩
      · have hno : ∀ S, S < n → q S = false := fun S hS => by
          cases h9 : q S
          · rfl
          · exact absurd ⟨S, hS, h9⟩ h2
        rw [andF_none hno, and_255 (by omega)]
        exact ⟨hq, by omega⟩
theorem orF_mem {q : Nat → Bool} {k : Nat} (hcl : ∀ A B, A < 2 ^ k → B < 2 ^ k → q A = true → q B = true → q (A ||| B) = true) {n : Nat} (hn : n ≤ 2 ^ k) (h : ∃ S, S < n ∧ q S = true) : q (orF q n) = true ∧ orF q n < 2 ^ k ∧ ∀ S, S < n → q S = true → ∀ i, S.testBit i = true → (orF q n).testBit i = true := by
  induction n with
  | zero => obtain ⟨S, hS, -⟩ := h; omega
  | succ n ih =>
    rw [orF]
    cases hq : q n
    · rw [if_neg (by decide)]
      obtain ⟨S, h2, h3⟩ := h
      have := ih (by omega) ⟨S, by
        by_cases hSn : S = n
        · rw [hSn, hq] at h3; cases h3
        · omega, h3⟩
      refine ⟨this.1, this.2.1, fun S hS hqS => ?_⟩
      by_cases hSn : S = n
      · rw [hSn, hq] at hqS; cases hqS
      · exact this.2.2 S (by omega) hqS
    · rw [if_pos rfl]
      by_cases h2 : ∃ S, S < n ∧ q S = true
      · have h3 := ih (by omega) h2
        refine ⟨hcl _ _ h3.2.1 (by omega) h3.1 hq, Nat.or_lt_two_pow h3.2.1 (by omega), fun S hS hqS i hi => ?_⟩
        rw [Nat.testBit_or]
        by_cases hSn : S = n
        · rw [← hSn, hi, Bool.or_true]
        · rw [h3.2.2 S (by omega) hqS i hi]; rfl
      · have hno : ∀ S, S < n → q S = false := fun S hS => by
          cases h9 : q S
          · rfl
          · exact absurd ⟨S, hS, h9⟩ h2
        rw [orF_none hno, Nat.zero_or]
        refine ⟨hq, by omega, fun S hS hqS i hi => ?_⟩
        by_cases hSn : S = n
        · rw [← hSn]; exact hi
        · rw [hno S (by omega)] at hqS; cases hqS
/-! the tree: each corner's parent is one of those before it from which it is hardest to part -/
def SMD (f : Nat → Int) (n : Nat) : Prop := (∀ S, 0 ≤ f S ∧ f S ≤ 3200) ∧ (∀ A B, f (A &&& B) + f (A ||| B) ≤ f A + f B) ∧ (∀ A B, f (nd A B) + f (nd B A) ≤ f A + f B) ∧ ∀ S, S < 2 ^ n → f (2 ^ n - 1 - S) = f S
theorem bth_smd {G : Gr} (hG : GrOK G) {hi : Nat → Int} (hb : ∀ e, e < G.m → 0 ≤ hi e ∧ hi e ≤ 99) : SMD (bth G hi) G.n := by
  have hx : ∀ S, bth G hi S = sumE G.m (fun e => if (S.testBit (G.u e) == S.testBit (G.v e)) then 0 else hi e) := fun S => by
    unfold bth sOut sIn
    rw [← sumE_add]
    refine sumE_cong fun e _ => ?_
    unfold lvs ens
    cases S.testBit (G.u e) <;> cases S.testBit (G.v e) <;> simp
  refine ⟨fun S => bth_bd hG.2.2.1 hb S, fun A B => ?_, fun A B => ?_, fun S hS => bth_comp hG.in hi hS⟩
  · rw [hx, hx, hx, hx, ← sumE_add, ← sumE_add]
    refine sumE_le fun e he => ?_
    have := hb e he
    rw [Nat.testBit_and, Nat.testBit_and, Nat.testBit_or, Nat.testBit_or]
    cases A.testBit (G.u e) <;> cases A.testBit (G.v e) <;> cases B.testBit (G.u e) <;> cases B.testBit (G.v e) <;> simp <;> omega
  · rw [hx, hx, hx, hx, ← sumE_add, ← sumE_add]
    refine sumE_le fun e he => ?_
    have := hb e he
    rw [nd_bit, nd_bit, nd_bit, nd_bit]
    cases A.testBit (G.u e) <;> cases A.testBit (G.v e) <;> cases B.testBit (G.u e) <;> cases B.testBit (G.v e) <;> simp <;> omega
section TRS
variable {f : Nat → Int} {n : Nat}
theorem btw_i {s t S : Nat} : btw s t S = true ↔ S.testBit s = true ∧ S.testBit t = false := by
  unfold btw
  cases S.testBit s <;> cases S.testBit t <;> simp
theorem lam_le (h : SMD f n) {a b S : Nat} (ha : a < n) (hab : a ≠ b) (hS : S < 2 ^ n) (h1 : S.testBit a = true) (h2 : S.testBit b = false) : lbF f n a b ≤ f S := (lbF_ok (fun S => (h.1 S).2) ha hab).2 S hS (btw_i.2 ⟨h1, h2⟩)
theorem lam_at (h : SMD f n) {a b : Nat} (ha : a < n) (hab : a ≠ b) : ∃ S, S < 2 ^ n ∧ S.testBit a = true ∧ S.testBit b = false ∧ f S = lbF f n a b := by
  obtain ⟨⟨S, s1, s2, s3⟩, -⟩ := lbF_ok (fun S => (h.1 S).2) ha hab
  exact ⟨S, s1, (btw_i.1 s2).1, (btw_i.1 s2).2, s3⟩
theorem lam_sym (h : SMD f n) {a b : Nat} (ha : a < n) (hb : b < n) (hab : a ≠ b) : lbF f n a b = lbF f n b a := by
  have key : ∀ a b, a < n → b < n → a ≠ b → lbF f n a b ≤ lbF f n b a := by
    intro a b ha hb hab
    obtain ⟨S, s1, s2, s3, s4⟩ := lam_at h hb (Ne.symm hab)
    rw [← s4, ← h.2.2.2 S s1]
    refine lam_le h ha hab (by have := Nat.two_pow_pos n; omega) ?_ ?_
    · rw [tb_comp s1 ha, s3]; rfl
    · rw [tb_comp s1 hb, s2]; rfl
  exact Int.le_antisymm (key a b ha hb hab) (key b a hb ha (Ne.symm hab))
theorem lam_ult (h : SMD f n) {a b x : Nat} (ha : a < n) (hb : b < n) (hx : x < n) (hab : a ≠ b) (hax : a ≠ x) (hxb : x ≠ b) : lbF f n a x ≤ lbF f n a b ∨ lbF f n x b ≤ lbF f n a b := by
  obtain ⟨S, s1, s2, s3, s4⟩ := lam_at h ha hab
  rw [← s4]
  cases hc : S.testBit x
  · exact Or.inl (lam_le h ha hax s1 s2 hc)
  · exact Or.inr (lam_le h hx hxb s1 hc s3)
/-- a cut that parts two corners, either way round -/
theorem lam_part (h : SMD f n) {a b S : Nat} (ha : a < n) (hb : b < n) (hab : a ≠ b) (hS : S < 2 ^ n) (hp : S.testBit a ≠ S.testBit b) : lbF f n a b ≤ f S := by
  cases h1 : S.testBit a
  · rw [lam_sym h ha hb hab]
    exact lam_le h hb (Ne.symm hab) hS (by rw [h1] at hp; cases h2 : S.testBit b <;> simp_all) h1
  · exact lam_le h ha hab hS h1 (by rw [h1] at hp; cases h2 : S.testBit b <;> simp_all)
theorem sd_ok (h : SMD f n) (hn : n ≤ 8) {a b : Nat} (ha : a < n) (hab : a ≠ b) : sdF f n a b < 2 ^ n ∧ (sdF f n a b).testBit a = true ∧ (sdF f n a b).testBit b = false ∧ f (sdF f n a b) = lbF f n a b := by
  have hq : ∀ S, sdQ f n a b S = true ↔ (S.testBit a = true ∧ S.testBit b = false) ∧ f S = lbF f n a b := fun S => by
    unfold sdQ eqQ
    rw [Bool.and_eq_true, decide_eq_true_iff, btw_i]
  obtain ⟨S, s1, s2, s3, s4⟩ := lam_at h ha hab
  have := andF_mem (q := sdQ f n a b) (pow2_le8 hn) (fun A B hA hB h1 h2 => by
    rw [hq] at h1 h2 ⊢
    have hsub := h.2.1 A B
    have ha1 : (A &&& B).testBit a = true := by rw [Nat.testBit_and, h1.1.1, h2.1.1]; rfl
    have hb1 : (A &&& B).testBit b = false := by rw [Nat.testBit_and, h1.1.2]; rfl
    have ha2 : (A ||| B).testBit a = true := by rw [Nat.testBit_or, h1.1.1]; rfl
    have hb2 : (A ||| B).testBit b = false := by rw [Nat.testBit_or, h1.1.2, h2.1.2]; rfl
    have l1 := lam_le h ha hab (Nat.lt_of_le_of_lt Nat.and_le_right hB) ha1 hb1
    have l2 := lam_le h ha hab (Nat.or_lt_two_pow hA hB) ha2 hb2
    exact ⟨⟨ha1, hb1⟩, by omega⟩) (Nat.le_refl _) ⟨S, s1, (hq S).2 ⟨⟨s2, s3⟩, s4⟩⟩
  have h9 := (hq _).1 this.1
  exact ⟨this.2, h9.1.1, h9.1.2, h9.2⟩
theorem grP_j (f : Nat → Int) (n j x : Nat) : grP f n j x ≤ j := by
  induction j with
  | zero => exact Nat.le_refl _
  | succ j ih =>
    rw [grP_s]
    split
    · exact Nat.le_refl _
    · omega
theorem grP_join (h : SMD f n) (hn : n ≤ 8) (j : Nat) : ∀ x y, j < x → x < n → j < y → y < n → x ≠ y → (∀ z, z ≤ j → lbF f n x z < lbF f n x y) → grP f n j x = grP f n j y := by
  induction j with
  | zero => intros; rfl
  | succ j ih =>
    intro x y hjx hx hjy hy hxy hz
    have e := ih x y (by omega) hx (by omega) hy hxy fun z hz9 => hz z (by omega)
    have hzj := hz (j + 1) (Nat.le_refl _)
    rw [grP_s, grP_s, ← e]
    by_cases hq : grP f n j x = grP f n j (j + 1)
    rotate_left
    · rw [if_neg (fun w => hq w.2.1), if_neg (fun w => hq w.2.1)]
    have hp : grP f n j (j + 1) < j + 1 := grP_lt f n j (by omega)
    generalize grP f n j (j + 1) = p at *
    obtain ⟨s1, s2, s3, s4⟩ := sd_ok h hn (a := j + 1) (b := p) (by omega) (by omega)
    generalize sdF f n (j + 1) p = D at *
    -- both go, or both stay
    have hsame : D.testBit x = D.testBit y := by
      cases hx9 : D.testBit x <;> cases hy9 : D.testBit y
      · rfl
      · exfalso
        have hpart := lam_part h hx hy hxy s1 (by rw [hx9, hy9]; decide)
        have hux := lam_sym h hx hy hxy
        have hly : lbF f n y (j + 1) < lbF f n x y := by
          rcases lam_ult h (a := x) (b := j + 1) (x := y) hx (by omega) hy (by omega) hxy (by omega) with q | q
          · omega
          · omega
        obtain ⟨A, a1, a2, a3, a4⟩ := lam_at h (a := y) (b := j + 1) hy (by omega)
        have ax : A.testBit x = true := by
          cases hc : A.testBit x
          · have := lam_part h hx hy hxy a1 (by rw [hc, a2]; decide); omega
          · rfl
        have ap9 : A.testBit p = false := by
          cases hc : A.testBit p
          · rfl
          · have := lam_part h (a := j + 1) (b := p) (by omega) (by omega) (by omega) a1 (by rw [a3, hc]; decide); omega
        have hpm := h.2.2.1 D A
        have l1 := lam_le h (a := j + 1) (b := p) (S := nd D A) (by omega) (by omega) (Nat.lt_of_le_of_lt (nd_le _ _) s1) (by rw [nd_bit, s2, a3]; rfl) (by rw [nd_bit, s3]; rfl)
        have l2 := lam_part h (a := x) (b := y) (S := nd A D) hx hy hxy (Nat.lt_of_le_of_lt (nd_le _ _) a1) (by rw [nd_bit, nd_bit, ax, hx9, a2, hy9]; decide)
        omega
      · exfalso
        have hpart := lam_part h hx hy hxy s1 (by rw [hx9, hy9]; decide)
        obtain ⟨A, a1, a2, a3, a4⟩ := lam_at h (a := x) (b := j + 1) hx (by omega)
        have ay : A.testBit y = true := by
          cases hc : A.testBit y
          · have := lam_part h hx hy hxy a1 (by rw [hc, a2]; decide); omega
          · rfl
        have ap9 : A.testBit p = false := by
          cases hc : A.testBit p
          · rfl
          · have := lam_part h (a := j + 1) (b := p) (by omega) (by omega) (by omega) a1 (by rw [a3, hc]; decide); omega
        have hpm := h.2.2.1 D A
        have l1 := lam_le h (a := j + 1) (b := p) (S := nd D A) (by omega) (by omega) (Nat.lt_of_le_of_lt (nd_le _ _) s1) (by rw [nd_bit, s2, a3]; rfl) (by rw [nd_bit, s3]; rfl)
        have l2 := lam_part h (a := x) (b := y) (S := nd A D) hx hy hxy (Nat.lt_of_le_of_lt (nd_le _ _) a1) (by rw [nd_bit, nd_bit, ay, hy9, a2, hx9]; decide)
        omega
      · rfl
    rw [hsame]
    by_cases hc : D.testBit y = true
    · rw [if_pos ⟨by omega, hq, hc⟩, if_pos ⟨by omega, hq, hc⟩]
    · rw [if_neg (fun w => hc w.2.2), if_neg (fun w => hc w.2.2)]
theorem grP_max (h : SMD f n) (hn : n ≤ 8) (j : Nat) : ∀ x, j < x → x < n → ∀ y, y ≤ j → lbF f n x y ≤ lbF f n x (grP f n j x) := by
  induction j with
  | zero =>
    intro x hx hxn y hy
    rw [show y = 0 by omega]
    exact Int.le_refl _
  | succ j ih =>
    intro x hjx hx y hy
    have i1 := ih x (by omega) hx
    have hp : grP f n j (j + 1) < j + 1 := grP_lt f n j (by omega)
    have hpx : grP f n j x ≤ j := grP_j f n j x
    obtain ⟨s1, s2, s3, s4⟩ := sd_ok h hn (a := j + 1) (b := grP f n j (j + 1)) (by omega) (by omega)
    rw [grP_s]
    by_cases hc : j + 1 < x ∧ grP f n j x = grP f n j (j + 1) ∧ (sdF f n (j + 1) (grP f n j (j + 1))).testBit x = true
    · rw [if_pos hc]
      obtain ⟨-, hq, hD⟩ := hc
      have hpart := lam_part h (a := x) (b := grP f n j (j + 1)) hx (by omega) (by omega) s1 (by rw [hD, s3]; decide)
      have hge : lbF f n x (grP f n j x) ≤ lbF f n x (j + 1) := by
        rw [hq]
        rcases lam_ult h (a := x) (b := j + 1) (x := grP f n j (j + 1)) hx (by omega) (by omega) (by omega) (by omega) (by omega) with q | q
        · exact q
        · rw [lam_sym h (a := grP f n j (j + 1)) (b := j + 1) (by omega) (by omega) (by omega)] at q
          omega
      by_cases hyj : y = j + 1
      · rw [hyj]; exact Int.le_refl _
      · have := i1 y (by omega); omega
    · rw [if_neg hc]
      by_cases hyj : y = j + 1
      · rw [hyj]
        by_cases hle : lbF f n x (j + 1) ≤ lbF f n x (grP f n j x)
        · exact hle
        exfalso
        have hj := grP_join h hn j x (j + 1) (by omega) hx (by omega) (by omega) (by omega) fun z hz => by have := i1 z hz; omega
        have hD : (sdF f n (j + 1) (grP f n j (j + 1))).testBit x = false := by
          cases hD : (sdF f n (j + 1) (grP f n j (j + 1))).testBit x
          · rfl
          · exact absurd ⟨hjx, hj, hD⟩ hc
        have hpart := lam_part h (a := j + 1) (b := x) (by omega) hx (by omega) s1 (by rw [s2, hD]; decide)
        rw [lam_sym h (a := j + 1) (b := x) (by omega) hx (by omega)] at hpart
        rcases lam_ult h (a := x) (b := grP f n j (j + 1)) (x := j + 1) hx (by omega) (by omega) (by omega) (by omega) (by omega) with q | q
        · rw [← hj] at q; omega
        · rw [s4] at hpart; rw [← hj] at q hpart; omega
      · exact i1 y (by omega)
theorem par_at (f : Nat → Int) {n x : Nat} (hx : 1 ≤ x) (j : Nat) (hj : x - 1 ≤ j) : grP f n j x = grP f n (x - 1) x := by
  induction j with
  | zero => rw [show x - 1 = 0 by omega]
  | succ j ih =>
    by_cases hc : x - 1 = j + 1
    · rw [← hc]
    · rw [grP_s, if_neg (fun w => by omega)]; exact ih (by omega)
/-- one step up the tree -/
theorem way_up (h : SMD f n) (hn : n ≤ 8) {a b : Nat} (ha : a < n) (hb : b < a) : parF f n a < a ∧ (parF f n a = b → lbF f n a b = wgF f n a) ∧ (parF f n a ≠ b → lbF f n a b = min (wgF f n a) (lbF f n (parF f n a) b)) := by
  have e : parF f n a = grP f n (a - 1) a := par_at f (by omega) (n - 1) (by omega)
  have hlt : grP f n (a - 1) a < a := grP_lt f n (a - 1) (by omega)
  have hmax := grP_max h hn (a - 1) a (by omega) ha b (by omega)
  unfold wgF
  rw [e]
  generalize grP f n (a - 1) a = p at *
  refine ⟨hlt, fun q => by rw [q], fun q => ?_⟩
  have u1 := lam_ult h (a := a) (b := b) (x := p) ha (by omega) (by omega) (by omega) (by omega) q
  have u2 := lam_ult h (a := p) (b := b) (x := a) (by omega) (by omega) ha q (by omega) (by omega)
  rw [lam_sym h (a := p) (b := a) (by omega) ha (by omega)] at u2
  omega
end TRS
/-! cuts that are tight -/
section TCT
variable {G : Gr} {lo hi f : Nat → Int} {s t : Nat} {a : Int}
def tgtS (G : Gr) (lo hi f : Nat → Int) (S : Nat) : Prop := ∀ e, e < G.m → (lvs G S e = true → f e = hi e) ∧ (ens G S e = true → f e = lo e)
theorem cut_tgt (hG : GrIn G) (hs : s < G.n) (ht : t < G.n) (hst : s ≠ t) (hf : FS G lo hi (isB s t a) f) {S : Nat} (hS : btw s t S = true) : cutV G lo hi S = a ↔ tgtS G lo hi f S := by
  have h1 := hf.cut hG S
  have hb : bS G.n (isB s t a) S = a := by
    rw [bS_flow hs ht hst]
    unfold beyondF
    rw [if_neg (by rw [btw_not hS]; decide), if_pos hS]
    omega
  rw [hb] at h1
  have h2 : cutV G lo hi S - a = sumE G.m (fun e => (if lvs G S e then hi e - f e else 0) + (if ens G S e then f e - lo e else 0)) := by
    have e1 : sumE G.m (fun e => (if lvs G S e then hi e - f e else 0) + (if ens G S e then f e - lo e else 0)) = (sOut G hi S - sOut G f S) + (sIn G f S - sIn G lo S) := by
      unfold sOut sIn
      rw [sumE_add, ← sumE_sub, ← sumE_sub]
      congr 1
      · refine sumE_cong fun e _ => ?_
        split
        · rfl
        · rfl
      · refine sumE_cong fun e _ => ?_
        split
        · rfl
        · rfl
    rw [e1]
    unfold cutV
    omega
  have hnn : ∀ e, e < G.m → 0 ≤ (if lvs G S e then hi e - f e else 0) + (if ens G S e then f e - lo e else 0) := fun e he => by
    have := hf.1 e he
    split <;> split <;> omega
  constructor
  · intro h e he
    by_cases hc : (if lvs G S e then hi e - f e else 0) + (if ens G S e then f e - lo e else 0) = 0
    · have := hf.1 e he
      refine ⟨fun q => ?_, fun q => ?_⟩
      · rw [if_pos q] at hc
        split at hc <;> omega
      · rw [if_pos q] at hc
        split at hc <;> omega
    · exfalso
      have := sumE_lt (n := G.m) (k := e) (f := fun _ => 0) (g := fun e => (if lvs G S e then hi e - f e else 0) + (if ens G S e then f e - lo e else 0)) he hnn (by have := hnn e he; show 0 < (if lvs G S e then hi e - f e else 0) + (if ens G S e then f e - lo e else 0); omega)
      rw [sumE_0 (f := fun _ => 0) fun _ _ => rfl] at this
      omega
  · intro h
    have : sumE G.m (fun e => (if lvs G S e then hi e - f e else 0) + (if ens G S e then f e - lo e else 0)) = 0 := sumE_0 fun e he => by
      have := h e he
      cases h1 : lvs G S e <;> cases h2 : ens G S e <;> simp [h1, h2] at this ⊢ <;> omega
    omega
theorem tgt_and {A B : Nat} (hA : tgtS G lo hi f A) (hB : tgtS G lo hi f B) : tgtS G lo hi f (A &&& B) ∧ tgtS G lo hi f (A ||| B) := by
  refine ⟨fun e he => ?_, fun e he => ?_⟩
  · have a := hA e he
    have b := hB e he
    revert a b
    unfold lvs ens
    rw [Nat.testBit_and, Nat.testBit_and]
    cases A.testBit (G.u e) <;> cases A.testBit (G.v e) <;> cases B.testBit (G.u e) <;> cases B.testBit (G.v e) <;> simp <;> intros <;> assumption
  · have a := hA e he
    have b := hB e he
    revert a b
    unfold lvs ens
    rw [Nat.testBit_or, Nat.testBit_or]
    cases A.testBit (G.u e) <;> cases A.testBit (G.v e) <;> cases B.testBit (G.u e) <;> cases B.testBit (G.v e) <;> simp <;> intros <;> assumption
/-- the least and the greatest of the least cuts are least cuts -/
theorem near_far (hG : GrOK G) (hs : s < G.n) (ht : t < G.n) (hst : s ≠ t) (hf : FS G lo hi (isB s t a) f) (hex : ∃ S, S < 2 ^ G.n ∧ btw s t S = true ∧ cutV G lo hi S = a) : (cutV G lo hi (andF (eqQ (btw s t) (cutV G lo hi) a) (2 ^ G.n)) = a ∧ tgtS G lo hi f (andF (eqQ (btw s t) (cutV G lo hi) a) (2 ^ G.n))) ∧ cutV G lo hi (orF (eqQ (btw s t) (cutV G lo hi) a) (2 ^ G.n)) = a ∧ tgtS G lo hi f (orF (eqQ (btw s t) (cutV G lo hi) a) (2 ^ G.n)) := by
  have hq : ∀ S, eqQ (btw s t) (cutV G lo hi) a S = true ↔ btw s t S = true ∧ cutV G lo hi S = a := fun S => by
    unfold eqQ
    rw [Bool.and_eq_true, decide_eq_true_iff]
  obtain ⟨S, s1, s2, s3⟩ := hex
  have b1 : ∀ A B, btw s t A = true → btw s t B = true → btw s t (A &&& B) = true ∧ btw s t (A ||| B) = true := fun A B hA hB => by
    rw [btw_i] at hA hB
    rw [btw_i, btw_i, Nat.testBit_and, Nat.testBit_and, Nat.testBit_or, Nat.testBit_or, hA.1, hA.2, hB.1, hB.2]
    exact ⟨⟨rfl, rfl⟩, rfl, rfl⟩
  have h1 := andF_mem (q := eqQ (btw s t) (cutV G lo hi) a) (pow2_le8 hG.2.1) (fun A B _ _ hA hB => by
    rw [hq] at hA hB ⊢
    have hb := (b1 A B hA.1 hB.1).1
    exact ⟨hb, (cut_tgt hG.in hs ht hst hf hb).2 (tgt_and ((cut_tgt hG.in hs ht hst hf hA.1).1 hA.2) ((cut_tgt hG.in hs ht hst hf hB.1).1 hB.2)).1⟩) (Nat.le_refl _) ⟨S, s1, (hq S).2 ⟨s2, s3⟩⟩
  have h2 := orF_mem (q := eqQ (btw s t) (cutV G lo hi) a) (k := G.n) (fun A B _ _ hA hB => by
    rw [hq] at hA hB ⊢
    have hb := (b1 A B hA.1 hB.1).2
    exact ⟨hb, (cut_tgt hG.in hs ht hst hf hb).2 (tgt_and ((cut_tgt hG.in hs ht hst hf hA.1).1 hA.2) ((cut_tgt hG.in hs ht hst hf hB.1).1 hB.2)).2⟩) (Nat.le_refl _) ⟨S, s1, (hq S).2 ⟨s2, s3⟩⟩
  have g1 := (hq _).1 h1.1
  have g2 := (hq _).1 h2.1
  exact ⟨⟨g1.2, (cut_tgt hG.in hs ht hst hf g1.1).1 g1.2⟩, g2.2, (cut_tgt hG.in hs ht hst hf g2.1).1 g2.2⟩
theorem amount_at {G : Gr} {lo hi : Nat → Int} {s t : Nat} (hG : GrOK G) (hb : ∀ e, e < G.m → (-100 ≤ lo e ∧ lo e ≤ 100) ∧ (-100 ≤ hi e ∧ hi e ≤ 100)) (h : amountF G lo hi s t ≠ NONE9) : ∃ S, S < 2 ^ G.n ∧ btw s t S = true ∧ cutV G lo hi S = amountF G lo hi s t := by
  have h1 := amountF_mn h
  have hN : ∀ S, S < 2 ^ G.n → cutV G lo hi S ≠ NONE9 := fun S _ => by
    have := cutV_bd hG.2.2.1 hb S
    unfold NONE9
    omega
  rcases mn_spec (none := NONE9) (p := btw s t) (f := cutV G lo hi) (n := 2 ^ G.n) hN with ⟨a, -⟩ | ⟨-, ⟨S, b1, b2, b3⟩, -⟩
  · rw [h1] at h; exact absurd a h
  · exact ⟨S, b1, b2, by rw [h1, b3]⟩
end TCT
