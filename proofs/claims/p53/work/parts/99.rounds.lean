/-! rounds: the way of fewest edges and least signs is one way -/
theorem LVs_ex {G : Gr} {lo hi f : Nat → Int} {t : Nat} (hG : GrIn G) (k : Nat) (hk : k < 1000) : ∃ L, LVs G lo hi f t k L := by
  have hF : FAR9 = 1000000000 := rfl
  induction k with
  | zero =>
    refine ⟨fun x => if x = t then 0 else FAR9, ⟨fun x hx => ?_, fun x hx => ?_, fun x hx h1 h2 => ?_⟩, fun e he => ⟨fun _ h => ?_, fun _ h => ?_⟩⟩
    · show (if x = t then 0 else FAR9) = 0 ↔ x = t
      by_cases h : x = t
      · rw [if_pos h]; exact ⟨fun _ => h, fun _ => rfl⟩
      · rw [if_neg h]; exact ⟨fun h2 => by omega, fun h2 => absurd h2 h⟩
    · show (if x = t then 0 else FAR9) = FAR9 ∨ _
      by_cases h : x = t
      · right
        show 0 ≤ (if x = t then 0 else FAR9) ∧ (if x = t then 0 else FAR9) ≤ _
        rw [if_pos h]; exact ⟨Int.le_refl _, Int.le_refl _⟩
      · left; rw [if_neg h]
    · exfalso
      have h1 : (if x = t then 0 else FAR9) ≠ FAR9 := h1
      have h2 : (if x = t then 0 else FAR9) ≠ 0 := h2
      by_cases h : x = t
      · rw [if_pos h] at h2; exact h2 rfl
      · rw [if_neg h] at h1; exact h1 rfl
    · exfalso
      have h : (if G.v e = t then 0 else FAR9) < ((0 : Nat) : Int) := h
      split at h <;> omega
    · exfalso
      have h : (if G.u e = t then 0 else FAR9) < ((0 : Nat) : Int) := h
      split at h <;> omega
  | succ k ih =>
    obtain ⟨L, h1, h2⟩ := ih (by omega)
    have hex : ∀ x, ∃ z : Int, ((L x = FAR9 ∧ ∃ y, y < G.n ∧ RS G lo hi f x y ∧ L y = (k : Int)) → z = (k : Int) + 1) ∧ (¬ (L x = FAR9 ∧ ∃ y, y < G.n ∧ RS G lo hi f x y ∧ L y = (k : Int)) → z = L x) := fun x => by
      by_cases h : L x = FAR9 ∧ ∃ y, y < G.n ∧ RS G lo hi f x y ∧ L y = (k : Int)
      · exact ⟨(k : Int) + 1, fun _ => rfl, fun h9 => absurd h h9⟩
      · exact ⟨L x, fun h9 => absurd h9 h, fun _ => rfl⟩
    obtain ⟨M, hM⟩ := Classical.axiomOfChoice hex
    have old : ∀ x, L x ≠ FAR9 → M x = L x := fun x h => (hM x).2 fun h9 => h h9.1
    have cs : ∀ x, M x = L x ∨ (L x = FAR9 ∧ M x = (k : Int) + 1 ∧ ∃ y, y < G.n ∧ RS G lo hi f x y ∧ L y = (k : Int)) := fun x => by
      by_cases h : L x = FAR9 ∧ ∃ y, y < G.n ∧ RS G lo hi f x y ∧ L y = (k : Int)
      · exact Or.inr ⟨h.1, (hM x).1 h, h.2⟩
      · exact Or.inl ((hM x).2 h)
    have near : ∀ x y, y < G.n → x < G.n → RS G lo hi f x y → M y < ((k + 1 : Nat) : Int) → (L y < (k : Int) → L x ≤ L y + 1) → M x ≤ M y + 1 := fun x y hy hx hr hlt hc => by
      have hyl : M y = L y := by
        rcases cs y with h | ⟨-, h, -⟩
        · exact h
        · omega
      have by2 := h1.2.1 y hy
      by_cases hk9 : L y < (k : Int)
      · have := hc hk9
        rw [hyl, old x (by omega)]; exact this
      · have hyk : L y = (k : Int) := by omega
        by_cases hxF : L x = FAR9
        · rw [(hM x).1 ⟨hxF, y, hy, hr, hyk⟩]; omega
        · have := (h1.2.1 x hx).resolve_left hxF
          rw [old x hxF]; omega
    refine ⟨M, ⟨fun x hx => ?_, fun x hx => ?_, fun x hx n1 n2 => ?_⟩, fun e he => ⟨fun hlt h => ?_, fun hlt h => ?_⟩⟩
    · rcases cs x with h | ⟨h3, h4, -⟩
      · rw [h]; exact h1.1 x hx
      · rw [h4]
        refine ⟨fun h5 => by omega, fun h5 => ?_⟩
        have := (h1.1 x hx).mpr h5
        omega
    · rcases cs x with h | ⟨h3, h4, -⟩
      · rw [h]
        rcases h1.2.1 x hx with h5 | h5
        · exact Or.inl h5
        · exact Or.inr ⟨h5.1, by omega⟩
      · rw [h4]; exact Or.inr ⟨by omega, by omega⟩
    · rcases cs x with h | ⟨h3, h4, y, y1, y2, y3⟩
      · rw [h] at n1 n2
        obtain ⟨y, y1, y2, y3⟩ := h1.2.2 x hx n1 n2
        have := (h1.2.1 x hx).resolve_left n1
        exact ⟨y, y1, y2, by rw [old y (by omega), y3, h]⟩
      · exact ⟨y, y1, y2, by rw [old y (by omega), y3, h4]; omega⟩
    · exact near _ _ (hG e he).2 (hG e he).1 ⟨e, he, Or.inl ⟨rfl, rfl, hlt⟩⟩ h fun h9 => (h2 e he).1 hlt h9
    · exact near _ _ (hG e he).1 (hG e he).2 ⟨e, he, Or.inr ⟨rfl, rfl, hlt⟩⟩ h fun h9 => (h2 e he).2 hlt h9
theorem RS_lt {G : Gr} {lo hi f : Nat → Int} {x y : Nat} (hG : GrIn G) (h : RS G lo hi f x y) : x < G.n ∧ y < G.n := by
  obtain ⟨e, he, ⟨rfl, rfl, -⟩ | ⟨rfl, rfl, -⟩⟩ := h
  · exact hG e he
  · exact ⟨(hG e he).2, (hG e he).1⟩
theorem LVs.near {G : Gr} {lo hi f L : Nat → Int} {t : Nat} {k : Int} (h : LVs G lo hi f t k L) {x y : Nat} (hr : RS G lo hi f x y) (hy : L y < k) : L x ≤ L y + 1 := by
  obtain ⟨e, he, ⟨rfl, rfl, hlt⟩ | ⟨rfl, rfl, hlt⟩⟩ := hr
  · exact (h.2 e he).1 hlt hy
  · exact (h.2 e he).2 hlt hy
theorem LVs.uniq {G : Gr} {lo hi f L M : Nat → Int} {t k k9 : Nat} (h : LVs G lo hi f t k L) (h9 : LVs G lo hi f t k9 M) (hk : k < 1000) (hk9 : k9 < 1000) : ∀ j : Nat, j ≤ k → j ≤ k9 → ∀ x, x < G.n → (L x = (j : Int) ↔ M x = (j : Int)) := by
  have hF : FAR9 = 1000000000 := rfl
  intro j
  induction j using Nat.strongRecOn with
  | ind j ih =>
    intro j1 j2 x hx
    by_cases hj0 : j = 0
    · subst hj0
      show L x = 0 ↔ M x = 0
      rw [h.1.1 x hx, h9.1.1 x hx]
    · have one : ∀ (A B : Nat → Int) (ka kb : Nat), LVs G lo hi f t ka A → LVs G lo hi f t kb B → j ≤ ka → j ≤ kb → ka < 1000 → (∀ i, i < j → ∀ x, x < G.n → (A x = (i : Int) ↔ B x = (i : Int))) → A x = (j : Int) → B x = (j : Int) := by
        intro A B ka kb hA hB ja jb hka ihh hAx
        obtain ⟨y, y1, y2, y3⟩ := hA.1.2.2 x hx (by omega) (by omega)
        have hBy := (ihh (j - 1) (by omega) y y1).mp (by omega)
        have h3 := hB.near y2 (by omega)
        have h4 := hB.1.2.1 x hx
        by_cases h5 : B x = (j : Int)
        · exact h5
        · exfalso
          have h6 : 0 ≤ B x ∧ B x < (j : Int) := by omega
          obtain ⟨i, hi⟩ := Int.eq_ofNat_of_zero_le h6.1
          have h7 := (ihh i (by omega) x hx).mpr hi
          omega
      exact ⟨one L M k k9 h h9 j1 j2 hk fun i hi x hx => ih i hi (by omega) (by omega) x hx, one M L k9 k h9 h j2 j1 hk9 fun i hi x hx => (ih i hi (by omega) (by omega) x hx).symm⟩
theorem bks_cong {p q : Nat → Bool} {n : Nat} (h : ∀ e, e < n → p e = q e) : bks p n = bks q n := by
  induction n with
  | zero => rfl
  | succ n ih => rw [bks, bks, ih fun e he => h e (by omega), h n (by omega)]
theorem lsg_cong {G : Gr} {lo hi f f9 L M : Nat → Int} {x : Nat} {nx : Int} (hG : GrIn G) (hf : ∀ e, e < G.m → f e = f9 e) (hL : ∀ y, y < G.n → (L y = nx ↔ M y = nx)) : lsg G lo hi f L x nx = lsg G lo hi f9 M x nx := by
  have h1 : ff (fwB G hi f L x nx) G.m = ff (fwB G hi f9 M x nx) G.m := ff_cong fun e he => by
    unfold fwB
    rw [hf e he]
    exact decide_eq_decide.mpr ⟨fun ⟨a, b, c⟩ => ⟨a, (hL _ (hG e he).2).mp b, c⟩, fun ⟨a, b, c⟩ => ⟨a, (hL _ (hG e he).2).mpr b, c⟩⟩
  have h2 : bks (bwB G lo f L x nx) G.m = bks (bwB G lo f9 M x nx) G.m := bks_cong fun e he => by
    unfold bwB
    rw [hf e he]
    exact decide_eq_decide.mpr ⟨fun ⟨a, b, c⟩ => ⟨a, (hL _ (hG e he).1).mp b, c⟩, fun ⟨a, b, c⟩ => ⟨a, (hL _ (hG e he).1).mpr b, c⟩⟩
  unfold lsg
  rw [h1, h2]
theorem RS_cong {G : Gr} {lo hi lo9 hi9 f f9 : Nat → Int} {x y : Nat} (h1 : ∀ e, e < G.m → lo e = lo9 e) (h2 : ∀ e, e < G.m → hi e = hi9 e) (hf : ∀ e, e < G.m → f e = f9 e) (h : RS G lo hi f x y) : RS G lo9 hi9 f9 x y := by
  obtain ⟨e, he, h⟩ := h
  refine ⟨e, he, ?_⟩
  rw [← h1 e he, ← h2 e he, ← hf e he]; exact h
theorem LVs_cong {G : Gr} {lo hi lo9 hi9 f f9 L : Nat → Int} {t : Nat} {k : Int} (h1 : ∀ e, e < G.m → lo e = lo9 e) (h2 : ∀ e, e < G.m → hi e = hi9 e) (hf : ∀ e, e < G.m → f e = f9 e) (h : LVs G lo hi f t k L) : LVs G lo9 hi9 f9 t k L := by
  refine ⟨⟨h.1.1, h.1.2.1, fun x hx n1 n2 => ?_⟩, fun e he => ?_⟩
  · obtain ⟨y, y1, y2, y3⟩ := h.1.2.2 x hx n1 n2
    exact ⟨y, y1, RS_cong h1 h2 hf y2, y3⟩
  · have := h.2 e he
    unfold Cst at this ⊢
    rw [← h1 e he, ← h2 e he, ← hf e he]; exact this
theorem lsg_cong3 {G : Gr} {lo hi lo9 hi9 f f9 L : Nat → Int} {x : Nat} {nx : Int} (h1 : ∀ e, e < G.m → lo e = lo9 e) (h2 : ∀ e, e < G.m → hi e = hi9 e) (hf : ∀ e, e < G.m → f e = f9 e) : lsg G lo hi f L x nx = lsg G lo9 hi9 f9 L x nx := by
  have q1 : ff (fwB G hi f L x nx) G.m = ff (fwB G hi9 f9 L x nx) G.m := ff_cong fun e he => by
    unfold fwB; rw [hf e he, h2 e he]
  have q2 : bks (bwB G lo f L x nx) G.m = bks (bwB G lo9 f9 L x nx) G.m := bks_cong fun e he => by
    unfold bwB; rw [hf e he, h1 e he]
  unfold lsg
  rw [q1, q2]
theorem rsp_cong {m : Nat} {lo hi lo9 hi9 f f9 : Nat → Int} (h1 : ∀ e, e < m → lo e = lo9 e) (h2 : ∀ e, e < m → hi e = hi9 e) (hf : ∀ e, e < m → f e = f9 e) {σ : Nat} (hs : eg σ < m) : rsp lo hi f σ = rsp lo9 hi9 f9 σ := by
  by_cases h : σ < 32
  · simp only [eg, if_pos h] at hs
    simp only [rsp, if_pos h]
    rw [h2 _ hs, hf _ hs]
  · simp only [eg, if_neg h] at hs
    simp only [rsp, if_neg h]
    rw [h1 _ hs, hf _ hs]
theorem Way_cong {G : Gr} {lo hi lo9 hi9 f f9 L : Nat → Int} {s t k : Nat} {w p : Nat → Nat} (h1 : ∀ e, e < G.m → lo e = lo9 e) (h2 : ∀ e, e < G.m → hi e = hi9 e) (hf : ∀ e, e < G.m → f e = f9 e) (h : Way G lo hi f s t k L w p) : Way G lo9 hi9 f9 s t k L w p := by
  obtain ⟨a1, a2, a3, a4, a5⟩ := h
  refine ⟨LVs_cong h1 h2 hf a1, a2, a3, a4, fun i hi => ?_⟩
  obtain ⟨b1, b2, b3, b4, b5, b6⟩ := a5 i hi
  exact ⟨by rw [b1]; exact lsg_cong3 h1 h2 hf, b2, b3, b4, b5, by rw [← rsp_cong h1 h2 hf b3]; exact b6⟩
theorem Way.uniq {G : Gr} {lo hi f L M : Nat → Int} {s t k k9 : Nat} {w p w9 p9 : Nat → Nat} (hG : GrIn G) (h : Way G lo hi f s t k L w p) (h9 : Way G lo hi f s t k9 M w9 p9) (hk : k < 1000) (hk9 : k9 < 1000) : k = k9 ∧ ∀ i, i < k → w i = w9 i := by
  obtain ⟨a1, a2, a3, a4, a5⟩ := h
  obtain ⟨c1, c2, c3, c4, c5⟩ := h9
  have hu := a1.uniq c1 hk hk9
  have hsn : s < G.n := by have := (a4 0 (Nat.zero_le _)).1; rw [a2] at this; exact this
  have hLs : L s = (k : Int) := by have := (a4 0 (Nat.zero_le _)).2; rw [a2] at this; omega
  have hMs : M s = (k9 : Int) := by have := (c4 0 (Nat.zero_le _)).2; rw [c2] at this; omega
  have hkk : k = k9 := by
    rcases Nat.le_total k k9 with h1 | h1
    · have := (hu k (Nat.le_refl _) h1 s hsn).mp hLs; omega
    · have := (hu k9 h1 (Nat.le_refl _) s hsn).mpr hMs; omega
  subst hkk
  refine ⟨rfl, ?_⟩
  have hp : ∀ i, i ≤ k → p i = p9 i ∧ ∀ j, j < i → w j = w9 j := by
    intro i
    induction i with
    | zero => exact fun _ => ⟨by rw [a2, c2], fun j hj => by omega⟩
    | succ i ih =>
      intro hik
      obtain ⟨i1, i2⟩ := ih (by omega)
      obtain ⟨b1, -, -, -, b5, -⟩ := a5 i (by omega)
      obtain ⟨d1, -, -, -, d5, -⟩ := c5 i (by omega)
      have hw : w i = w9 i := by
        have : lsg G lo hi f L (p i) ((k : Int) - i - 1) = lsg G lo hi f M (p9 i) ((k : Int) - i - 1) := by
          rw [i1]
          refine lsg_cong hG (fun _ _ => rfl) fun y hy => ?_
          have := hu (k - i - 1) (by omega) (by omega) y hy
          rw [show ((k - i - 1 : Nat) : Int) = (k : Int) - i - 1 by omega] at this
          exact this
        rw [← b1, ← d1] at this
        omega
      refine ⟨by rw [b5, d5, hw], fun j hj => ?_⟩
      by_cases hji : j = i
      · rw [hji]; exact hw
      · exact i2 j (by omega)
  exact fun i hi => (hp k (Nat.le_refl _)).2 i hi
theorem Way.pos {G : Gr} {lo hi f L : Nat → Int} {s t k : Nat} {w p : Nat → Nat} (h : Way G lo hi f s t k L w p) (hst : s ≠ t) : 0 < k := by
  rcases Nat.eq_zero_or_pos k with h0 | h0
  · subst h0
    have h1 := h.2.1
    have h2 := h.2.2.1
    omega
  · exact h0
theorem Way.rs {G : Gr} {lo hi f L : Nat → Int} {s t k : Nat} {w p : Nat → Nat} (h : Way G lo hi f s t k L w p) {i : Nat} (hi9 : i < k) : RS G lo hi f (p i) (p (i + 1)) := by
  obtain ⟨b1, b2, b3, b4, b5, b6⟩ := h.2.2.2.2 i hi9
  rw [b4, b5]
  refine ⟨eg (w i), b3, ?_⟩
  by_cases hs : w i < 32
  · simp only [eg, bgn, edn, rsp, if_pos hs] at *
    exact Or.inl ⟨trivial, trivial, by omega⟩
  · simp only [eg, bgn, edn, rsp, if_neg hs] at *
    exact Or.inr ⟨trivial, trivial, by omega⟩
theorem Way.shut {G : Gr} {lo hi f L : Nat → Int} {s t k : Nat} {w p : Nat → Nat} (h : Way G lo hi f s t k L w p) (hs : Shut G lo hi f s t) : False := by
  obtain ⟨T, t1, t2, t3⟩ := hs
  have key : ∀ j, j ≤ k → T (p (k - j)) = true := by
    intro j
    induction j with
    | zero => intro _; rw [Nat.sub_zero, h.2.2.1]; exact t1
    | succ j ih =>
      intro hj
      have hr := h.rs (i := k - (j + 1)) (by omega)
      rw [show k - (j + 1) + 1 = k - j by omega] at hr
      exact t3 _ _ hr (ih (by omega))
  have := key k (Nat.le_refl _)
  rw [Nat.sub_self, h.2.1, t2] at this
  cases this
/-! the rounds, told by choice of levels -/
noncomputable def lvC (G : Gr) (hi f : Nat → Int) (t : Nat) : Nat → Int := Classical.epsilon fun L => LVs G (fun _ => 0) hi f t (G.n : Int) L
def lvT (L : Nat → Int) (k : Int) (x : Nat) : Int := if L x ≤ k then L x else FAR9
noncomputable def kC (G : Gr) (hi f : Nat → Int) (s t : Nat) : Nat := if lvC G hi f t s = FAR9 then 0 else Int.toNat (lvC G hi f t s)
noncomputable def lvK (G : Gr) (hi f : Nat → Int) (s t : Nat) : Nat → Int := lvT (lvC G hi f t) (kC G hi f s t)
noncomputable def wC (G : Gr) (hi f : Nat → Int) (s t i : Nat) : Nat := sgs G (fun _ => 0) hi f (lvK G hi f s t) (kC G hi f s t) (pth G (fun _ => 0) hi f (lvK G hi f s t) (kC G hi f s t) s i) i
noncomputable def aC (G : Gr) (hi f : Nat → Int) (s t : Nat) : Int := if kC G hi f s t = 0 then 0 else mw 1000000 (fun i => rsp (fun _ => 0) hi f (wC G hi f s t i)) (kC G hi f s t)
noncomputable def nC (G : Gr) (hi f : Nat → Int) (s t : Nat) : Nat → Int := ap f (wC G hi f s t) (aC G hi f s t) (kC G hi f s t)
noncomputable def FC (G : Gr) (hi : Nat → Int) (s t : Nat) : Nat → Nat → Int
  | 0 => fun _ => 0
  | j + 1 => nC G hi (FC G hi s t j) s t
noncomputable def AC (G : Gr) (hi : Nat → Int) (s t : Nat) : Nat → Int
  | 0 => 0
  | j + 1 => AC G hi s t j + aC G hi (FC G hi s t j) s t
section RND
variable {G : Gr} {hi f : Nat → Int} {s t : Nat}
theorem lvC_ok (hG : GrOK G) (hi f : Nat → Int) (t : Nat) : LVs G (fun _ => 0) hi f t (G.n : Int) (lvC G hi f t) := Classical.epsilon_spec (p := fun L => LVs G (fun _ => 0) hi f t (G.n : Int) L) (LVs_ex hG.in G.n (by have := hG.2.1; omega))
theorem lvT_ok {lo L : Nat → Int} {n : Int} (h : LVs G lo hi f t n L) {k : Nat} (hk : (k : Int) ≤ n) (hk9 : k < 1000) : LVs G lo hi f t k (lvT L k) := by
  have hF : FAR9 = 1000000000 := rfl
  have cs : ∀ x, (L x ≤ (k : Int) ∧ lvT L k x = L x) ∨ ((k : Int) < L x ∧ lvT L k x = FAR9) := fun x => by
    unfold lvT
    by_cases h : L x ≤ (k : Int)
    · exact Or.inl ⟨h, if_pos h⟩
    · exact Or.inr ⟨by omega, if_neg h⟩
  refine ⟨⟨fun x hx => ?_, fun x hx => ?_, fun x hx n1 n2 => ?_⟩, fun e he => ⟨fun hlt h9 => ?_, fun hlt h9 => ?_⟩⟩
  · rw [← h.1.1 x hx]
    rcases cs x with ⟨a, b⟩ | ⟨a, b⟩
    · rw [b]
    · rw [b]; omega
  · rcases cs x with ⟨a, b⟩ | ⟨a, b⟩
    · rw [b]
      have := h.1.2.1 x hx
      omega
    · exact Or.inl b
  · rcases cs x with ⟨a, b⟩ | ⟨a, b⟩
    · rw [b] at n1 n2
      obtain ⟨y, y1, y2, y3⟩ := h.1.2.2 x hx n1 n2
      refine ⟨y, y1, y2, ?_⟩
      rcases cs y with ⟨c, d⟩ | ⟨c, d⟩
      · rw [d, b]; exact y3
      · omega
    · exact absurd b n1
  · rcases cs (G.v e) with ⟨a, b⟩ | ⟨a, b⟩
    · rw [b] at h9 ⊢
      have := (h.2 e he).1 hlt (by omega)
      rcases cs (G.u e) with ⟨c, d⟩ | ⟨c, d⟩
      · rw [d]; exact this
      · omega
    · rw [b] at h9; omega
  · rcases cs (G.u e) with ⟨a, b⟩ | ⟨a, b⟩
    · rw [b] at h9 ⊢
      have := (h.2 e he).2 hlt (by omega)
      rcases cs (G.v e) with ⟨c, d⟩ | ⟨c, d⟩
      · rw [d]; exact this
      · omega
    · rw [b] at h9; omega
theorem wayC (hG : GrOK G) (hs : s < G.n) (hst : s ≠ t) (hk : kC G hi f s t ≠ 0) : Way G (fun _ => 0) hi f s t (kC G hi f s t) (lvK G hi f s t) (wC G hi f s t) (pth G (fun _ => 0) hi f (lvK G hi f s t) (kC G hi f s t) s) ∧ kC G hi f s t ≤ G.n := by
  have hF : FAR9 = 1000000000 := rfl
  have hn := hG.2.1
  have hm := hG.2.2.1
  have h := lvC_ok hG hi f t
  have hb := h.1.2.1 s hs
  have hd : kC G hi f s t = if lvC G hi f t s = FAR9 then 0 else Int.toNat (lvC G hi f t s) := rfl
  have hne : lvC G hi f t s ≠ FAR9 := fun h9 => hk (by rw [hd, if_pos h9])
  rw [if_neg hne] at hd
  have hb := hb.resolve_left hne
  have hke : ((kC G hi f s t : Nat) : Int) = lvC G hi f t s := by omega
  have hL := lvT_ok h (k := kC G hi f s t) (by omega) (by omega)
  refine ⟨Way_of hG.in (by omega) hs hL (by omega) ?_, by omega⟩
  unfold lvK lvT
  rw [if_pos (by omega)]; omega
theorem kC_way (hG : GrOK G) (hs : s < G.n) (hst : s ≠ t) {k : Nat} {L : Nat → Int} {w p : Nat → Nat} (h : Way G (fun _ => 0) hi f s t k L w p) (hk : k < 1000) : kC G hi f s t = k ∧ (∀ i, i < k → w i = wC G hi f s t i) ∧ aC G hi f s t = mw 1000000 (fun i => rsp (fun _ => 0) hi f (w i)) k ∧ nC G hi f s t = ap f w (mw 1000000 (fun i => rsp (fun _ => 0) hi f (w i)) k) k := by
  have hF : FAR9 = 1000000000 := rfl
  have hk0 : kC G hi f s t ≠ 0 := by
    intro h0
    have h1 := lvC_ok hG hi f t
    have hd : kC G hi f s t = if lvC G hi f t s = FAR9 then 0 else Int.toNat (lvC G hi f t s) := rfl
    by_cases hf9 : lvC G hi f t s = FAR9
    · -- what is reached is closed
      have hn := hG.2.1
      have key : ∀ j, j ≤ k → lvC G hi f t (p (k - j)) ≠ FAR9 := by
        intro j
        induction j with
        | zero =>
          intro _
          rw [Nat.sub_zero, h.2.2.1]
          have ht : t < G.n := by have := (h.2.2.2.1 k (Nat.le_refl _)).1; rw [h.2.2.1] at this; exact this
          have := (h1.1.1 t ht).mpr rfl
          omega
        | succ j ih =>
          intro hj
          have hr := h.rs (i := k - (j + 1)) (by omega)
          rw [show k - (j + 1) + 1 = k - j by omega] at hr
          exact h1.closed (by omega) hG.in hs hf9 hr (ih (by omega))
      have := key k (Nat.le_refl _)
      rw [Nat.sub_self, h.2.1] at this
      exact this hf9
    · rw [if_neg hf9] at hd
      have := (h1.1.2.1 s hs).resolve_left hf9
      have h2 : lvC G hi f t s = 0 := by omega
      exact hst ((h1.1.1 s hs).mp h2)
  obtain ⟨h2, h3⟩ := wayC (hi := hi) (f := f) hG hs hst hk0
  have hn := hG.2.1
  obtain ⟨h4, h5⟩ := h.uniq hG.in h2 hk (by omega)
  have ha : aC G hi f s t = mw 1000000 (fun i => rsp (fun _ => 0) hi f (w i)) k := by
    unfold aC
    rw [if_neg hk0, ← h4]
    exact mw_cong fun i hi => by show rsp _ _ _ (wC G _ f s t i) = rsp _ _ _ (w i); rw [h5 i hi]
  refine ⟨h4.symm, h5, ha, ?_⟩
  unfold nC
  rw [ha, ← h4]
  have : ∀ (a : Int) j, j ≤ k → ap f (wC G hi f s t) a j = ap f w a j := by
    intro a j
    induction j with
    | zero => exact fun _ => rfl
    | succ j ih => intro hj; rw [ap, ap, ih (by omega), h5 j (by omega)]
  exact this _ k (Nat.le_refl _)
theorem kC_shut (hG : GrOK G) (hs : s < G.n) (hst : s ≠ t) (h : Shut G (fun _ => 0) hi f s t) : kC G hi f s t = 0 := by
  refine Classical.byContradiction fun h0 => ?_
  exact (wayC hG hs hst h0).1.shut h
theorem aC_pos (hG : GrOK G) (hs : s < G.n) (hst : s ≠ t) (h0 : kC G hi f s t ≠ 0) : 1 ≤ aC G hi f s t ∧ ∀ i, i < kC G hi f s t → aC G hi f s t ≤ rsp (fun _ => 0) hi f (wC G hi f s t i) := by
  have hw := (wayC hG hs hst h0).1
  unfold aC
  rw [if_neg h0]
  refine ⟨mw_ge (by decide) fun i hi => ?_, (mw_le).2⟩
  have := (hw.2.2.2.2 i hi).2.2.2.2.2
  omega
theorem nC_ok (hG : GrOK G) (hs : s < G.n) (ht : t < G.n) (hst : s ≠ t) (hb : ∀ e, e < G.m → 0 ≤ f e ∧ f e ≤ hi e) {a : Int} (hn : ∀ x, nout G f x = isB s t a x) : (∀ e, e < G.m → 0 ≤ nC G hi f s t e ∧ nC G hi f s t e ≤ hi e) ∧ ∀ x, nout G (nC G hi f s t) x = isB s t (a + aC G hi f s t) x := by
  by_cases h0 : kC G hi f s t = 0
  · have e1 : nC G hi f s t = f := by unfold nC; rw [h0]; rfl
    have e2 : aC G hi f s t = 0 := by unfold aC; rw [if_pos h0]
    rw [e1, e2, Int.add_zero]; exact ⟨hb, hn⟩
  · have hw := (wayC hG hs hst h0).1
    have ha := aC_pos hG hs hst h0
    refine ⟨ap_in (lo := fun _ => 0) hw.apart (by omega) ha.2 hb, fun x => ?_⟩
    unfold nC
    rw [nout_ap (G := G) (p := pth G (fun _ => 0) hi f (lvK G hi f s t) (kC G hi f s t) s) (fun i hi => by
      have := hw.2.2.2.2 i hi
      exact ⟨this.2.2.1, this.2.2.2.1, this.2.2.2.2.1⟩), hn x, hw.2.1, hw.2.2.1]
    unfold isB
    by_cases h1 : x = s
    · subst h1
      rw [if_pos rfl, if_pos rfl, if_pos rfl, if_neg (fun h => hst h.symm)]; omega
    · rw [if_neg h1, if_neg h1, if_neg (show ¬ s = x from fun h => h1 h.symm)]
      by_cases h2 : x = t
      · rw [if_pos h2, if_pos h2, if_pos h2.symm]; omega
      · rw [if_neg h2, if_neg h2, if_neg (show ¬ t = x from fun h => h2 h.symm)]; rfl
theorem FC_ok (hG : GrOK G) (hs : s < G.n) (ht : t < G.n) (hst : s ≠ t) (hb : ∀ e, e < G.m → 0 ≤ hi e ∧ hi e ≤ 99) (j : Nat) : (∀ e, e < G.m → 0 ≤ FC G hi s t j e ∧ FC G hi s t j e ≤ hi e) ∧ ∀ x, nout G (FC G hi s t j) x = isB s t (AC G hi s t j) x := by
  induction j with
  | zero =>
    refine ⟨fun e he => ⟨Int.le_refl _, (hb e he).1⟩, fun x => ?_⟩
    have h1 : nout G (FC G hi s t 0) x = 0 := sumE_0 fun e he => by
      show (if G.u e = x then (0 : Int) else 0) - (if G.v e = x then (0 : Int) else 0) = 0
      split <;> split <;> rfl
    rw [h1]
    show 0 = isB s t 0 x
    unfold isB
    split
    · rfl
    · split <;> rfl
  | succ j ih => exact nC_ok hG hs ht hst ih.1 ih.2
theorem AC_bd (hG : GrOK G) (hs : s < G.n) (ht : t < G.n) (hst : s ≠ t) (hb : ∀ e, e < G.m → 0 ≤ hi e ∧ hi e ≤ 99) (j : Nat) : AC G hi s t j ≤ 1600 := by
  obtain ⟨h1, h2⟩ := FC_ok hG hs ht hst hb j
  have hm := hG.2.2.1
  have h3 := (push_cut (lo := fun _ => 0) (hi := hi) hG.in hs ht hst (fun _ _ => rfl) h1 h2).1 (mask (fun x => x == s) G.n) (by
    unfold btw
    rw [mask_bit _ _ _ hs, mask_bit _ _ _ ht, beq_self_eq_true, beq_eq_false_iff_ne.mpr (fun h => hst h.symm)]; rfl)
  have h4 := sumE_bd (n := G.m) (f := fun e => if lvs G (mask (fun x => x == s) G.n) e then hi e else 0) (a := 0) (b := 99) (fun e he => by have := hb e he; split <;> omega)
  have h5 : sOut G hi (mask (fun x => x == s) G.n) = sumE G.m (fun e => if lvs G (mask (fun x => x == s) G.n) e then hi e else 0) := rfl
  omega
theorem AC_ge (hG : GrOK G) (hs : s < G.n) (hst : s ≠ t) {j : Nat} (h : ∀ i, i < j → kC G hi (FC G hi s t i) s t ≠ 0) : (j : Int) ≤ AC G hi s t j := by
  induction j with
  | zero => exact Int.le_refl _
  | succ j ih =>
    have h1 := ih fun i hi => h i (by omega)
    have h2 := (aC_pos hG hs hst (h j (by omega))).1
    show ((j + 1 : Nat) : Int) ≤ AC G hi s t j + aC G hi (FC G hi s t j) s t
    omega
theorem AC_nn (hG : GrOK G) (hs : s < G.n) (hst : s ≠ t) (j : Nat) : 0 ≤ AC G hi s t j := by
  induction j with
  | zero => exact Int.le_refl _
  | succ j ih =>
    show 0 ≤ AC G hi s t j + aC G hi (FC G hi s t j) s t
    by_cases h0 : kC G hi (FC G hi s t j) s t = 0
    · have : aC G hi (FC G hi s t j) s t = 0 := by unfold aC; rw [if_pos h0]
      omega
    · have := (aC_pos hG hs hst h0).1; omega
end RND
noncomputable def stpC (G : Gr) (hi : Nat → Int) (s t j : Nat) : Bool := kC G hi (FC G hi s t j) s t == 0
noncomputable def MC (G : Gr) (hi : Nat → Int) (s t : Nat) : Nat := fN (stpC G hi s t) 1601
theorem MC_ok {G : Gr} {hi : Nat → Int} {s t : Nat} (hG : GrOK G) (hs : s < G.n) (ht : t < G.n) (hst : s ≠ t) (hb : ∀ e, e < G.m → 0 ≤ hi e ∧ hi e ≤ 99) : MC G hi s t ≤ 1600 ∧ kC G hi (FC G hi s t (MC G hi s t)) s t = 0 ∧ ∀ i, i < MC G hi s t → kC G hi (FC G hi s t i) s t ≠ 0 := by
  have hlt : MC G hi s t < 1601 := by
    refine Classical.byContradiction fun h => ?_
    have hle := fN_le (stpC G hi s t) 1601
    have hall : ∀ i, i < 1601 → kC G hi (FC G hi s t i) s t ≠ 0 := by
      intro i hi9 h0
      have hex : ∃ s9, s9 ≤ i ∧ stpC G hi s t s9 = true ∧ ∀ q, q < s9 → stpC G hi s t q = false := by
        have hi2 : stpC G hi s t i = true := by unfold stpC; rw [h0]; rfl
        clear h0
        induction i using Nat.strongRecOn with
        | ind i ihr =>
          by_cases hq : ∃ q, q < i ∧ stpC G hi s t q = true
          · obtain ⟨q, q1, q2⟩ := hq
            obtain ⟨s9, r1, r2⟩ := ihr q q1 (by omega) q2
            exact ⟨s9, by omega, r2⟩
          · exact ⟨i, Nat.le_refl _, hi2, fun q hq1 => by
              cases hpq : stpC G hi s t q
              · rfl
              · exact absurd ⟨q, hq1, hpq⟩ hq⟩
      obtain ⟨s9, r1, r2, r3⟩ := hex
      have := fN_hit (n := 1601) (by omega) r2 r3
      unfold MC at h
      omega
    have h1 := AC_ge hG hs hst hall
    have h2 := AC_bd hG hs ht hst hb 1601
    omega
  obtain ⟨h1, h2⟩ := fN_spec (p := stpC G hi s t) (n := 1601) hlt
  refine ⟨by omega, ?_, fun i hi9 h0 => ?_⟩
  · exact of_decide_eq_true h1
  · have := h2 i hi9
    unfold stpC at this
    rw [h0] at this; cases this
theorem MC_at {G : Gr} {hi : Nat → Int} {s t j : Nat} (hG : GrOK G) (hs : s < G.n) (ht : t < G.n) (hst : s ≠ t) (hb : ∀ e, e < G.m → 0 ≤ hi e ∧ hi e ≤ 99) (h1 : ∀ i, i < j → kC G hi (FC G hi s t i) s t ≠ 0) (h0 : kC G hi (FC G hi s t j) s t = 0) : MC G hi s t = j := by
  obtain ⟨a, b, c⟩ := MC_ok hG hs ht hst hb
  rcases Nat.lt_trichotomy (MC G hi s t) j with h | h | h
  · exact absurd b (h1 _ h)
  · exact h
  · exact absurd h0 (c j h)
/-! answers -/
def s16 (σ : Nat) : Nat := if σ < 32 then σ else σ - 16
def noL (G : Gr) (lo : Nat → Int) : Bool := decide (ff (fun e => decide (lo e ≠ 0)) G.m = -1)
def wrongRT (T : NT) (a s t : Int) : Int := if 0 < wrongT T a s t then wrongT T a s t else if noL (T.G (Int.toNat a)) (T.lo (Int.toNat a)) then 0 else 3
noncomputable def roundsA (T : NT) (a s t : Int) : Int × Int := wE 0 (wrongRT T a s t) ((MC (T.G (Int.toNat a)) (T.hi (Int.toNat a)) (Int.toNat s) (Int.toNat t) : Int), 0)
noncomputable def roundAmountG (G : Gr) (hi : Nat → Int) (s t : Nat) (r : Int) : Int × Int := if 0 ≤ r ∧ r < (MC G hi s t : Int) then (aC G hi (FC G hi s t (Int.toNat r)) s t, 0) else (0, 4)
noncomputable def roundAmountA (T : NT) (a s t r : Int) : Int × Int := wE 0 (wrongRT T a s t) (roundAmountG (T.G (Int.toNat a)) (T.hi (Int.toNat a)) (Int.toNat s) (Int.toNat t) r)
noncomputable def roundSignG (G : Gr) (hi : Nat → Int) (s t : Nat) (r x : Int) : Int × Int := if (0 ≤ r ∧ r < (MC G hi s t : Int)) ∧ 0 ≤ x ∧ x < (kC G hi (FC G hi s t (Int.toNat r)) s t : Int) then ((s16 (wC G hi (FC G hi s t (Int.toNat r)) s t (Int.toNat x)) : Int), 0) else (0, 4)
noncomputable def roundSignA (T : NT) (a s t r x : Int) : Int × Int := wE 0 (wrongRT T a s t) (roundSignG (T.G (Int.toNat a)) (T.hi (Int.toNat a)) (Int.toNat s) (Int.toNat t) r x)
