/-! where there is a flow there is one with the least number of an edge, and cuts tell it -/
def RSx (G : Gr) (lo hi f : Nat → Int) (e x y : Nat) : Prop := ∃ k, k < G.m ∧ k ≠ e ∧ ((G.u k = x ∧ G.v k = y ∧ f k < hi k) ∨ (G.v k = x ∧ G.u k = y ∧ lo k < f k))
def Rch (G : Gr) (lo hi f : Nat → Int) (e s : Nat) (R : Nat → Bool) : Prop := R s = true ∧ ∀ y, R y = true → ∃ g : Nat → Int, (∀ k, k < G.m → lo k ≤ g k ∧ g k ≤ hi k) ∧ g e = f e ∧ (∀ k, k < G.m → (R (G.u k) = false ∨ R (G.v k) = false) → g k = f k) ∧ ∀ x, nout G g x = nout G f x + ((if s = x then 1 else 0) - (if y = x then 1 else 0))
def Rput (R : Nat → Bool) (y x : Nat) : Bool := R x || x == y
theorem Rput_f {R : Nat → Bool} {y x : Nat} (h : Rput R y x = false) : R x = false := by
  unfold Rput at h
  cases h1 : R x
  · rfl
  · rw [h1] at h; cases h
theorem Rch.step {G : Gr} {lo hi f : Nat → Int} {e s : Nat} {R : Nat → Bool} (h : Rch G lo hi f e s R) (hf : ∀ k, k < G.m → lo k ≤ f k ∧ f k ≤ hi k) {x y : Nat} (hx : R x = true) (hy : R y = false) (hr : RSx G lo hi f e x y) : Rch G lo hi f e s (Rput R y) := by
  refine ⟨by unfold Rput; rw [h.1]; rfl, fun z hz => ?_⟩
  by_cases hzR : R z = true
  · obtain ⟨g, g1, g2, g3, g4⟩ := h.2 z hzR
    exact ⟨g, g1, g2, fun k hk ho => g3 k hk (ho.imp Rput_f Rput_f), g4⟩
  · have hzy : z = y := by
      unfold Rput at hz
      simpa [hzR] using hz
    subst hzy
    obtain ⟨g, g1, g2, g3, g4⟩ := h.2 x hx
    obtain ⟨k, hk, hke, hr⟩ := hr
    have hgk : g k = f k := g3 k hk (by rcases hr with ⟨-, r2, -⟩ | ⟨-, r2, -⟩ <;> rw [r2] <;> simp [hy])
    have both : ∀ j, j < G.m → j ≠ k → ∀ a, (Rput R z (G.u j) = false ∨ Rput R z (G.v j) = false) → upL g k a j = f j := fun j hj hjk a ho => by
      rw [upL_n hjk]; exact g3 j hj (ho.imp Rput_f Rput_f)
    have kin : Rput R z (G.u k) = true ∧ Rput R z (G.v k) = true := by
      unfold Rput
      rcases hr with ⟨r1, r2, -⟩ | ⟨r1, r2, -⟩ <;> rw [r1, r2, hx] <;> simp
    have hfk := hf k hk
    rcases hr with ⟨r1, r2, r3⟩ | ⟨r1, r2, r3⟩
    · refine ⟨upL g k (g k + 1), fun j hj => ?_, by rw [upL_n (fun z => hke z.symm)]; exact g2, fun j hj ho => ?_, fun w => ?_⟩
      · by_cases hjk : j = k
        · rw [hjk, upL_s]; omega
        · rw [upL_n hjk]; exact g1 j hj
      · by_cases hjk : j = k
        · rw [hjk, kin.1, kin.2] at ho; rcases ho with h | h <;> cases h
        · exact both j hj hjk _ ho
      · rw [nout_up g hk, g4 w, r1, r2]; omega
    · refine ⟨upL g k (g k + -1), fun j hj => ?_, by rw [upL_n (fun z => hke z.symm)]; exact g2, fun j hj ho => ?_, fun w => ?_⟩
      · by_cases hjk : j = k
        · rw [hjk, upL_s]; omega
        · rw [upL_n hjk]; exact g1 j hj
      · by_cases hjk : j = k
        · rw [hjk, kin.1, kin.2] at ho; rcases ho with h | h <;> cases h
        · exact both j hj hjk _ ho
      · rw [nout_up g hk, g4 w, r1, r2]
        split <;> split <;> split <;> omega
theorem Rch.max {G : Gr} {lo hi f : Nat → Int} {e s : Nat} (hG : GrIn G) (hf : ∀ k, k < G.m → lo k ≤ f k ∧ f k ≤ hi k) : ∀ (N : Nat) (R : Nat → Bool), Rch G lo hi f e s R → sumE G.n (fun x => if R x then 0 else 1) ≤ N → ∃ R9, Rch G lo hi f e s R9 ∧ ∀ x y, RSx G lo hi f e x y → R9 x = true → R9 y = true := by
  intro N
  induction N with
  | zero =>
    intro R h1 h2
    refine ⟨R, h1, fun x y hr hx => ?_⟩
    cases hy : R y
    · exfalso
      have hyn : y < G.n := by
        obtain ⟨k, hk, -, ⟨-, rfl, -⟩ | ⟨-, rfl, -⟩⟩ := hr
        · exact (hG k hk).2
        · exact (hG k hk).1
      have a1 := sumE_at hyn (fun x => if R x then (0 : Int) else 1)
      have a2 : 0 ≤ sumE G.n (fun e => if e = y then 0 else if R e then (0 : Int) else 1) := sumE_nonneg fun x hx => by split; decide; split <;> decide
      simp only [hy] at a1
      simp at a1
      omega
    · rfl
  | succ N ih =>
    intro R h1 h2
    by_cases hx : ∃ x y, R x = true ∧ R y = false ∧ RSx G lo hi f e x y
    · obtain ⟨x, y, a1, a2, a3⟩ := hx
      refine ih (Rput R y) (h1.step hf a1 a2 a3) ?_
      have hyn : y < G.n := by
        obtain ⟨k, hk, -, ⟨-, rfl, -⟩ | ⟨-, rfl, -⟩⟩ := a3
        · exact (hG k hk).2
        · exact (hG k hk).1
      have b1 : sumE G.n (fun x => if Rput R y x then (0 : Int) else 1) < sumE G.n (fun x => if R x then (0 : Int) else 1) := sumE_lt hyn (fun z hz => by
        cases h3 : Rput R y z
        · rw [Rput_f h3]; simp
        · rw [if_pos rfl]; split <;> decide) (by
        have h3 : Rput R y y = true := by unfold Rput; simp
        rw [h3, a2]; decide)
      omega
    · refine ⟨R, h1, fun x y hr hx9 => ?_⟩
      cases hy : R y
      · exact absurd ⟨x, y, hx9, hy, hr⟩ hx
      · rfl
theorem FS.tightmin {G : Gr} {lo hi b f : Nat → Int} (hG : GrIn G) (h : FS G lo hi b f) {e : Nat} (he : e < G.m) (hmin : ∀ g, FS G lo hi b g → f e ≤ g e) : f e = lo e ∨ Tight G lo hi f e := by
  have h0 : Rch G lo hi f e (G.u e) (fun x => x == G.u e) := ⟨by simp, fun y hy => ⟨f, h.1, rfl, fun _ _ _ => rfl, fun x => by
    have hy : y = G.u e := by simpa using hy
    rw [hy]; omega⟩⟩
  obtain ⟨R, h1, h2⟩ := Rch.max hG h.1 (Int.toNat (sumE G.n (fun x => if (x == G.u e) then (0 : Int) else 1))) _ h0 (by omega)
  cases hv : R (G.v e)
  · refine Or.inr ⟨fun x => !R x, by simp [hv], by simp [h1.1], fun k hk hke => ⟨fun a1 a2 => ?_, fun a1 a2 => ?_⟩⟩
    · have a1 : R (G.u k) = false := by simpa using a1
      have a2 : R (G.v k) = true := by simpa using a2
      have h3 := h.1 k hk
      by_cases hlt : lo k < f k
      · have := h2 _ _ ⟨k, hk, hke, Or.inr ⟨rfl, rfl, hlt⟩⟩ a2
        rw [a1] at this; cases this
      · omega
    · have a1 : R (G.u k) = true := by simpa using a1
      have a2 : R (G.v k) = false := by simpa using a2
      have h3 := h.1 k hk
      by_cases hlt : f k < hi k
      · have := h2 _ _ ⟨k, hk, hke, Or.inl ⟨rfl, rfl, hlt⟩⟩ a1
        rw [a2] at this; cases this
      · omega
  · obtain ⟨g, g1, g2, g3, g4⟩ := h1.2 _ hv
    left
    have h3 := h.1 e he
    by_cases hlt : lo e < f e
    · have h4 := hmin (upL g e (g e + -1)) ⟨fun k hk => by
        by_cases hke : k = e
        · rw [hke, upL_s]; omega
        · rw [upL_n hke]; exact g1 k hk, fun x hx => by
        rw [nout_up g he, g4 x, ← h.2 x hx]
        split <;> split <;> omega⟩
      rw [upL_s] at h4
      omega
    · omega
theorem FS.least {G : Gr} {lo hi b : Nat → Int} (hG : GrIn G) {e : Nat} (he : e < G.m) : ∀ (N : Nat) (f : Nat → Int), FS G lo hi b f → f e - lo e ≤ N → ∃ g, FS G lo hi b g ∧ g e = leastC G lo hi b e := by
  intro N
  induction N with
  | zero =>
    intro f h1 h2
    exact ⟨f, h1, leastC_eq hG h1 he (h1.tightmin hG he fun g hg => by have := (hg.1 e he).1; omega)⟩
  | succ N ih =>
    intro f h1 h2
    by_cases hx : ∃ g, FS G lo hi b g ∧ g e < f e
    · obtain ⟨g, a1, a2⟩ := hx
      exact ih g a1 (by omega)
    · refine ⟨f, h1, leastC_eq hG h1 he (h1.tightmin hG he fun g hg => ?_)⟩
      by_cases hlt : g e < f e
      · exact absurd ⟨g, hg, hlt⟩ hx
      · omega
theorem leastF_C {G : Gr} {lo hi : Nat → Int} {s t e : Nat} {a : Int} (hs : s < G.n) (ht : t < G.n) (hst : s ≠ t) : leastF G lo hi s t a e = leastC G lo hi (isB s t a) e := mx_cong rfl (fun _ _ => rfl) (fun S _ _ => by rw [bS_flow hs ht hst]; omega)
/-- the least row stays within bounds, and there is a flow at each step -/
theorem lxF_ok {G : Gr} {lo hi f : Nat → Int} {s t : Nat} {a : Int} (hG : GrIn G) (hs : s < G.n) (ht : t < G.n) (hst : s ≠ t) (h : FS G lo hi (isB s t a) f) {k : Nat} (hk : k ≤ G.m) : (∀ e, e < G.m → lo e ≤ (lxF G lo hi s t a k).1 e ∧ (lxF G lo hi s t a k).2 e ≤ hi e) ∧ ∃ g, FS G (lxF G lo hi s t a k).1 (lxF G lo hi s t a k).2 (isB s t a) g := by
  induction k with
  | zero => exact ⟨fun e he => ⟨Int.le_refl _, Int.le_refl _⟩, f, h⟩
  | succ k ih =>
    obtain ⟨h1, g, h2⟩ := ih (by omega)
    have hk9 : k < G.m := by omega
    obtain ⟨g9, h3, h4⟩ := FS.least hG hk9 (Int.toNat (g k - (lxF G lo hi s t a k).1 k)) g h2 (by omega)
    rw [← leastF_C hs ht hst] at h4
    rw [lxF, ← h4]
    dsimp only
    have b1 := h3.1 k hk9
    have b2 := h1 k hk9
    refine ⟨fun e he => ?_, g9, fun e he => ?_, h3.2⟩
    · by_cases hek : e = k
      · rw [hek, upL_s, upL_s]; omega
      · rw [upL_n hek, upL_n hek]; exact h1 e he
    · by_cases hek : e = k
      · rw [hek, upL_s, upL_s]; omega
      · rw [upL_n hek, upL_n hek]; exact h3.1 e he
