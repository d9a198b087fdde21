/-! what may change, and distances to a node over what is left -/
def kp (ps : List xP) (I I9 : xIn) : Prop := ∀ p, p ∉ ps → I9 p = I p
theorem kp.rfl {ps : List xP} {I : xIn} : kp ps I I := fun _ _ => Eq.refl _
theorem kp.tr {ps : List xP} {I J K : xIn} (h1 : kp ps I J) (h2 : kp ps J K) : kp ps I K := fun p hp => (h2 p hp).trans (h1 p hp)
theorem kp.mo {ps qs : List xP} {I J : xIn} (h : kp ps I J) (hs : ∀ p, p ∈ ps → p ∈ qs) : kp qs I J := fun p hp => h p fun z => hp (hs p z)
theorem kp.xu {ps : List xP} {I J : xIn} {q : xP} {k : Nat} {v : Int} (h : kp ps I J) (hq : q ∈ ps) : kp ps I (xu J q k v) := fun p hp => by rw [xu_p (show p ≠ q from fun z => hp (by rw [z]; exact hq))]; exact h p hp
def FAR9 : Int := 1000000000
/-- the rows of the class's flows hold a graph -/
def FR (I : xIn) (G : Gr) : Prop := I (0, 3) 0 = (G.n : Int) ∧ I (0, 3) 1 = (G.m : Int) ∧ G.n ≤ 16 ∧ G.m ≤ 32 ∧ GrIn G ∧ ∀ e, e < G.m → I (0, 4) e = (G.u e : Int) ∧ I (0, 5) e = (G.v e : Int)
theorem FR.kp {I J : xIn} {G : Gr} {ps : List xP} (h : FR I G) (hk : kp ps I J) (h3 : (0, 3) ∉ ps) (h4 : (0, 4) ∉ ps) (h5 : (0, 5) ∉ ps) : FR J G := by
  unfold FR
  rw [hk _ h3, hk _ h4, hk _ h5]
  exact h
/-- an edge that lets more through, from x to y -/
def RS (G : Gr) (lo hi f : Nat → Int) (x y : Nat) : Prop := ∃ e, e < G.m ∧ ((G.u e = x ∧ G.v e = y ∧ f e < hi e) ∨ (G.v e = x ∧ G.u e = y ∧ lo e < f e))
def Cst (G : Gr) (lo hi f : Nat → Int) (L : Nat → Int) (k : Int) (e : Nat) : Prop := (f e < hi e → L (G.v e) < k → L (G.u e) ≤ L (G.v e) + 1) ∧ (lo e < f e → L (G.u e) < k → L (G.v e) ≤ L (G.u e) + 1)
def LV0 (G : Gr) (lo hi f : Nat → Int) (t : Nat) (k : Int) (L : Nat → Int) : Prop := (∀ x, x < G.n → (L x = 0 ↔ x = t)) ∧ (∀ x, x < G.n → L x = FAR9 ∨ (0 ≤ L x ∧ L x ≤ k)) ∧ ∀ x, x < G.n → L x ≠ FAR9 → L x ≠ 0 → ∃ y, y < G.n ∧ RS G lo hi f x y ∧ L y = L x - 1
/-- distances up to k -/
def LVs (G : Gr) (lo hi f : Nat → Int) (t : Nat) (k : Int) (L : Nat → Int) : Prop := LV0 G lo hi f t k L ∧ ∀ e, e < G.m → Cst G lo hi f L k e
def upL (L : Nat → Int) (x : Nat) (a : Int) : Nat → Int := fun y => if y = x then a else L y
theorem xuL {I : xIn} {q : xP} {k : Nat} {v : Int} : xu I q k v q = upL (I q) k v := by funext j; simp [xu, upL]
theorem upL_s {L : Nat → Int} {x : Nat} {a : Int} : upL L x a x = a := if_pos rfl
theorem upL_n {L : Nat → Int} {x y : Nat} {a : Int} (h : y ≠ x) : upL L x a y = L y := if_neg h
theorem upL_c (L : Nat → Int) (x : Nat) (a : Int) (y : Nat) : (y = x ∧ upL L x a y = a) ∨ (y ≠ x ∧ upL L x a y = L y) := by
  by_cases h : y = x
  · exact Or.inl ⟨h, by rw [h, upL_s]⟩
  · exact Or.inr ⟨h, upL_n h⟩
theorem sumE_ones (n : Nat) : sumE n (fun _ => (1 : Int)) = n := by
  induction n with
  | zero => rfl
  | succ n ih => rw [sumE, ih]; omega
section LV
variable {G : Gr} {lo hi f L : Nat → Int} {t : Nat} {k : Int}
theorem LV0.mo (h : LV0 G lo hi f t k L) {k9 : Int} (hk : k ≤ k9) : LV0 G lo hi f t k9 L := ⟨h.1, fun x hx => by have := h.2.1 x hx; omega, h.2.2⟩
/-- one node more is reached -/
theorem LV0.put (h : LV0 G lo hi f t (k + 1) L) (hk : 0 ≤ k) (hk9 : k < 1000) {x y : Nat} (hx : x < G.n) (hy : y < G.n) (hLx : L x = FAR9) (hLy : L y = k) (hr : RS G lo hi f x y) : LV0 G lo hi f t (k + 1) (upL L x (k + 1)) := by
  obtain ⟨h1, h2, h3⟩ := h
  have hF : FAR9 = 1000000000 := rfl
  refine ⟨fun z hz => ?_, fun z hz => ?_, fun z hz => ?_⟩
  · rcases upL_c L x (k + 1) z with ⟨rfl, e⟩ | ⟨e1, e⟩
    · rw [e]
      constructor
      · intro; omega
      · intro w; have := (h1 z hz).mpr w; omega
    · rw [e]; exact h1 z hz
  · rcases upL_c L x (k + 1) z with ⟨rfl, e⟩ | ⟨e1, e⟩
    · rw [e]; omega
    · rw [e]; exact h2 z hz
  · rcases upL_c L x (k + 1) z with ⟨rfl, e⟩ | ⟨e1, e⟩
    · rw [e]
      intro _ _
      refine ⟨y, hy, hr, ?_⟩
      rw [upL_n (by rintro rfl; omega)]
      omega
    · rw [e]
      intro w1 w2
      obtain ⟨y9, a1, a2, a3⟩ := h3 z hz w1 w2
      refine ⟨y9, a1, a2, ?_⟩
      rw [upL_n]
      · exact a3
      · rintro rfl
        have := h2 z hz
        omega
theorem Cst.put {e : Nat} {j : Int} (h : Cst G lo hi f L j e) (hj : j ≤ k + 1) (hk9 : k < 1000) {x : Nat} (hLx : L x = FAR9) : Cst G lo hi f (upL L x (k + 1)) j e := by
  have hF : FAR9 = 1000000000 := rfl
  obtain ⟨h1, h2⟩ := h
  constructor <;> intro w <;> rcases upL_c L x (k + 1) (G.u e) with ⟨e1, e2⟩ | ⟨e1, e2⟩ <;> rcases upL_c L x (k + 1) (G.v e) with ⟨e3, e4⟩ | ⟨e3, e4⟩ <;> rw [e2, e4] <;> intro w2 <;> first | omega | exact h1 w w2 | exact h2 w w2 | (rw [← e1] at hLx; have := h1 w (by omega); omega) | (rw [← e3] at hLx; have := h2 w (by omega); omega)
theorem LVs.count (h : LV0 G lo hi f t k L) : ∀ (j : Nat), (∃ y, y < G.n ∧ L y = (j : Int)) → (j : Int) < 1000 → (j : Int) + 1 ≤ sumE G.n (fun x => if 0 ≤ L x ∧ L x ≤ (j : Int) then 1 else 0) := by
  intro j
  have hF : FAR9 = 1000000000 := rfl
  induction j with
  | zero =>
    rintro ⟨y, hy, hl⟩ -
    have h1 := sumE_at hy (fun x => if 0 ≤ L x ∧ L x ≤ ((0 : Nat) : Int) then (1 : Int) else 0)
    have h2 : 0 ≤ sumE G.n (fun k => if k = y then 0 else if 0 ≤ L k ∧ L k ≤ ((0 : Nat) : Int) then (1 : Int) else 0) := sumE_nonneg fun x hx => by split; decide; split <;> decide
    have h3 : (if 0 ≤ L y ∧ L y ≤ ((0 : Nat) : Int) then (1 : Int) else 0) = 1 := if_pos (by omega)
    simp only [h3] at h1
    omega
  | succ j ih =>
    rintro ⟨y, hy, hl⟩ hj
    obtain ⟨y9, a1, -, a3⟩ := h.2.2 y hy (by omega) (by omega)
    have h0 := ih ⟨y9, a1, by omega⟩ (by omega)
    have h1 := sumE_at hy (fun x => if 0 ≤ L x ∧ L x ≤ ((j + 1 : Nat) : Int) then (1 : Int) else 0)
    have h2 : sumE G.n (fun x => if 0 ≤ L x ∧ L x ≤ (j : Int) then (1 : Int) else 0) ≤ sumE G.n (fun k => if k = y then 0 else if 0 ≤ L k ∧ L k ≤ ((j + 1 : Nat) : Int) then (1 : Int) else 0) := sumE_le fun x hx => by
      by_cases hxy : x = y
      · subst hxy
        rw [if_pos rfl, if_neg (by omega)]; omega
      · rw [if_neg hxy]
        split
        · rw [if_pos (by omega)]; omega
        · split <;> omega
    have h3 : (if 0 ≤ L y ∧ L y ≤ ((j + 1 : Nat) : Int) then (1 : Int) else 0) = 1 := if_pos (by omega)
    simp only [h3] at h1
    omega
/-- where one node can't be reached in as many steps as there are nodes, what is reached is closed -/
theorem LVs.closed (h : LVs G lo hi f t (G.n : Int) L) (hn : G.n < 1000) (hG : GrIn G) {s : Nat} (hs : s < G.n) (hLs : L s = FAR9) {x y : Nat} (hr : RS G lo hi f x y) (hy : L y ≠ FAR9) : L x ≠ FAR9 := by
  have hF : FAR9 = 1000000000 := rfl
  obtain ⟨e, he, hr⟩ := hr
  have hyn : y < G.n := by
    have := hG e he
    rcases hr with ⟨rfl, rfl, -⟩ | ⟨rfl, rfl, -⟩
    · exact this.2
    · exact this.1
  have hb := (h.1.2.1 y hyn).resolve_left hy
  obtain ⟨j, hj⟩ := Int.eq_ofNat_of_zero_le hb.1
  have h1 := LVs.count h.1 j ⟨y, hyn, hj⟩ (by omega)
  have h2 := sumE_at hs (fun x => if 0 ≤ L x ∧ L x ≤ (j : Int) then (1 : Int) else 0)
  have h3 : sumE G.n (fun k => if k = s then 0 else if 0 ≤ L k ∧ L k ≤ (j : Int) then (1 : Int) else 0) ≤ sumE G.n (fun k => if k = s then 0 else 1) := sumE_le fun x hx => by split; omega; split <;> omega
  have h4 := sumE_at hs (fun _ => (1 : Int))
  have h5 := sumE_ones G.n
  have h6 : (if 0 ≤ L s ∧ L s ≤ (j : Int) then (1 : Int) else 0) = 0 := if_neg (by omega)
  simp only [h6] at h2
  have hc := h.2 e he
  rcases hr with ⟨rfl, rfl, hr⟩ | ⟨rfl, rfl, hr⟩
  · have := hc.1 hr (by omega); omega
  · have := hc.2 hr (by omega); omega
end LV
