/-! the way that is taken, and the class's send -/
def sgs (G : Gr) (lo hi f L : Nat → Int) (k : Int) (x i : Nat) : Nat := Int.toNat (lsg G lo hi f L x (k - i - 1))
def pth (G : Gr) (lo hi f L : Nat → Int) (k : Int) (s : Nat) : Nat → Nat
  | 0 => s
  | i + 1 => edn G (sgs G lo hi f L k (pth G lo hi f L k s i) i)
/-- w is the way from s to t along levels L, through the nodes p -/
def Way (G : Gr) (lo hi f : Nat → Int) (s t k : Nat) (L : Nat → Int) (w p : Nat → Nat) : Prop := LVs G lo hi f t k L ∧ p 0 = s ∧ p k = t ∧ (∀ i, i ≤ k → p i < G.n ∧ L (p i) = (k : Int) - i) ∧ ∀ i, i < k → (w i : Int) = lsg G lo hi f L (p i) ((k : Int) - i - 1) ∧ w i < 64 ∧ eg (w i) < G.m ∧ p i = bgn G (w i) ∧ p (i + 1) = edn G (w i) ∧ 0 < rsp lo hi f (w i)
theorem edn_lt {G : Gr} (hG : GrIn G) {σ : Nat} (h : eg σ < G.m) : edn G σ < G.n := by
  by_cases hs : σ < 32
  · simp only [eg, if_pos hs] at h
    simp only [edn, if_pos hs]; exact (hG _ h).2
  · simp only [eg, if_neg hs] at h
    simp only [edn, if_neg hs]; exact (hG _ h).1
theorem Way_of {G : Gr} {lo hi f L : Nat → Int} {s t k : Nat} (hG : GrIn G) (hm : G.m ≤ 32) (hs : s < G.n) (h : LVs G lo hi f t k L) (hk : k < 1000) (hL : L s = k) : Way G lo hi f s t k L (fun i => sgs G lo hi f L k (pth G lo hi f L k s i) i) (pth G lo hi f L k s) := by
  have hF : FAR9 = 1000000000 := rfl
  have step : ∀ i, i < k → ∀ x, x < G.n → L x = (k : Int) - i → ∃ σ : Nat, lsg G lo hi f L x ((k : Int) - i - 1) = (σ : Int) ∧ σ < 64 ∧ eg σ < G.m ∧ bgn G σ = x ∧ L (edn G σ) = (k : Int) - i - 1 ∧ 0 < rsp lo hi f σ := fun i hi x hx hLx => by
    obtain ⟨y, h1, h2, h3⟩ := h.1.2.2 x hx (by omega) (by omega)
    exact lsg_ok hm ⟨y, h2, by omega⟩
  have at9 : ∀ i, i ≤ k → pth G lo hi f L k s i < G.n ∧ L (pth G lo hi f L k s i) = (k : Int) - i := fun i => by
    induction i with
    | zero => intro _; exact ⟨hs, by rw [pth, hL]; omega⟩
    | succ i ih =>
      intro hik
      obtain ⟨h1, h2⟩ := ih (by omega)
      obtain ⟨σ, a1, a2, a3, a4, a5, a6⟩ := step i (by omega) _ h1 h2
      have h3 : sgs G lo hi f L k (pth G lo hi f L k s i) i = σ := by unfold sgs; rw [a1]; rfl
      rw [pth, h3]
      exact ⟨edn_lt hG a3, by omega⟩
  refine ⟨h, rfl, ?_, at9, fun i hik => ?_⟩
  · have h1 := at9 k (Nat.le_refl _)
    exact (h.1.1 _ h1.1).mp (by omega)
  · obtain ⟨h1, h2⟩ := at9 i (by omega)
    obtain ⟨σ, a1, a2, a3, a4, a5, a6⟩ := step i hik _ h1 h2
    have h3 : sgs G lo hi f L k (pth G lo hi f L k s i) i = σ := by unfold sgs; rw [a1]; rfl
    simp only [pth, h3]
    exact ⟨a1.symm, a2, a3, a4.symm, trivial, a6⟩
theorem Way.apart {G : Gr} {lo hi f L : Nat → Int} {s t k : Nat} {w p : Nat → Nat} (h : Way G lo hi f s t k L w p) : ∀ i j, i < k → j < k → eg (w i) = eg (w j) → i = j := by
  obtain ⟨h1, h2, h3, h4, h5⟩ := h
  have hs : ∀ i, i < k → L (G.u (eg (w i))) + L (G.v (eg (w i))) = 2 * ((k : Int) - i) - 1 := fun i hi => by
    obtain ⟨a1, a2, a3, a4, a5, a6⟩ := h5 i hi
    have b1 := h4 i (by omega)
    have b2 := h4 (i + 1) (by omega)
    rw [a4] at b1
    rw [a5] at b2
    by_cases hs : w i < 32
    · simp only [bgn, edn, if_pos hs] at b1 b2
      simp only [eg, if_pos hs]; omega
    · simp only [bgn, edn, if_neg hs] at b1 b2
      simp only [eg, if_neg hs]; omega
  intro i j hi hj he
  have b1 := hs i hi
  have b2 := hs j hj
  rw [he] at b1
  omega
/-- nothing more goes from s to t -/
def Shut (G : Gr) (lo hi f : Nat → Int) (s t : Nat) : Prop := ∃ T : Nat → Bool, T t = true ∧ T s = false ∧ ∀ x y, RS G lo hi f x y → T y = true → T x = true
section FS
variable {X : xX} {c : xCx} {I : xIn} {G : Gr}
theorem fl_isNode (hX : xBase X) (d : Nat) (hF : FR I G) {x : Nat} (hx : x < G.n) : xRet rB X m_X1_isNode d [xr (0, 3), xi (x : Int)] c I 0 0 (pv true I) xNo := by
  obtain ⟨g1, g2, g3, g4, g5, g6⟩ := id hF
  exact xRet_of hX pl_X1_isNode (LE1 rfl) fun V hV => rg_X1_isNode_0 hV I _ ⟨⟨by omega, by omega⟩, fun h => by omega, fun _ => ⟨fun h => by omega, fun _ => pvI rfl⟩⟩
theorem fl_isEdge (hX : xBase X) (d : Nat) (hF : FR I G) {e : Nat} (he : e < G.m) : xRet rB X m_X1_isEdge d [xr (0, 3), xi (e : Int)] c I 0 0 (pv true I) xNo := by
  obtain ⟨g1, g2, g3, g4, g5, g6⟩ := id hF
  exact xRet_of hX pl_X1_isEdge (LE1 rfl) fun V hV => rg_X1_isEdge_0 hV I _ ⟨⟨by omega, by omega⟩, fun h => by omega, fun _ => ⟨fun h => by omega, fun _ => pvI rfl⟩⟩
/-- what send and push may change -/
def kpS (I J : xIn) : Prop := kp [(0, 3), (0, 11), (0, 12), (0, 14)] I J ∧ ∀ j, j ≠ 13 → J (0, 3) j = I (0, 3) j
theorem kpS.fr {I J : xIn} {G : Gr} (h : kpS I J) (hF : FR I G) : FR J G := by
  unfold FR
  rw [h.2 0 (by decide), h.2 1 (by decide), h.1 (0, 4) (by decide), h.1 (0, 5) (by decide)]
  exact hF
theorem kpS.tr {I J K : xIn} (h1 : kpS I J) (h2 : kpS J K) : kpS I K := ⟨h1.1.tr h2.1, fun j hj => (h2.2 j hj).trans (h1.2 j hj)⟩
def FBd (I : xIn) (m : Nat) : Prop := ∀ e, e < m → (-2000000 ≤ I (0, 9) e ∧ I (0, 9) e ≤ 2000000) ∧ (-2000000 ≤ I (0, 10) e ∧ I (0, 10) e ≤ 2000000) ∧ (-2000000 ≤ I (0, 11) e ∧ I (0, 11) e ≤ 2000000)
theorem fl_send (hX : xBase X) (d : Nat) (hF : FR I G) (hb : FBd I G.m) {s t : Nat} {lim : Int} (hs : s < G.n) (ht : t < G.n) (hst : s ≠ t) (hl0 : 0 < lim) (hl1 : lim ≤ 1000000) : xRet rI X m_X1_send (d + 1) [xr (0, 3), xi (s : Int), xi (t : Int), xi lim] c I 0 0 (fun v I9 => kpS I I9 ∧ ((v = 0 ∧ I9 (0, 11) = (I (0, 11)) ∧ Shut G (I (0, 9)) (I (0, 10)) (I (0, 11)) s t) ∨ ∃ k L w p, k ≤ 16 ∧ Way G (I (0, 9)) (I (0, 10)) (I (0, 11)) s t k L w p ∧ v = mw lim (fun i => rsp (I (0, 9)) (I (0, 10)) (I (0, 11)) (w i)) k ∧ 0 < v ∧ I9 (0, 11) = ap (I (0, 11)) w v k ∧ I9 (0, 3) 13 = (k : Int) ∧ ∀ i, i < k → I9 (0, 14) i = (w i : Int))) xNo := by
  obtain ⟨g1, g2, g3, g4, g5, g6⟩ := id hF
  have hFA : FAR9 = 1000000000 := rfl
  refine xRet_of hX pl_X1_send (LE1 rfl) fun V hV => rg_X1_send_0 hV I _ _ _ ⟨⟨by omega, by omega⟩, fun h => by omega, fun _ => ⟨⟨by omega, by omega⟩, ⟨by omega, by omega⟩, fun h => absurd h (by omega), fun _ => ⟨_, fl_isNode hX d hF hs, ?_⟩⟩⟩
  rintro _ I ⟨rfl, rfl⟩
  refine ⟨fun h => (by cases h), fun _ => ⟨_, fl_isNode hX d hF ht, ?_⟩⟩
  rintro _ I ⟨rfl, rfl⟩
  refine ⟨fun _ => ⟨_, fl_setDistances hX d hF hs ht, ?_⟩, fun h => (by cases h)⟩
  rintro _ I1 ⟨hk1, k, hkn, hL, hLs⟩ I2 hI2
  have e12 : I2 (0, 12) = I1 (0, 12) := by rw [hI2, xu_p (by decide)]
  have e3 : I2 (0, 3) = upL (I (0, 3)) 13 0 := by rw [hI2, xuL, q12 hk1 (by decide)]
  have hk2 : kp [(0, 3), (0, 12)] I I2 := by rw [hI2]; exact (hk1.mo (by simp)).xu (by simp)
  clear hI2
  rw [tnN, e12]
  have hkS2 : kpS I I2 := ⟨hk2.mo (by simp), fun j hj => by rw [e3, upL_n hj]⟩
  refine ⟨⟨by omega, by omega⟩, fun h x23 hx => ?_, fun h => ⟨hkS2, Or.inl ⟨rfl, hk2 _ (by decide), fun x => decide (I1 (0, 12) x ≠ FAR9), ?_, ?_, ?_⟩⟩⟩
  rotate_left
  · have := (hL.1.1 t ht).mpr rfl
    exact decide_eq_true (by omega)
  · exact decide_eq_false (by omega)
  · intro x y hxy hy
    have hkG : k = G.n := by
      rcases hLs with h1 | h1
      · omega
      · exact h1.2
    rw [hkG] at hL
    exact decide_eq_true (hL.closed (by omega) g5 hs h hxy (of_decide_eq_true hy))
  have hLs : I1 (0, 12) s = (k : Int) := by
    rcases hLs with h1 | h1
    · exact h1
    · exact absurd h1.1 h
  rw [hLs] at hx
  have hW := Way_of g5 g4 hs hL (by omega) hLs
  generalize hw : (fun i => sgs G (I (0, 9)) (I (0, 10)) (I (0, 11)) (I1 (0, 12)) (k : Int) (pth G (I (0, 9)) (I (0, 10)) (I (0, 11)) (I1 (0, 12)) (k : Int) s i) i) = w at hW
  generalize hp : pth G (I (0, 9)) (I (0, 10)) (I (0, 11)) (I1 (0, 12)) (k : Int) s = p at hW
  clear hw hp
  obtain ⟨-, w2, w3, w4, w5⟩ := id hW
  have hx : x23 = (k : Int) - 1 - ((0 : Nat) : Int) := by omega
  subst hx
  rw [show (s : Int) = (p 0 : Nat) by rw [w2]]
  refine up_to0 (m := k) (W := fun i => ∀ J : xIn, kp [(0, 3), (0, 14)] I2 J → (∀ j, j ≠ 13 → J (0, 3) j = I2 (0, 3) j) → J (0, 3) 13 = (i : Int) → (∀ j, j < i → J (0, 14) j = (w j : Int)) → V 64 [(0, xr (0, 3)), (3, xi lim), (4, xi (p i : Nat)), (5, xi ((k : Int) - 1 - (i : Int)))] [] (J, xst c) 0 0) ?_ ?_ I2 kp.rfl (fun _ _ => rfl) (by rw [e3, upL_s]; rfl) (fun j hj => by omega)
  · intro J hJ hJ3 hJ13 hJ14
    have hkS : kpS I J := hkS2.tr ⟨hJ.mo (by simp), hJ3⟩
    have q9 : J (0, 9) = I (0, 9) := (hJ _ (by decide)).trans (hk2 _ (by decide))
    have q10 : J (0, 10) = I (0, 10) := (hJ _ (by decide)).trans (hk2 _ (by decide))
    have q11 : J (0, 11) = I (0, 11) := (hJ _ (by decide)).trans (hk2 _ (by decide))
    refine rg_X1_send_64 hV J _ _ _ ⟨⟨by omega, by omega⟩, fun _ => ⟨_, fl_shift hX d (hkS.fr hF) hJ13 (by omega) (fun i hi => ⟨hJ14 i hi, (w5 i hi).2.2.1⟩) ⟨by omega, by omega⟩ (by rw [q9, q10, q11]; exact hb), ?_⟩, fun h => by omega⟩
    rintro v I9 ⟨hv, hk9, h11⟩
    rw [q9, q10, q11] at hv
    rw [q11] at h11
    refine ⟨hkS.tr ⟨hk9.mo (by simp), fun j hj => by rw [hk9 _ (by decide)]⟩, Or.inr ⟨k, I1 (0, 12), w, p, by omega, hW, hv, ?_, h11, ?_, fun i hi => ?_⟩⟩
    · rw [hv]
      have := mw_ge (lim := lim) (b := 1) (g := fun i => rsp (I (0, 9)) (I (0, 10)) (I (0, 11)) (w i)) (k := k) (by omega) (fun i hi => by have := (w5 i hi).2.2.2.2.2; omega)
      omega
    · rw [hk9 _ (by decide)]; exact hJ13
    · rw [hk9 _ (by decide)]; exact hJ14 i hi
  · intro i hi ih J hJ hJ3 hJ13 hJ14
    have hkS : kpS I J := hkS2.tr ⟨hJ.mo (by simp), hJ3⟩
    have q9 : J (0, 9) = I (0, 9) := (hJ _ (by decide)).trans (hk2 _ (by decide))
    have q10 : J (0, 10) = I (0, 10) := (hJ _ (by decide)).trans (hk2 _ (by decide))
    have q11 : J (0, 11) = I (0, 11) := (hJ _ (by decide)).trans (hk2 _ (by decide))
    have q12 : J (0, 12) = I1 (0, 12) := (hJ _ (by decide)).trans e12
    obtain ⟨a1, a2, a3, a4, a5, a6⟩ := w5 i hi
    refine rg_X1_send_64 hV J _ _ _ ⟨⟨by omega, by omega⟩, fun h => by omega, fun _ => ⟨fun h => by omega, fun _ => ⟨_, fl_leastSign hX d (hkS.fr hF) (w4 i (by omega)).1 ⟨by omega, by omega⟩, ?_⟩⟩⟩
    rintro _ J ⟨rfl, rfl⟩
    rw [q9, q10, q11, q12, show (k : Int) - 1 - (i : Int) = (k : Int) - i - 1 by omega, ← a1]
    refine ⟨⟨by omega, by omega⟩, fun _ => ⟨⟨by omega, by omega⟩, ?_⟩, fun h => by omega⟩
    rintro J1 rfl
    have r13 : xu J (0, 14) (Int.toNat (J (0, 3) 13)) (w i : Int) (0, 3) 13 = (i : Int) := by rw [xu_p (by decide)]; exact hJ13
    rw [r13]
    refine ⟨⟨by omega, by omega⟩, ?_⟩
    rintro J2 hJ2
    have ih := ih J2 (by rw [hJ2]; exact (hJ.xu (by simp)).xu (by simp)) (fun j hj => by rw [hJ2, xu_k hj, xu_p (by decide)]; exact hJ3 j hj) (by rw [hJ2, xu_same]; omega) (fun j hj => by
      rw [hJ2, xu_p (by decide), hJ13, tnN, xuL]
      rcases upL_c (J (0, 14)) i (w i : Int) j with ⟨b1, b2⟩ | ⟨b1, b2⟩ <;> rw [b2]
      · rw [b1]
      · exact hJ14 j (by omega))
    rw [a5, show (k : Int) - 1 - ((i + 1 : Nat) : Int) = (k : Int) - i - 1 + -1 by omega] at ih
    have q4 : J2 (0, 4) = I (0, 4) := by rw [hJ2, xu_p (by decide), xu_p (by decide)]; exact hkS.1 _ (by decide)
    have q5 : J2 (0, 5) = I (0, 5) := by rw [hJ2, xu_p (by decide), xu_p (by decide)]; exact hkS.1 _ (by decide)
    rw [q4, q5, tnS, tnN]
    refine ⟨fun h => ⟨⟨by omega, by omega⟩, ?_⟩, fun h => ⟨⟨by omega, by omega⟩, ?_⟩⟩
    · have hs : ¬ w i < 32 := by omega
      simp only [eg, if_neg hs] at a3
      rintro _ rfl
      rw [(g6 _ a3).1]
      simp only [edn, if_neg hs] at ih
      exact ih
    · have hs : w i < 32 := by omega
      simp only [eg, if_pos hs] at a3
      rintro _ rfl
      rw [(g6 _ a3).2]
      simp only [edn, if_pos hs] at ih
      exact ih
end FS
