/-! the law's net is laid on -/
theorem AL.ad {c : xCx} {b j i a : Nat} (h : AL c b j) (hf : cFr c (er i)) (hi : i ≤ 10) : AL (cAd c (er i) a) b j := by
  obtain ⟨hD, h⟩ := h
  have hb := hD.2.2.2.2.1
  have hm : ∀ p, p ∈ c.2.1 → (cAd c (er i) a).2.2.1 p = c.2.2.1 p := fun p hp => if_neg fun z : p = er i => hf.2.1 (z ▸ hp)
  refine ⟨hD.ad hf (er_ne _ _) (Nat.le_refl _) (by show 5 + 64 * (i + 1) < 64 * b; omega), ?_⟩
  rcases h with ⟨h1, h2, h3, h4⟩ | ⟨h1, h2, h3, h4, h5, h6⟩ | ⟨h1, h2, h3, h4⟩
  · exact Or.inl ⟨h1, by rw [hm _ hD.2.2.1.2.1]; exact h2, h3.ad (fun z => er_ne _ _ z.symm), h4.ad (fun z => er_ne _ _ z.symm)⟩
  · exact Or.inr (Or.inl ⟨h1, h2, by rw [hm _ hD.2.2.1.2.1]; exact h3, List.mem_append_left _ h4, h5.ad (fun z => er_ne _ _ z.symm), fun k hk => ⟨by rw [hm _ h4]; exact (h6 k hk).1, List.mem_append_left _ (h6 k hk).2⟩⟩)
  · exact Or.inr (Or.inr ⟨h1, by rw [hm _ hD.2.2.1.2.1]; exact h2, List.mem_append_left _ h3, fun k hk => ⟨by rw [hm _ h3]; exact (h4 k hk).1, List.mem_append_left _ (h4 k hk).2⟩⟩)
theorem AL.la {c : xCx} {b j : Nat} (h : AL c b j) (hj : 1 ≤ j) : LA c j b := by
  obtain ⟨hD, h⟩ := h
  rcases h with ⟨h1, -⟩ | ⟨h1, h2, h3, h4, h5, h6⟩ | ⟨h1, h2, h3, h4⟩
  · omega
  · exact ⟨hD, by omega, (2, 3), 10, rfl, h4, h2, h3, h6⟩
  · exact ⟨hD, by omega, (2, 4), 15, rfl, h3, by omega, h2, fun k hk => h4 k (by omega)⟩
def edT (T : NT) (s t : Nat) (lo hi co : Int) : NT := T.put 0 (bk (T.G 0) t s) (upL (T.lo 0) (T.G 0).m lo) (upL (T.hi 0) (T.G 0).m hi) (upL (T.co 0) (T.G 0).m co) (T.su 0)
/-- the law holds the edges of the net 0 of T, as far as they are laid -/
def EN (I : xIn) (T : NT) (j : Nat) : Prop := T.N = 1 ∧ (T.G 0).m = j ∧ (2 ≤ (T.G 0).n ∧ (T.G 0).n ≤ 6) ∧ I (2, 1) 2 = (j : Int) ∧ I (2, 1) 0 = (j : Int) ∧ I (2, 0) 4 = ((T.G 0).n : Int) ∧ ∀ k, k < j → (I (er k) 0 = ((T.G 0).u k : Int) ∧ I (er k) 1 = ((T.G 0).v k : Int)) ∧ I (er k) 2 = T.lo 0 k ∧ I (er k) 3 = T.hi 0 k ∧ I (er k) 4 = T.co 0 k
def NC (X : xX) (c : xCx) (b j z mi a0 a9 : Nat) : Prop := AL c b j ∧ c.1 = 1 ∧ SC X c ∧ (c.2.2.2 (2, 8) = z ∧ c.2.2.2 (2, 7) = mi ∧ c.2.2.2 (2, 0) = a0 ∧ c.2.2.2 (2, 9) = a9) ∧ ∀ i, j ≤ i → cFr c (er i)
def NI (c : xCx) (I I0 : xIn) (T : NT) (j : Nat) (A : Int) : Prop := NTok T ∧ CI I c T ∧ EN I T j ∧ AtB I A ∧ ∀ i, i ≠ 0 → I (0, i) = I0 (0, i)
theorem NI.dr {c : xCx} {I J I0 : xIn} {T : NT} {j : Nat} {A : Int} (h : NI c I I0 T j A) (hk : kdr I J) (hA : A + 1 ≤ 1000000) : NI c J I0 T j (A + 1) := by
  obtain ⟨h1, h2, ⟨e1, e2, e3, e4, e5, e6, e7⟩, h4, h5⟩ := h
  have q : ∀ p : xP, p ≠ (2, 0) → J p = I p := hk.1
  refine ⟨h1, h2.keepV hk.V, ⟨e1, e2, e3, by rw [q _ (by decide)]; exact e4, by rw [q _ (by decide)]; exact e5, by rw [hk.2.1 4 (by decide) (by decide)]; exact e6, fun k hk9 => by rw [q _ (er_ne _ _)]; exact e7 k hk9⟩, h4.keep hk.V hA, fun i hi => by rw [q _ (fun z => by cases congrArg Prod.fst z)]; exact h5 i hi⟩
section NO
variable {X : xX} {c : xCx} {I I0 : xIn} {T : NT} {b j : Nat} {A : Int}
theorem nw_edge (hX : xBase X) (d : Nat) (h : NI c I I0 T j A) (hj : j ≤ 10) {s t : Nat} (hs : s < (T.G 0).n) (ht : t < (T.G 0).n) (hst : s ≠ t) {lo hi co : Int} (hlo : 0 ≤ lo ∧ lo ≤ hi) (hhi : hi ≤ 9) (hco : -3 ≤ co ∧ co ≤ 9) : xRet rI X m_X9_edge (d + 8) [xr (0, 0), xi 0, xi (s : Int), xi (t : Int), xi lo, xi hi, xi co] c I 4 24 (fun _ J => (∀ p : xP, p.1 < 3 → J p = I p) ∧ CI J c (edT T s t lo hi co) ∧ NTok (edT T s t lo hi co)) xNo := by
  obtain ⟨h1, h2, ⟨e1, e2, e3, -⟩, -⟩ := h
  have hA : edgeA T 0 s t lo hi co = (((j : Int), 0), edT T s t lo hi co) := by
    unfold edgeA
    rw [w0 e1 hs ht hst, if_neg (by decide), if_pos (show okB lo hi co = true from decide_eq_true ⟨hlo.1, hlo.2, by omega, by omega, by omega⟩), tnN, tnN, Int.toNat_zero, if_neg (by omega), e2]
    unfold edT
    rw [e2]
  have hok := edgeA_ok h1 0 s t lo hi co
  refine xRet_w (cn_edge hX d h1 h2 x0 (xn (by omega)) (xn (by omega)) ⟨by omega, by omega⟩ ⟨by omega, by omega⟩ ⟨by omega, by omega⟩) (fun v J => ?_) (fun e J => ?_)
  · rintro ⟨k1, k2, hv⟩
    rw [hA] at k2 hok
    exact ⟨k1, k2, hok⟩
  · rintro ⟨-, -, hw⟩
    rw [hA] at hw
    exact (exL0 hw).elim
theorem nd_dr (hX : xBase X) (d : Nat) {z mi a0 a9 : Nat} (hC : NC X c b j z mi a0 a9) (hI : NI c I I0 T j A) (hA : A ≤ 1000) {n9 : Int} (hn : 0 < n9 ∧ n9 ≤ 2147483647) : xRet rI X m_L_draw (d + 8) [xr (2, 0), xi n9] c I 0 0 (fun v J => (0 ≤ v ∧ v < n9) ∧ NI c J I0 T j (A + 1)) xNo :=
  xRet_w (lc_draw hX (d + 7) hC.1.1 hC.2.2.1 ⟨hI.2.2.2.1.1, by have := hI.2.2.2.1.2.1; omega⟩ hn) (fun _ _ ⟨h1, h2⟩ => ⟨h1, hI.dr h2 (by omega)⟩) (fun _ _ h => h)
end NO
