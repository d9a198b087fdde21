/-! a net of the class, and how it is laid as flows -/
def CG (I : xIn) (c : xCx) (i : Nat) (G : Gr) : Prop := i < c.1 ∧ I (i + 3, 0) 0 = (G.n : Int) ∧ I (i + 3, 0) 7 = (G.m : Int) ∧ GrOK G ∧ ∀ e, e < G.m → I (i + 3, 1) e = (G.u e : Int) ∧ I (i + 3, 2) e = (G.v e : Int)
/-- what a net's rows may hold -/
def NB (I : xIn) (i m : Nat) : Prop := ∀ e, e < m → 0 ≤ I (i + 3, 3) e ∧ I (i + 3, 3) e ≤ I (i + 3, 4) e ∧ I (i + 3, 4) e ≤ 99 ∧ -20 ≤ I (i + 3, 5) e ∧ I (i + 3, 5) e ≤ 20
def Has (I : xIn) (k : Nat) (lo hi co : Nat → Int) : Prop := ∀ e, e < k → I (0, 6) e = lo e ∧ I (0, 7) e = hi e ∧ I (0, 8) e = co e ∧ I (0, 9) e = (if lo e < 0 then lo e else 0) ∧ I (0, 10) e = hi e ∧ I (0, 11) e = 0
theorem Added.has {I I9 : xIn} {k : Nat} {lo hi co : Nat → Int} {a b z : Int} (h : Has I k lo hi co) (h2 : Added I I9 k a b z) : Has I9 (k + 1) (upL lo k a) (upL hi k b) (upL co k z) := by
  obtain ⟨-, -, h3, h4, h5, h6, h7, h8⟩ := h2
  intro e he
  rw [h3, h4, h5, h6, h7, h8]
  by_cases hk : e = k
  · rw [hk, upL_s, upL_s, upL_s, upL_s, upL_s, upL_s, upL_s, upL_s, upL_s]
    exact ⟨rfl, rfl, rfl, rfl, rfl, rfl⟩
  · simp only [upL_n hk]
    exact h e (by omega)
theorem upL_id (f : Nat → Int) (k : Nat) : upL f k (f k) = f := by
  funext e
  rcases upL_c f k (f k) e with ⟨h1, h2⟩ | ⟨h1, h2⟩ <;> rw [h2]
  rw [h1]
theorem bk_pre (n k : Nat) (u v : Nat → Nat) : bk (n, k, u, v) (v k) (u k) = (n, k + 1, u, v) := by
  unfold bk
  have h1 : (fun e => if e = k then u k else u e) = u := by
    funext e
    by_cases h : e = k
    · rw [if_pos h, h]
    · rw [if_neg h]
  have h2 : (fun e => if e = k then v k else v e) = v := by
    funext e
    by_cases h : e = k
    · rw [if_pos h, h]
    · rw [if_neg h]
  show (n, k + 1, (fun e => if e = k then u k else u e), (fun e => if e = k then v k else v e)) = _
  rw [h1, h2]
def kpA (I J : xIn) : Prop := kp [(0, 3), (0, 4), (0, 5), (0, 6), (0, 7), (0, 8), (0, 9), (0, 10), (0, 11)] I J ∧ ∀ j, j ≠ 1 → J (0, 3) j = I (0, 3) j
theorem kpA.tr {I J K : xIn} (h1 : kpA I J) (h2 : kpA J K) : kpA I K := ⟨h1.1.tr h2.1, fun j hj => (h2.2 j hj).trans (h1.2 j hj)⟩
theorem kpA.net {I J : xIn} (h : kpA I J) (i j : Nat) : J (i + 3, j) = I (i + 3, j) := h.1 _ (by simp)
section SL
variable {X : xX} {c : xCx} {I : xIn} {G : Gr} {i : Nat}
theorem st_addEdges (hX : xBase X) (d : Nat) (hC : CG I c i G) (hN : NB I i G.m) {n : Nat} (hn : G.n ≤ n) (hF : FR I (n, 0, G.u, G.v)) : xRet rU X m_X6_addEdges (d + 3) [xr (0, 2), xr (i + 3, 0)] c I 0 0 (fun _ I9 => kpA I I9 ∧ FR I9 (n, G.m, G.u, G.v) ∧ Has I9 G.m (I (i + 3, 3)) (I (i + 3, 4)) (I (i + 3, 5))) xNo := by
  obtain ⟨c1, c2, c3, c4, c5⟩ := id hC
  have hm := c4.2.2.1
  refine xRet_of hX pl_X6_addEdges (LE1 rfl) fun V hV => rg_X6_addEdges_0 hV I _ c1 ?_
  refine up_to0 (m := G.m) (W := fun k => ∀ J : xIn, kpA I J → FR J (n, k, G.u, G.v) → Has J k (I (i + 3, 3)) (I (i + 3, 4)) (I (i + 3, 5)) → V 2 [(0, xr (0, 2)), (1, xr (i + 3, 0)), (2, xi (k : Int))] [] (J, xst c) 0 0) ?_ ?_ I ⟨kp.rfl, fun _ _ => rfl⟩ hF (fun e he => by omega)
  · intro J h1 h2 h3
    refine rg_X6_addEdges_2 hV J _ c1 _ ⟨⟨by omega, by omega⟩, fun _ => ⟨h1, h2, h3⟩, fun h => ?_⟩
    rw [h1.net, c3] at h; omega
  · intro k hk ih J h1 h2 h3
    have b1 := hN k hk
    have b2 := c4.2.2.2 k hk
    refine rg_X6_addEdges_2 hV J _ c1 _ ⟨⟨by omega, by omega⟩, fun h => ?_, fun _ => ⟨⟨by omega, by omega⟩, ?_⟩⟩
    · rw [h1.net, c3] at h; omega
    rw [tnN, h1.net, h1.net, h1.net, h1.net, h1.net, (c5 k hk).1, (c5 k hk).2]
    refine ⟨_, fl_add hX d h2 (show G.u k < n by omega) (show G.v k < n by omega) (show k < 32 by omega) ⟨by omega, by omega⟩ ⟨by omega, by omega⟩ ⟨by omega, by omega⟩, ?_⟩
    rintro _ I9 ⟨a1, a2⟩
    rw [bk_pre] at a1
    have a3 := Added.has h3 a2
    rw [upL_id, upL_id, upL_id] at a3
    exact ih I9 (h1.tr ⟨a2.1, a2.2.1⟩) a1 a3
/-- all that lay leaves -/
def LaidS (I I9 : xIn) (i : Nat) (G : Gr) (s t : Nat) : Prop := kp ((0, 2) :: [(0, 3), (0, 4), (0, 5), (0, 6), (0, 7), (0, 8), (0, 9), (0, 10), (0, 11)]) I I9 ∧ FR I9 (bk G s t) ∧ Has I9 (G.m + 1) (upL (I (i + 3, 3)) G.m (-1000000)) (upL (I (i + 3, 4)) G.m 1000000) (upL (I (i + 3, 5)) G.m 0) ∧ I9 (0, 2) 1 = (s : Int) ∧ I9 (0, 2) 2 = (t : Int) ∧ I9 (0, 2) 3 = (G.m : Int)
theorem st_lay (hX : xBase X) (d : Nat) (hC : CG I c i G) (hN : NB I i G.m) {s t : Nat} (hs : s < G.n) (ht : t < G.n) : xRet rU X m_X6_lay (d + 4) [xr (0, 2), xr (i + 3, 0), xi (s : Int), xi (t : Int)] c I 0 0 (fun _ I9 => LaidS I I9 i G s t) xNo := by
  obtain ⟨c1, c2, c3, c4, c5⟩ := id hC
  have hn := c4.2.1
  have hm := c4.2.2.1
  refine xRet_of hX pl_X6_lay (LE1 rfl) fun V hV => rg_X6_lay_0 hV I _ c1 _ _ ⟨⟨by omega, by omega⟩, ?_⟩
  rintro I1 h1
  refine ⟨⟨by omega, by omega⟩, ?_⟩
  rintro I2 h2
  have k2 : kp [(0, 2)] I I2 := by rw [h2, h1]; exact (kp.rfl.xu (by simp)).xu (by simp)
  have e21 : I2 (0, 2) 1 = (s : Int) := by rw [h2, xu_k (by decide), h1, xu_same]
  have e22 : I2 (0, 2) 2 = (t : Int) := by rw [h2, xu_same]
  clear h1 h2
  rw [k2 (i + 3, 0) (by simp), c2]
  refine ⟨_, fl_start hX (d + 3) (show G.n ≤ 16 by omega), ?_⟩
  rintro _ I3 ⟨k3, e3⟩
  have k23 : kp [(0, 2), (0, 3)] I I3 := (k2.mo (by simp)).tr (k3.mo (by simp))
  have hF3 : FR I3 (G.n, 0, G.u, G.v) := by
    refine ⟨?_, ?_, show G.n ≤ 16 by omega, show 0 ≤ 32 by omega, fun e he => absurd he (Nat.not_lt_zero e), fun e he => absurd he (Nat.not_lt_zero e)⟩
    · rw [e3, upL_n (by decide), upL_n (by decide), upL_s]
    · rw [e3, upL_n (by decide), upL_s]; rfl
  have hnet : ∀ j, I3 (i + 3, j) = I (i + 3, j) := fun j => k23 _ (by simp)
  have hC3 : CG I3 c i G := by unfold CG; rw [hnet, hnet, hnet]; exact hC
  have hN3 : NB I3 i G.m := by unfold NB; rw [hnet, hnet, hnet]; exact hN
  refine ⟨_, st_addEdges hX d hC3 hN3 (Nat.le_refl _) hF3, ?_⟩
  rintro _ I4 ⟨k4, hF4, hH4⟩
  rw [hnet, hnet, hnet] at hH4
  rw [k4.net, hnet, c3]
  rintro I5 h5
  have k5 : kp [(0, 2)] I4 I5 := by rw [h5]; exact kp.rfl.xu (by simp)
  have e2 : I4 (0, 2) = I2 (0, 2) := (k4.1 _ (by decide)).trans (k3 _ (by decide))
  have e51 : I5 (0, 2) 1 = (s : Int) := by rw [h5, xu_k (by decide), e2, e21]
  have e52 : I5 (0, 2) 2 = (t : Int) := by rw [h5, xu_k (by decide), e2, e22]
  have e53 : I5 (0, 2) 3 = (G.m : Int) := by rw [h5, xu_same]
  clear h5
  rw [e51, e52]
  have hF5 : FR I5 G := hF4.kp k5 (by decide) (by decide) (by decide)
  refine ⟨_, fl_add hX (d + 1) hF5 ht hs (show G.m < 32 by omega) ⟨by omega, by omega⟩ ⟨by omega, by omega⟩ ⟨by omega, by omega⟩, ?_⟩
  rintro _ I9 ⟨a1, a2⟩
  have hH5 : Has I5 G.m (I (i + 3, 3)) (I (i + 3, 4)) (I (i + 3, 5)) := by
    unfold Has
    rw [k5 _ (by decide), k5 _ (by decide), k5 _ (by decide), k5 _ (by decide), k5 _ (by decide), k5 _ (by decide)]
    exact hH4
  have e9 : I9 (0, 2) = I5 (0, 2) := a2.1 _ (by decide)
  exact ⟨(((k23.mo (by simp)).tr (k4.1.mo (by simp))).tr (k5.mo (by simp))).tr (a2.1.mo (by simp)), a1, Added.has hH5 a2, by rw [e9, e51], by rw [e9, e52], by rw [e9, e53]⟩
end SL
