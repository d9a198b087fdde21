/-! settle: each edge is raised to its least, or there is a crowd -/
theorem sumE_lt {n k : Nat} {f g : Nat → Int} (hk : k < n) (h : ∀ e, e < n → f e ≤ g e) (hs : f k < g k) : sumE n f < sumE n g := by
  have h1 := sumE_at hk f
  have h2 := sumE_at hk g
  have h3 : sumE n (fun e => if e = k then 0 else f e) ≤ sumE n (fun e => if e = k then 0 else g e) := sumE_le fun e he => by
    by_cases hek : e = k
    · rw [if_pos hek, if_pos hek]; exact Int.le_refl _
    · rw [if_neg hek, if_neg hek]; exact h e he
  omega
/-- a circulation that is full into a set and too small out of it -/
theorem crowd_of {G : Gr} {l h g : Nat → Int} {e : Nat} (hG : GrIn G) (hg : ∀ x, x < G.n → nout G g x = 0) (he : e < G.m) (hlt : g e < l e) {T : Nat → Bool} (h1 : T (G.u e) = true) (h2 : T (G.v e) = false) (h3 : ∀ k, k < G.m → k ≠ e → (T (G.u k) = true → T (G.v k) = false → g k ≤ l k) ∧ (T (G.u k) = false → T (G.v k) = true → g k = h k)) : ∃ S, S < 2 ^ G.n ∧ sIn G h S < sOut G l S := by
  refine ⟨mask T G.n, mask_lt T G.n, ?_⟩
  have hu : ∀ k, k < G.m → (mask T G.n).testBit (G.u k) = T (G.u k) := fun k hk => mask_bit T _ _ (hG k hk).1
  have hv : ∀ k, k < G.m → (mask T G.n).testBit (G.v k) = T (G.v k) := fun k hk => mask_bit T _ _ (hG k hk).2
  have hc := cut_sum hG g (mask T G.n)
  have h0 : sumE G.n (fun x => ind (mask T G.n) x * nout G g x) = 0 := sumE_0 fun x hx => by rw [hg x hx, Int.mul_zero]
  have hi : sIn G g (mask T G.n) = sIn G h (mask T G.n) := sumE_cong fun k hk => by
    unfold ens
    rw [hu k hk, hv k hk]
    by_cases hke : k = e
    · rw [hke, h1, h2]; rfl
    · cases a1 : T (G.u k) <;> cases a2 : T (G.v k) <;> simp
      exact (h3 k hk hke).2 a1 a2
  have hlv : ∀ k, k < G.m → lvs G (mask T G.n) k = (T (G.u k) && !T (G.v k)) := fun k hk => by unfold lvs; rw [hu k hk, hv k hk]
  have ho : sOut G g (mask T G.n) < sOut G l (mask T G.n) := sumE_lt he (fun k hk => by
    rw [hlv k hk]
    by_cases hke : k = e
    · rw [hke, h1, h2]; simp; omega
    · cases a1 : T (G.u k) <;> cases a2 : T (G.v k) <;> simp
      exact (h3 k hk hke).1 a1 a2) (by
    rw [hlv e he, h1, h2]
    simpa using hlt)
  omega
section FE
variable {X : xX} {c : xCx} {I : xIn} {G : Gr}
/-- as the edges are laid -/
def Laid (I : xIn) (m : Nat) : Prop := ∀ e, e < m → I (0, 11) e = 0 ∧ I (0, 9) e = (if I (0, 6) e < 0 then I (0, 6) e else 0) ∧ I (0, 10) e = I (0, 7) e ∧ I (0, 6) e ≤ I (0, 7) e ∧ 0 ≤ I (0, 7) e ∧ -1000000 ≤ I (0, 6) e ∧ I (0, 7) e ≤ 1000000
theorem fl_settle (hX : xBase X) (d : Nat) (hF : FR I G) (hne : ∀ e, e < G.m → G.u e ≠ G.v e) (hL : Laid I G.m) : xRet rB X m_X1_settle (d + 3) [xr (0, 3)] c I 0 0 (fun v I9 => kpL I I9 ∧ ((v = true ∧ (∀ e, e < G.m → I9 (0, 9) e = I (0, 6) e ∧ I9 (0, 10) e = I (0, 7) e) ∧ In9 I9 G.m ∧ ∀ x, nout G (I9 (0, 11)) x = 0) ∨ (v = false ∧ ∃ S, S < 2 ^ G.n ∧ sIn G (I (0, 7)) S < sOut G (I (0, 6)) S))) xNo := by
  obtain ⟨g1, g2, g3, g4, g5, g6⟩ := id hF
  refine xRet_of hX pl_X1_settle (LE1 rfl) fun V hV => rg_X1_settle_0 hV I ?_
  refine up_to0 (m := G.m) (W := fun e => ∀ J : xIn, kpL I J → (∀ k, k < G.m → J (0, 10) k = I (0, 7) k ∧ (k < e → J (0, 9) k = I (0, 6) k) ∧ (e ≤ k → J (0, 9) k = (if I (0, 6) k < 0 then I (0, 6) k else 0))) → In9 J G.m → (∀ x, nout G (J (0, 11)) x = 0) → V 2 [(0, xr (0, 3)), (1, xi (e : Int))] [] (J, xst c) 0 0) ?_ ?_ I ⟨kp.rfl, fun _ _ => rfl⟩ (fun k hk => ⟨(hL k hk).2.2.1, fun h => by omega, fun _ => (hL k hk).2.1⟩) (fun k hk => ?_) (fun x => ?_)
  · intro J hJ h1 h2 h3
    refine rg_X1_settle_2 hV J _ ⟨⟨by omega, by omega⟩, fun _ => ⟨hJ, Or.inl ⟨rfl, fun e he => ⟨(h1 e he).2.1 he, (h1 e he).1⟩, h2, h3⟩⟩, fun h => ?_⟩
    rw [hJ.2 1 (by decide), g2] at h; omega
  · intro e he ih J hJ h1 h2 h3
    have hFJ := hJ.fr hF
    have q6 : J (0, 6) = I (0, 6) := hJ.1 _ (by decide)
    have q7 : J (0, 7) = I (0, 7) := hJ.1 _ (by decide)
    have hLe := hL e he
    have h1e := h1 e he
    have h2e := h2 e he
    have hlo := h1e.2.2 (Nat.le_refl _)
    refine rg_X1_settle_2 hV J _ ⟨⟨by omega, by omega⟩, fun h => ?_, fun _ => ⟨⟨by omega, by omega⟩, ?_⟩⟩
    · rw [hJ.2 1 (by decide), g2] at h; omega
    rw [tnN, q6]
    rintro x2 hx2
    refine ⟨_, fl_keep hX (d + 1) hFJ he, ?_⟩
    rintro _ I1 ⟨k1, k2, k3⟩
    have q11 : I1 (0, 11) = J (0, 11) := k1 _ (by decide)
    have hF1 := (kpL.k k1).fr hFJ
    rw [(hF1.2.2.2.2.2 e he).1, (hF1.2.2.2.2.2 e he).2]
    have hJl : ∀ k, k < G.m → -1000000 ≤ J (0, 9) k ∧ J (0, 9) k ≤ I (0, 6) k ∨ (J (0, 9) k = 0 ∨ J (0, 9) k = I (0, 6) k) := fun k hk => by
      right
      by_cases hke : k < e
      · exact Or.inr ((h1 k hk).2.1 hke)
      · have := (h1 k hk).2.2 (by omega)
        rw [this]
        split
        · exact Or.inr rfl
        · exact Or.inl rfl
    have hbJ : Bd9 J G.m := fun k hk => by
      have b1 := hL k hk
      have b2 := hJl k hk
      have b3 := (h1 k hk).1
      omega
    have hb1 : Bd9 I1 G.m := by
      intro k hk
      rw [k2, k3]
      have b1 := hbJ k hk
      rcases upL_c (J (0, 9)) e (J (0, 11) e) k with ⟨z1, z2⟩ | ⟨z1, z2⟩ <;> rcases upL_c (J (0, 10)) e (J (0, 11) e) k with ⟨z3, z4⟩ | ⟨z3, z4⟩ <;> rw [z2, z4] <;> first | omega | (have := hbJ e he; omega)
    have hi1 : In9 I1 G.m := by
      intro k hk
      rw [k2, k3, q11]
      have := h2 k hk
      by_cases hke : k = e
      · rw [hke, upL_s, upL_s]; omega
      · rw [upL_n hke, upL_n hke]; exact this
    have hx2b : -4000000 ≤ x2 ∧ x2 ≤ 1000000 := by
      have := hbJ e he
      split at hlo <;> omega
    refine ⟨_, fl_push hX d hF1 hb1 hi1 (g5 e he).2 (g5 e he).1 (fun z => hne e he z.symm) hx2b.1 hx2b.2, ?_⟩
    rintro a I2 ⟨p1, p2, p3, p4, p5, p6⟩
    rw [k2, k3] at p6
    rw [q11] at p5
    have e9 : I2 (0, 9) = upL (J (0, 9)) e (J (0, 11) e) := (p1.1 _ (by decide)).trans k2
    have e10 : I2 (0, 10) = upL (J (0, 10)) e (J (0, 11) e) := (p1.1 _ (by decide)).trans k3
    have h2e' := p2 e he
    rw [e9, e10, upL_s, upL_s] at h2e'
    have hoth : ∀ k, k < G.m → k ≠ e → J (0, 9) k ≤ I2 (0, 11) k ∧ I2 (0, 11) k ≤ J (0, 10) k := fun k hk hke => by
      have := p2 k hk
      rw [e9, e10, upL_n hke, upL_n hke] at this
      exact this
    rw [q11]
    have hbe := hbJ e he
    refine ⟨⟨by omega, by omega⟩, ?_⟩
    rintro I3 hI3
    have q3 : I3 (0, 11) = upL (I2 (0, 11)) e (I2 (0, 11) e + a) := by rw [hI3, xuL]; congr 1; omega
    have k3' : kpL I I3 := (((hJ.tr (kpL.k k1)).tr p1.L)).tr ⟨by rw [hI3]; exact kp.rfl.xu (by simp), fun j _ => by rw [hI3, xu_p (by decide)]⟩
    have r9 : I3 (0, 9) = I2 (0, 9) := by rw [hI3, xu_p (by decide)]
    have r10 : I3 (0, 10) = I2 (0, 10) := by rw [hI3, xu_p (by decide)]
    have v3 : I3 (0, 11) e = J (0, 11) e + a := by rw [q3, upL_s]; omega
    have n3 : ∀ x, nout G (I3 (0, 11)) x = 0 := fun x => by
      rw [q3, nout_up _ he, p5 x, h3 x]
      split <;> split <;> omega
    clear hI3
    rw [k3'.1 (0, 6) (by decide), v3]
    refine ⟨fun hle => ⟨_, fl_free hX (d + 1) (k3'.fr hF) he, ?_⟩, fun hlt => ⟨k3', Or.inr ⟨rfl, ?_⟩⟩⟩
    · rintro _ I4 ⟨j1, j2, j3⟩
      have q4 : I4 (0, 11) = I3 (0, 11) := j1 _ (by decide)
      rw [k3'.1 (0, 6) (by decide), r9, e9] at j2
      rw [k3'.1 (0, 7) (by decide), r10, e10] at j3
      refine ih I4 (k3'.tr (kpL.k j1)) (fun k hk => ?_) (fun k hk => ?_) (by rw [q4]; exact n3)
      · by_cases hke : k = e
        · rw [j2, j3, hke, upL_s, upL_s]
          exact ⟨rfl, fun _ => rfl, fun h => by omega⟩
        · rw [j2, j3, upL_n hke, upL_n hke, upL_n hke, upL_n hke]
          exact ⟨(h1 k hk).1, fun h => (h1 k hk).2.1 (by omega), fun h => (h1 k hk).2.2 (by omega)⟩
      · by_cases hke : k = e
        · rw [j2, j3, q4, hke, upL_s, upL_s, v3]
          have := h1e.1
          omega
        · rw [j2, j3, q4, q3, upL_n hke, upL_n hke, upL_n hke, upL_n hke, upL_n hke]
          exact hoth k hk hke
    · rcases p6 with h | h
      · omega
      · obtain ⟨T, t1, t2, t3⟩ := h.cut hoth (g := I3 (0, 11)) (fun k hke => by rw [q3, upL_n hke])
        refine crowd_of g5 (fun x _ => n3 x) he (by rw [v3]; exact hlt) t1 t2 fun k hk hke => ⟨fun a1 a2 => ?_, fun a1 a2 => ?_⟩
        · rw [(t3 k hk hke).1 a1 a2]
          have b1 := hL k hk
          have b2 := (h1 k hk).2
          by_cases hlt9 : k < e
          · have := b2.1 hlt9; omega
          · have := b2.2 (by omega); split at this <;> omega
        · rw [(t3 k hk hke).2 a1 a2]
          exact (h1 k hk).1
  · have := hL k hk
    split at this <;> omega
  · exact sumE_0 fun e he => by rw [(hL e he).1]; split <;> split <;> rfl
end FE
