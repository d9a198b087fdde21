/-! the class's greatest amount -/
theorem ff_congT {p q : Nat → Bool} {n : Nat} (h : ∀ S, p S = q S) : ff p n = ff q n := ff_cong fun S _ => h S
theorem mn_cong {none : Int} {p : Nat → Bool} {f g : Nat → Int} {n : Nat} (h : ∀ S, f S = g S) : mn none p f n = mn none p g n := by
  have : f = g := funext h
  rw [this]
theorem amountF_cong {G : Gr} {lo hi lo9 hi9 : Nat → Int} {s t : Nat} (h1 : ∀ k, k < G.m → lo k = lo9 k) (h2 : ∀ k, k < G.m → hi k = hi9 k) : amountF G lo hi s t = amountF G lo9 hi9 s t := by
  have e1 : crowdP G lo hi s t = crowdP G lo9 hi9 s t := by
    funext S
    unfold crowdP
    rw [sOut_cong h1, sIn_cong h2]
  have e2 : cutV G lo hi = cutV G lo9 hi9 := by
    funext S
    unfold cutV
    rw [sOut_cong h2, sIn_cong h1]
  unfold amountF
  rw [e1, e2]
/-- what lay and fill may change -/
def kpX (I J : xIn) : Prop := kp [(0, 2), (0, 3), (0, 4), (0, 5), (0, 6), (0, 7), (0, 8), (0, 9), (0, 10), (0, 11), (0, 12), (0, 14)] I J
theorem LaidS.pre {I I9 : xIn} {i : Nat} {G : Gr} {s t : Nat} (h : LaidS I I9 i G s t) (hN : NB I i G.m) : kpX I I9 ∧ Laid I9 (G.m + 1) ∧ (∀ e, e < G.m → I9 (0, 6) e = I (i + 3, 3) e ∧ I9 (0, 7) e = I (i + 3, 4) e ∧ I9 (0, 8) e = I (i + 3, 5) e) ∧ I9 (0, 6) G.m = -1000000 ∧ I9 (0, 7) G.m = 1000000 := by
  obtain ⟨h1, h2, h3, -⟩ := h
  have hm := h3 G.m (by omega)
  rw [upL_s, upL_s, upL_s] at hm
  have he : ∀ e, e < G.m → _ := fun e he => h3 e (by omega)
  refine ⟨h1.mo (by simp), fun e he9 => ?_, fun e he9 => ?_, hm.1, hm.2.1⟩
  · by_cases hk : e = G.m
    · rw [hk]
      have h5 : I9 (0, 9) G.m = -1000000 := hm.2.2.2.1
      rw [hm.1, hm.2.1, h5, hm.2.2.2.2.1, hm.2.2.2.2.2]
      decide
    · have h4 := he e (by omega)
      simp only [upL_n hk] at h4
      have h5 := hN e (by omega)
      obtain ⟨z1, z2, z3, z4, z5, z6⟩ := h4
      rw [if_neg (by omega)] at z4
      rw [z1, z2, z4, z5, z6, if_neg (by omega)]
      exact ⟨rfl, rfl, rfl, by omega, by omega, by omega, by omega⟩
  · have h4 := he e he9
    simp only [upL_n (show e ≠ G.m by omega)] at h4
    exact ⟨h4.1, h4.2.1, h4.2.2.1⟩
theorem kpF.fr {I J : xIn} {G : Gr} (h : kpF I J) (hF : FR I G) : FR J G := by
  unfold FR
  rw [h.2.1 0 (by decide), h.2.1 1 (by decide), h.1 (0, 4) (by decide), h.1 (0, 5) (by decide)]
  exact hF
section CM
variable {X : xX} {c : xCx} {I : xIn} {i : Nat} {G : Gr} {s t : Nat}
theorem cn_greatest (hX : xBase X) (d : Nat) (hC : CG I c i G) (hN : NB I i G.m) (hs : s < G.n) (ht : t < G.n) (hst : s ≠ t) : xRet rI X m_X9_greatestAmount (d + 8) [xr (0, 0), xr (i + 3, 0), xi (s : Int), xi (t : Int)] c I 1 6 (fun v I9 => kpX I I9 ∧ v = amountF G (I (i + 3, 3)) (I (i + 3, 4)) s t ∧ v ≠ NONE9 ∧ FR I9 (bk G s t) ∧ ∃ a0 p lo hi, Filled I9 G s t lo hi a0 p ∧ (∀ e, e < G.m → lo e = I (i + 3, 3) e ∧ hi e = I (i + 3, 4) e) ∧ a0 + p = v) (fun e I9 => e = xNSE ∧ kpX I I9 ∧ amountF G (I (i + 3, 3)) (I (i + 3, 4)) s t = NONE9) := by
  have hG := hC.2.2.2.1
  refine xRet_of hX pl_X9_greatestAmount (LE1 rfl) fun V hV => rg_X9_greatestAmount_0 hV I _ hC.1 _ _ ⟨_, st_lay hX (d + 3) hC hN hs ht, ?_⟩
  rintro _ I1 hL
  obtain ⟨p1, p2, p3, p4, p5⟩ := hL.pre hN
  obtain ⟨-, l2, -, l4, l5, l6⟩ := hL
  have hamt : amountF G (I1 (0, 6)) (I1 (0, 7)) s t = amountF G (I (i + 3, 3)) (I (i + 3, 4)) s t := amountF_cong (fun e he => (p3 e he).1) (fun e he => (p3 e he).2.1)
  refine ⟨_, st_fill hX (d + 3) hG hs ht hst l2 p2 (fun e he => ?_) p4 p5 l4 l5 l6, ?_⟩
  · have := hN e he
    rw [(p3 e he).1, (p3 e he).2.1]
    omega
  rintro v I2 ⟨k2, h2⟩
  have kX : kpX I I2 := kp.tr p1 (k2.1.mo (by simp))
  refine ⟨_, _, cn_needFlow hX d v, ?_, ?_⟩
  · rintro e I3 ⟨rfl, rfl, rfl⟩
    rcases h2 with ⟨h2, -⟩ | ⟨-, h2⟩
    · cases h2
    · exact ⟨rfl, kX, by rw [← hamt]; exact h2⟩
  · rintro _ I3 ⟨rfl, rfl⟩
    rcases h2 with ⟨-, a0, p, f1, f2, f3, f4⟩ | ⟨h2, -⟩
    · rw [hamt] at f2 f3
      exact ⟨kX, by rw [f4, f2], by rw [f4, f2]; exact f3, k2.fr l2, a0, p, _, _, f1, fun e he => ⟨(p3 e he).1, (p3 e he).2.1⟩, f4.symm⟩
    · cases h2
end CM
