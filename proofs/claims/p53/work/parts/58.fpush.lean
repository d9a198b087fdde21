/-! push, keep, free, lower -/
def In9 (I : xIn) (m : Nat) : Prop := ∀ e, e < m → I (0, 9) e ≤ I (0, 11) e ∧ I (0, 11) e ≤ I (0, 10) e
/-- bounds that are near enough -/
def Bd9 (I : xIn) (m : Nat) : Prop := ∀ e, e < m → (-2000000 ≤ I (0, 9) e ∧ I (0, 9) e ≤ 2000000) ∧ (-2000000 ≤ I (0, 10) e ∧ I (0, 10) e ≤ 2000000)
theorem Bd9.f {I : xIn} {m : Nat} (h : Bd9 I m) (h2 : In9 I m) : FBd I m := fun e he => by
  have h1 := h e he
  have h3 := h2 e he
  exact ⟨h1.1, h1.2, by omega⟩
section FP
variable {X : xX} {c : xCx} {I : xIn} {G : Gr}
theorem fl_push (hX : xBase X) (d : Nat) (hF : FR I G) (hb : Bd9 I G.m) (hi9 : In9 I G.m) {s t : Nat} {lim : Int} (hs : s < G.n) (ht : t < G.n) (hst : s ≠ t) (hl0 : -4000000 ≤ lim) (hl1 : lim ≤ 1000000) : xRet rI X m_X1_push (d + 2) [xr (0, 3), xi (s : Int), xi (t : Int), xi lim] c I 0 0 (fun v I9 => kpS I I9 ∧ In9 I9 G.m ∧ 0 ≤ v ∧ (v ≤ lim ∨ v = 0) ∧ (∀ x, nout G (I9 (0, 11)) x = nout G (I (0, 11)) x + ((if s = x then v else 0) - (if t = x then v else 0))) ∧ (lim ≤ v ∨ Shut G (I (0, 9)) (I (0, 10)) (I9 (0, 11)) s t)) xNo := by
  obtain ⟨g1, g2, g3, g4, g5, g6⟩ := id hF
  refine xRet_of hX pl_X1_push (LE1 rfl) fun V hV => rg_X1_push_0 hV I _ _ _ ?_
  have loop : ∀ (n : Nat) (J : xIn) (a r : Int), lim - a ≤ n → kpS I J → In9 J G.m → 0 ≤ r → r ≤ a → (a ≤ lim ∨ a = 0) → (∀ x, nout G (J (0, 11)) x = nout G (I (0, 11)) x + ((if s = x then a else 0) - (if t = x then a else 0))) → V 6 [(0, xr (0, 3)), (1, xi (s : Int)), (2, xi (t : Int)), (3, xi lim), (4, xi a), (5, xi r)] [] (J, xst c) 0 0 := by
    intro n
    induction n with
    | zero =>
      intro J a r h1 h2 h3 h4 h5 h6 h7
      have hend : 0 ≤ a ∧ (lim ≤ a ∨ Shut G (I (0, 9)) (I (0, 10)) (J (0, 11)) s t) := ⟨by omega, Or.inl (by omega)⟩
      exact rg_X1_push_6 hV J _ _ _ _ _ ⟨⟨by omega, by omega⟩, fun _ => ⟨h2, h3, hend.1, h6, h7, hend.2⟩, fun _ => ⟨⟨by omega, by omega⟩, ⟨by omega, by omega⟩, fun _ => ⟨h2, h3, hend.1, h6, h7, hend.2⟩, fun h => by omega⟩⟩
    | succ n ih =>
      intro J a r h1 h2 h3 h4 h5 h6 h7
      have q9 : J (0, 9) = I (0, 9) := h2.1 _ (by decide)
      have q10 : J (0, 10) = I (0, 10) := h2.1 _ (by decide)
      have hbJ : Bd9 J G.m := by unfold Bd9; rw [q9, q10]; exact hb
      refine rg_X1_push_6 hV J _ _ _ _ _ ⟨⟨by omega, by omega⟩, fun h => ⟨h2, h3, by omega, h6, h7, Or.inl (by omega)⟩, fun _ => ⟨⟨by omega, by omega⟩, ⟨by omega, by omega⟩, fun h => ⟨h2, h3, by omega, h6, h7, Or.inl h⟩, fun h => ⟨_, fl_send hX d (h2.fr hF) (hbJ.f h3) hs ht hst (by omega) (by omega), ?_⟩⟩⟩
      rintro v I9 ⟨k1, ⟨rfl, k2, k3⟩ | ⟨k, L, w, p, k2, k3, k4, k5, k6, k7, k8⟩⟩
      · have e9 : In9 I9 G.m := by
          unfold In9
          rw [k1.1 (0, 9) (by decide), k1.1 (0, 10) (by decide), k2]
          exact h3
        rw [q9, q10, ← k2] at k3
        exact ⟨⟨by omega, by omega⟩, fun h => by omega, fun _ => ⟨h2.tr k1, e9, by omega, h6, by rw [k2]; exact h7, Or.inr k3⟩⟩
      · have hm := mw_le (lim := lim - a) (g := fun i => rsp (J (0, 9)) (J (0, 10)) (J (0, 11)) (w i)) (k := k)
        rw [← k4] at hm
        have e9 : In9 I9 G.m := by
          unfold In9
          rw [k1.1 (0, 9) (by decide), k1.1 (0, 10) (by decide), k6]
          exact ap_in k3.apart (by omega) hm.2 h3
        refine ⟨⟨by omega, by omega⟩, fun _ => ih I9 _ _ (by omega) (h2.tr k1) e9 (by omega) (by omega) (Or.inl (by omega)) fun x => ?_, fun h => by omega⟩
        rw [k6, nout_ap (fun i hi => ⟨(k3.2.2.2.2 i hi).2.2.1, (k3.2.2.2.2 i hi).2.2.2.1, (k3.2.2.2.2 i hi).2.2.2.2.1⟩), h7 x, k3.2.1, k3.2.2.1]
        split <;> split <;> omega
  refine loop (Int.toNat lim) I 0 0 (by omega) ⟨kp.rfl, fun _ _ => rfl⟩ hi9 (by omega) (by omega) (Or.inr rfl) fun x => ?_
  split <;> split <;> omega
theorem fl_keep (hX : xBase X) (d : Nat) (hF : FR I G) {e : Nat} (he : e < G.m) : xRet rU X m_X1_keep (d + 1) [xr (0, 3), xi (e : Int)] c I 0 0 (fun _ I9 => kp [(0, 9), (0, 10)] I I9 ∧ I9 (0, 9) = upL (I (0, 9)) e (I (0, 11) e) ∧ I9 (0, 10) = upL (I (0, 10)) e (I (0, 11) e)) xNo := by
  have g4 := hF.2.2.2.1
  refine xRet_of hX pl_X1_keep (LE1 rfl) fun V hV => rg_X1_keep_0 hV I _ ⟨_, fl_isEdge hX d hF he, ?_⟩
  rintro _ I ⟨rfl, rfl⟩
  refine ⟨fun h => (by cases h), fun _ => ⟨⟨by omega, by omega⟩, ?_⟩⟩
  rintro _ rfl _ rfl
  refine ⟨(kp.rfl.xu (by simp)).xu (by simp), ?_, ?_⟩
  · rw [xu_p (by decide), xuL, tnN]
  · rw [xuL, xu_p (by decide), xu_p (by decide), tnN]
theorem fl_free (hX : xBase X) (d : Nat) (hF : FR I G) {e : Nat} (he : e < G.m) : xRet rU X m_X1_free (d + 1) [xr (0, 3), xi (e : Int)] c I 0 0 (fun _ I9 => kp [(0, 9), (0, 10)] I I9 ∧ I9 (0, 9) = upL (I (0, 9)) e (I (0, 6) e) ∧ I9 (0, 10) = upL (I (0, 10)) e (I (0, 7) e)) xNo := by
  have g4 := hF.2.2.2.1
  refine xRet_of hX pl_X1_free (LE1 rfl) fun V hV => rg_X1_free_0 hV I _ ⟨_, fl_isEdge hX d hF he, ?_⟩
  rintro _ I ⟨rfl, rfl⟩
  refine ⟨fun h => (by cases h), fun _ => ⟨⟨by omega, by omega⟩, ?_⟩⟩
  rintro _ rfl _ rfl
  refine ⟨(kp.rfl.xu (by simp)).xu (by simp), ?_, ?_⟩
  · rw [xu_p (by decide), xuL, tnN]
  · rw [xuL, xu_p (by decide), xu_p (by decide), tnN]
/-- a cut that e enters and that is full -/
def Tight (G : Gr) (lo hi f : Nat → Int) (e : Nat) : Prop := ∃ T : Nat → Bool, T (G.v e) = true ∧ T (G.u e) = false ∧ ∀ k, k < G.m → k ≠ e → (T (G.u k) = true → T (G.v k) = false → f k = lo k) ∧ (T (G.u k) = false → T (G.v k) = true → f k = hi k)
/-- what is shut is a cut that is full -/
theorem Shut.cut {G : Gr} {lo hi f g : Nat → Int} {e s t : Nat} {a : Int} (h : Shut G (upL lo e a) (upL hi e a) f s t) (hf : ∀ k, k < G.m → k ≠ e → lo k ≤ f k ∧ f k ≤ hi k) (hg : ∀ k, k ≠ e → g k = f k) : ∃ T : Nat → Bool, T t = true ∧ T s = false ∧ ∀ k, k < G.m → k ≠ e → (T (G.u k) = true → T (G.v k) = false → g k = lo k) ∧ (T (G.u k) = false → T (G.v k) = true → g k = hi k) := by
  obtain ⟨T, h1, h2, h3⟩ := h
  refine ⟨T, h1, h2, fun k hk hke => ⟨fun a1 a2 => ?_, fun a1 a2 => ?_⟩⟩
  · have h4 := hf k hk hke
    rw [hg k hke]
    by_cases hlt : lo k < f k
    · have := h3 _ _ ⟨k, hk, Or.inr ⟨rfl, rfl, by rw [upL_n hke]; exact hlt⟩⟩ a1
      rw [a2] at this; cases this
    · omega
  · have h4 := hf k hk hke
    rw [hg k hke]
    by_cases hlt : f k < hi k
    · have := h3 _ _ ⟨k, hk, Or.inl ⟨rfl, rfl, by rw [upL_n hke]; exact hlt⟩⟩ a2
      rw [a1] at this; cases this
    · omega
theorem Shut.tight {G : Gr} {lo hi f g : Nat → Int} {e : Nat} {a : Int} (h : Shut G (upL lo e a) (upL hi e a) f (G.u e) (G.v e)) (hf : ∀ k, k < G.m → k ≠ e → lo k ≤ f k ∧ f k ≤ hi k) (hg : ∀ k, k ≠ e → g k = f k) : Tight G lo hi g e := h.cut hf hg
/-- what lower may change -/
def kpL (I J : xIn) : Prop := kp [(0, 3), (0, 9), (0, 10), (0, 11), (0, 12), (0, 14)] I J ∧ ∀ j, j ≠ 13 → J (0, 3) j = I (0, 3) j
theorem kpL.fr {I J : xIn} {G : Gr} (h : kpL I J) (hF : FR I G) : FR J G := by
  unfold FR
  rw [h.2 0 (by decide), h.2 1 (by decide), h.1 (0, 4) (by decide), h.1 (0, 5) (by decide)]
  exact hF
theorem kpL.tr {I J K : xIn} (h1 : kpL I J) (h2 : kpL J K) : kpL I K := ⟨h1.1.tr h2.1, fun j hj => (h2.2 j hj).trans (h1.2 j hj)⟩
theorem kpS.L {I J : xIn} (h : kpS I J) : kpL I J := ⟨h.1.mo (by simp), h.2⟩
theorem kpL.k {I J : xIn} (h : kp [(0, 9), (0, 10)] I J) : kpL I J := ⟨h.mo (by simp), fun j _ => by rw [h _ (by decide)]⟩
theorem fl_lower (hX : xBase X) (d : Nat) (hF : FR I G) (hb : Bd9 I G.m) (hi9 : In9 I G.m) {e : Nat} (he : e < G.m) (hne : G.u e ≠ G.v e) (hsp : I (0, 11) e - I (0, 9) e ≤ 1000000) : xRet rU X m_X1_lower (d + 3) [xr (0, 3), xi (e : Int)] c I 0 0 (fun _ I9 => kpL I I9 ∧ (∀ k, k < G.m → I (0, 9) k ≤ I9 (0, 11) k ∧ I9 (0, 11) k ≤ I (0, 10) k) ∧ (∀ x, nout G (I9 (0, 11)) x = nout G (I (0, 11)) x) ∧ I9 (0, 9) = upL (I (0, 9)) e (I9 (0, 11) e) ∧ I9 (0, 10) = upL (I (0, 10)) e (I9 (0, 11) e) ∧ (I9 (0, 11) e = I (0, 9) e ∨ Tight G (I (0, 9)) (I (0, 10)) (I9 (0, 11)) e)) xNo := by
  obtain ⟨g1, g2, g3, g4, g5, g6⟩ := id hF
  have hbe := hb e he
  have hie := hi9 e he
  refine xRet_of hX pl_X1_lower (LE1 rfl) fun V hV => rg_X1_lower_0 hV I _ ⟨_, fl_isEdge hX (d + 2) hF he, ?_⟩
  rintro _ I ⟨rfl, rfl⟩
  refine ⟨fun h => (by cases h), fun _ => ⟨⟨by omega, by omega⟩, ?_⟩⟩
  rw [tnN]
  rintro _ rfl
  refine ⟨_, fl_keep hX (d + 1) hF he, ?_⟩
  rintro _ I1 ⟨k1, k2, k3⟩
  have q11 : I1 (0, 11) = I (0, 11) := k1 _ (by decide)
  have hF1 := (kpL.k k1).fr hF
  rw [(hF1.2.2.2.2.2 e he).1, (hF1.2.2.2.2.2 e he).2]
  have hb1 : Bd9 I1 G.m := by
    intro k hk
    rw [k2, k3]
    have := hb k hk
    rcases upL_c (I (0, 9)) e (I (0, 11) e) k with ⟨z1, z2⟩ | ⟨z1, z2⟩ <;> rcases upL_c (I (0, 10)) e (I (0, 11) e) k with ⟨z3, z4⟩ | ⟨z3, z4⟩ <;> rw [z2, z4] <;> omega
  have hi1 : In9 I1 G.m := by
    intro k hk
    rw [k2, k3, q11]
    have := hi9 k hk
    by_cases hke : k = e
    · rw [hke, upL_s, upL_s]; omega
    · rw [upL_n hke, upL_n hke]; exact this
  refine ⟨_, fl_push hX d hF1 hb1 hi1 (g5 e he).1 (g5 e he).2 hne (by omega) hsp, ?_⟩
  rintro a I2 ⟨p1, p2, p3, p4, p5, p6⟩
  rw [k2, k3] at p6
  rw [q11] at p5
  have e9 : I2 (0, 9) = upL (I (0, 9)) e (I (0, 11) e) := (p1.1 _ (by decide)).trans k2
  have e10 : I2 (0, 10) = upL (I (0, 10)) e (I (0, 11) e) := (p1.1 _ (by decide)).trans k3
  have h2e := p2 e he
  rw [e9, e10, upL_s, upL_s] at h2e
  have hoth : ∀ k, k < G.m → k ≠ e → I (0, 9) k ≤ I2 (0, 11) k ∧ I2 (0, 11) k ≤ I (0, 10) k := fun k hk hke => by
    have := p2 k hk
    rw [e9, e10, upL_n hke, upL_n hke] at this
    exact this
  rw [q11]
  refine ⟨⟨by omega, by omega⟩, ?_⟩
  rintro I3 hI3
  have q3 : I3 (0, 11) = upL (I2 (0, 11)) e (I2 (0, 11) e + -a) := by rw [hI3, xuL]; congr 1; omega
  have k3' : kpL I I3 := ((kpL.k k1).tr p1.L).tr ⟨by rw [hI3]; exact kp.rfl.xu (by simp), fun j _ => by rw [hI3, xu_p (by decide)]⟩
  have r9 : I3 (0, 9) = I2 (0, 9) := by rw [hI3, xu_p (by decide)]
  have r10 : I3 (0, 10) = I2 (0, 10) := by rw [hI3, xu_p (by decide)]
  clear hI3
  refine ⟨_, fl_keep hX (d + 1) (k3'.fr hF) he, ?_⟩
  rintro _ I4 ⟨j1, j2, j3⟩
  have q4 : I4 (0, 11) = I3 (0, 11) := j1 _ (by decide)
  have v4 : I4 (0, 11) e = I (0, 11) e - a := by rw [q4, q3, upL_s]; omega
  refine ⟨k3'.tr (kpL.k j1), fun k hk => ?_, fun x => ?_, ?_, ?_, ?_⟩
  · by_cases hke : k = e
    · rw [hke, v4]; omega
    · rw [q4, q3, upL_n hke]; exact hoth k hk hke
  · rw [q4, q3, nout_up _ he, p5 x]
    split <;> split <;> omega
  · rw [j2, r9, e9, q4]
    funext k
    by_cases hke : k = e
    · rw [hke, upL_s, upL_s]
    · rw [upL_n hke, upL_n hke, upL_n hke]
  · rw [j3, r10, e10, q4]
    funext k
    by_cases hke : k = e
    · rw [hke, upL_s, upL_s]
    · rw [upL_n hke, upL_n hke, upL_n hke]
  · rcases p6 with h | h
    · left; omega
    · right
      exact h.tight hoth fun k hke => by rw [q4, q3, upL_n hke]
end FP
