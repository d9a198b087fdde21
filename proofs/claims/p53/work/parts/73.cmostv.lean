/-! the class's most -/
/-- an exception by the reference's code: 1 a number, 2 an argument, 3 nothing there -/
def exN (e : String) (k : Int) : Prop := (e = xIOB ∧ k = 1) ∨ (e = xIAE ∧ k = 2) ∨ (e = xNSE ∧ k = 3)
theorem CI.nb {I : xIn} {c : xCx} {T : NT} (h : CI I c T) (hT : NTok T) {i : Nat} (hi : i < T.N) : NB I i (T.G i).m := fun e he => by
  obtain ⟨h1, h2, h3⟩ := (h.2.2 i hi).2.1 e he
  have h4 := (hT.2 i hi).2.1 e he
  rw [h1, h2, h3]
  omega
section CP
variable {X : xX} {c : xCx} {I : xIn} {T : NT}
theorem cn_most (hX : xBase X) (d : Nat) (hT : NTok T) (hI : CI I c T) {a s t : Int} (ha : xin a) (hs : xin s) (ht : xin t) : xRet rI X m_X9_most (d + 9) [xr (0, 0), xi a, xi s, xi t] c I 3 18 (fun v I9 => kpX I I9 ∧ (v, 0) = mostV T a s t) (fun e I9 => kpX I I9 ∧ exN e (mostV T a s t).2 ∧ (mostV T a s t).1 = 0) := by
  obtain ⟨h1, h2, h3⟩ := id hI
  have h4 := hT.1
  refine xRet_of hX pl_X9_most (LE1 rfl) fun V hV => rg_X9_most_0 hV I _ _ _ ⟨_, _, cn_netAt hX (d + 1) (by rw [h2, h1]) (by omega) ha, ?_, ?_⟩
  · rintro e J ⟨rfl, rfl, hn⟩
    rw [h1] at hn
    have hw : wrongT T a s t = 1 := by unfold wrongT; rw [hn]; rfl
    unfold mostV
    rw [hw, if_pos (by decide)]
    exact ⟨kp.rfl, Or.inl ⟨rfl, rfl⟩, rfl⟩
  · rintro i I ⟨rfl, hi, rfl⟩
    have hiN : i < T.N := by omega
    obtain ⟨c1, c2, c3⟩ := h3 i hiN
    have hin : inB (i : Int) T.N = true := decide_eq_true (by omega)
    refine ⟨hi, _, _, cn_needEnds hX (d + 1) hi c1.2.1 hs ht, ?_, ?_⟩
    · rintro e J ⟨rfl, rfl, hn⟩
      have hw : wrongT T (i : Int) s t = 2 := by unfold wrongT; rw [hin, tnN, hn]; rfl
      unfold mostV
      rw [hw, if_pos (by decide)]
      exact ⟨kp.rfl, Or.inr (Or.inl ⟨rfl, rfl⟩), rfl⟩
    · rintro _ I ⟨rfl, hn⟩
      have hw : wrongT T (i : Int) s t = 0 := by unfold wrongT; rw [hin, tnN, hn]; rfl
      obtain ⟨i9, s9, t9, e1, rfl, rfl, -, hs9, ht9, hst⟩ := wrong_0 (show wrongT T (i : Int) s t ≤ 0 by omega)
      have e1 : i9 = i := by omega
      subst e1
      have hv : mostV T (i9 : Int) (s9 : Int) (t9 : Int) = if amountF (T.G i9) (T.lo i9) (T.hi i9) s9 t9 = NONE9 then (0, 3) else (amountF (T.G i9) (T.lo i9) (T.hi i9) s9 t9, 0) := by
        unfold mostV
        rw [if_neg (by omega), tnN, tnN, tnN]
      have hc : ∀ s t, amountF (T.G i9) (I (i9 + 3, 3)) (I (i9 + 3, 4)) s t = amountF (T.G i9) (T.lo i9) (T.hi i9) s t := fun s t => amountF_cong (fun e he => (c2 e he).1) (fun e he => (c2 e he).2.1)
      refine ⟨_, _, cn_greatest hX d c1 (hI.nb hT hiN) hs9 ht9 hst, ?_, ?_⟩
      · rintro e J ⟨rfl, k1, k2⟩
        rw [hc] at k2
        rw [hv, if_pos k2]
        exact ⟨k1, Or.inr (Or.inr ⟨rfl, rfl⟩), rfl⟩
      · rintro v J ⟨k1, k2, k3, -⟩
        rw [hc] at k2
        rw [hv, if_neg (by rw [← k2]; exact k3), k2]
        exact ⟨k1, rfl⟩
end CP
