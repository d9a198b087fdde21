/-! edges are laid -/
section FL
variable {X : xX} {c : xCx} {I : xIn} {G : Gr}
theorem fl_start (hX : xBase X) (d : Nat) {n : Nat} (hn : n ≤ 16) : xRet rU X m_X1_start d [xr (0, 3), xi (n : Int)] c I 0 0 (fun _ I9 => kp [(0, 3)] I I9 ∧ I9 (0, 3) = upL (upL (upL (I (0, 3)) 0 (n : Int)) 1 0) 13 0) xNo := by
  refine xRet_of hX pl_X1_start (LE1 rfl) fun V hV => rg_X1_start_0 hV I _ ⟨⟨by omega, by omega⟩, fun _ => ⟨fun _ => ?_, fun h => by omega⟩, fun h => by omega⟩
  rintro _ rfl _ rfl _ rfl
  exact ⟨((kp.rfl.xu (by simp)).xu (by simp)).xu (by simp), by rw [xuL, xuL, xuL]⟩
theorem fl_setBounds (hX : xBase X) (d : Nat) (hF : FR I G) {e : Nat} (he : e < G.m) {a b : Int} (ha : xin a) (hb : xin b) : xRet rU X m_X1_setBounds (d + 1) [xr (0, 3), xi (e : Int), xi a, xi b] c I 0 0 (fun _ I9 => kp [(0, 6), (0, 7), (0, 9), (0, 10)] I I9 ∧ I9 (0, 6) = upL (I (0, 6)) e a ∧ I9 (0, 7) = upL (I (0, 7)) e b ∧ I9 (0, 9) = upL (I (0, 9)) e (if a < 0 then a else 0) ∧ I9 (0, 10) = upL (I (0, 10)) e b) xNo := by
  have g4 := hF.2.2.2.1
  refine xRet_of hX pl_X1_setBounds (LE1 rfl) fun V hV => rg_X1_setBounds_0 hV I _ _ _ ⟨_, fl_isEdge hX d hF he, ?_⟩
  rintro _ I ⟨rfl, rfl⟩
  refine ⟨fun h => (by cases h), fun _ => ⟨⟨by omega, by omega⟩, ha, ?_⟩⟩
  rintro _ rfl
  refine ⟨hb, ?_⟩
  rintro _ rfl
  refine ⟨fun h => ?_, fun h => ?_⟩ <;> rintro _ rfl _ rfl <;> rw [tnN]
  · refine ⟨(((kp.rfl.xu (by simp)).xu (by simp)).xu (by simp)).xu (by simp), ?_, ?_, ?_, ?_⟩
    · rw [xu_p (by decide), xu_p (by decide), xu_p (by decide), xuL]
    · rw [xu_p (by decide), xu_p (by decide), xuL, xu_p (by decide)]
    · rw [xu_p (by decide), xuL, xu_p (by decide), xu_p (by decide), if_neg (by omega)]
    · rw [xuL, xu_p (by decide), xu_p (by decide), xu_p (by decide)]
  · refine ⟨(((kp.rfl.xu (by simp)).xu (by simp)).xu (by simp)).xu (by simp), ?_, ?_, ?_, ?_⟩
    · rw [xu_p (by decide), xu_p (by decide), xu_p (by decide), xuL]
    · rw [xu_p (by decide), xu_p (by decide), xuL, xu_p (by decide)]
    · rw [xu_p (by decide), xuL, xu_p (by decide), xu_p (by decide), if_pos h]
    · rw [xuL, xu_p (by decide), xu_p (by decide), xu_p (by decide)]
theorem fl_numberOf (hX : xBase X) (d : Nat) (hF : FR I G) {e : Nat} (he : e < G.m) : xRet rI X m_X1_numberOf (d + 1) [xr (0, 3), xi (e : Int)] c I 0 0 (pv (I (0, 11) e) I) xNo := by
  have g4 := hF.2.2.2.1
  refine xRet_of hX pl_X1_numberOf (LE1 rfl) fun V hV => rg_X1_numberOf_0 hV I _ ⟨_, fl_isEdge hX d hF he, ?_⟩
  rintro _ I ⟨rfl, rfl⟩
  exact ⟨fun h => (by cases h), fun _ => ⟨⟨by omega, by omega⟩, pvI (by rw [tnN])⟩⟩
/-- one edge more in the rows: from a to b, from least to most, at a cost -/
def Added (I I9 : xIn) (m : Nat) (lo hi co : Int) : Prop := kp [(0, 3), (0, 4), (0, 5), (0, 6), (0, 7), (0, 8), (0, 9), (0, 10), (0, 11)] I I9 ∧ (∀ j, j ≠ 1 → I9 (0, 3) j = I (0, 3) j) ∧ I9 (0, 6) = upL (I (0, 6)) m lo ∧ I9 (0, 7) = upL (I (0, 7)) m hi ∧ I9 (0, 8) = upL (I (0, 8)) m co ∧ I9 (0, 9) = upL (I (0, 9)) m (if lo < 0 then lo else 0) ∧ I9 (0, 10) = upL (I (0, 10)) m hi ∧ I9 (0, 11) = upL (I (0, 11)) m 0
theorem fl_add (hX : xBase X) (d : Nat) (hF : FR I G) {a b : Nat} {lo hi co : Int} (ha : a < G.n) (hb : b < G.n) (hm : G.m < 32) (hlo : xin lo) (hhi : xin hi) (hco : xin co) : xRet rU X m_X1_add (d + 2) [xr (0, 3), xi (a : Int), xi (b : Int), xi lo, xi hi, xi co] c I 0 0 (fun _ I9 => FR I9 (bk G b a) ∧ Added I I9 G.m lo hi co) xNo := by
  obtain ⟨g1, g2, g3, g4, g5, g6⟩ := id hF
  refine xRet_of hX pl_X1_add (LE1 rfl) fun V hV => rg_X1_add_0 hV I _ _ _ _ _ ⟨fun h => by omega, fun _ => ⟨fun h => by omega, fun _ => ⟨_, fl_isNode hX (d + 1) hF ha, ?_⟩⟩⟩
  rintro _ I ⟨rfl, rfl⟩
  refine ⟨fun h => (by cases h), fun _ => ⟨_, fl_isNode hX (d + 1) hF hb, ?_⟩⟩
  rintro _ I ⟨rfl, rfl⟩
  refine ⟨fun _ => ⟨⟨by omega, by omega⟩, ⟨by omega, by omega⟩, ?_⟩, fun h => (by cases h)⟩
  rintro I1 h1
  rw [g2, tnN] at h1
  have e1 : I1 (0, 3) = I (0, 3) := by rw [h1, xu_p (by decide)]
  rw [e1, g2, tnN]
  refine ⟨⟨by omega, by omega⟩, ⟨by omega, by omega⟩, ?_⟩
  rintro I2 h2
  have e2 : I2 (0, 3) = I (0, 3) := by rw [h2, xu_p (by decide), e1]
  rw [e2, g2, tnN]
  refine ⟨⟨by omega, by omega⟩, hco, ?_⟩
  rintro I3 h3
  have e3 : I3 (0, 3) = I (0, 3) := by rw [h3, xu_p (by decide), e2]
  rw [e3, g2, tnN]
  refine ⟨⟨by omega, by omega⟩, ?_⟩
  rintro I4 h4
  have e4 : I4 (0, 3) = I (0, 3) := by rw [h4, xu_p (by decide), e3]
  rw [e4, g2]
  refine ⟨⟨by omega, by omega⟩, ?_⟩
  rintro I5 h5
  have e5 : I5 (0, 3) = upL (I (0, 3)) 1 ((G.m : Int) + 1) := by rw [h5, xuL, e4]
  have f4 : I5 (0, 4) = upL (I (0, 4)) G.m a := by rw [h5, xu_p (by decide), h4, xu_p (by decide), h3, xu_p (by decide), h2, xu_p (by decide), h1, xuL]
  have f5 : I5 (0, 5) = upL (I (0, 5)) G.m b := by rw [h5, xu_p (by decide), h4, xu_p (by decide), h3, xu_p (by decide), h2, xuL, h1, xu_p (by decide)]
  have f8 : I5 (0, 8) = upL (I (0, 8)) G.m co := by rw [h5, xu_p (by decide), h4, xu_p (by decide), h3, xuL, h2, xu_p (by decide), h1, xu_p (by decide)]
  have f11 : I5 (0, 11) = upL (I (0, 11)) G.m 0 := by rw [h5, xu_p (by decide), h4, xuL, h3, xu_p (by decide), h2, xu_p (by decide), h1, xu_p (by decide)]
  have k5 : kp [(0, 3), (0, 4), (0, 5), (0, 8), (0, 11)] I I5 := by rw [h5, h4, h3, h2, h1]; exact ((((kp.rfl.xu (by simp)).xu (by simp)).xu (by simp)).xu (by simp)).xu (by simp)
  clear h1 h2 h3 h4 h5 e1 e2 e3 e4
  have hF5 : FR I5 (bk G b a) := by
    refine ⟨?_, ?_, g3, ?_, ?_, ?_⟩
    · rw [e5, upL_n (by decide)]; exact g1
    · rw [e5, upL_s]; rfl
    · show G.m + 1 ≤ 32; omega
    · intro e he
      show (if e = G.m then a else G.u e) < G.n ∧ (if e = G.m then b else G.v e) < G.n
      by_cases hem : e = G.m
      · rw [if_pos hem, if_pos hem]; exact ⟨ha, hb⟩
      · rw [if_neg hem, if_neg hem]; exact g5 e (by have : e < G.m + 1 := he; omega)
    · intro e he
      show I5 (0, 4) e = (((if e = G.m then a else G.u e) : Nat) : Int) ∧ I5 (0, 5) e = (((if e = G.m then b else G.v e) : Nat) : Int)
      rw [f4, f5]
      by_cases hem : e = G.m
      · rw [if_pos hem, if_pos hem, hem, upL_s, upL_s]; exact ⟨rfl, rfl⟩
      · rw [if_neg hem, if_neg hem, upL_n hem, upL_n hem]; exact g6 e (by have : e < G.m + 1 := he; omega)
  rw [e5, upL_s, show (G.m : Int) + 1 - 1 = (G.m : Int) by omega]
  refine ⟨_, fl_setBounds hX d hF5 (show G.m < G.m + 1 by omega) hlo hhi, ?_⟩
  rintro _ I9 ⟨k9, b6, b7, b9, b10⟩
  refine ⟨hF5.kp k9 (by decide) (by decide) (by decide), (k5.mo (by simp)).tr (k9.mo (by simp)), fun j hj => ?_, ?_, ?_, ?_, ?_, ?_, ?_⟩
  · rw [k9 _ (by decide), e5, upL_n hj]
  · rw [b6, k5 _ (by decide)]
  · rw [b7, k5 _ (by decide)]
  · rw [k9 _ (by decide), f8]
  · rw [b9, k5 _ (by decide)]
  · rw [b10, k5 _ (by decide)]
  · rw [k9 _ (by decide), f11]
end FL
