/-! the class fills a net: the greatest amount is the reference's -/
theorem flow_bd {G : Gr} {lo hi f : Nat → Int} {s t : Nat} {a : Int} (hG : GrOK G) (hs : s < G.n) (ht : t < G.n) (hst : s ≠ t) (hb : ∀ e, e < G.m → -100 ≤ lo e ∧ hi e ≤ 100) (hf : FS G lo hi (isB s t a) f) : -3200 ≤ a ∧ a ≤ 3200 := by
  have h1 := hf.cut hG.in (mask (fun x => x == s) G.n)
  rw [bS_flow hs ht hst] at h1
  have b1 : (mask (fun x => x == s) G.n).testBit s = true := by rw [mask_bit _ _ _ hs]; simp
  have b2 : (mask (fun x => x == s) G.n).testBit t = false := by
    rw [mask_bit _ _ _ ht]
    simpa using fun z : t = s => hst z.symm
  have h2 : beyondF s t a (mask (fun x => x == s) G.n) = -a := by unfold beyondF btw; rw [b1, b2]; rfl
  have hz : ∀ e, e < G.m → -100 ≤ f e ∧ f e ≤ 100 := fun e he => by
    have := hb e he
    have := hf.1 e he
    omega
  have h3 := sOut_bd (S := mask (fun x => x == s) G.n) hG.2.2.1 (by decide : (0 : Int) ≤ 100) hz
  have h4 := sIn_bd (S := mask (fun x => x == s) G.n) hG.2.2.1 (by decide : (0 : Int) ≤ 100) hz
  omega
theorem bk_u {G : Gr} {s t e : Nat} (he : e < G.m) : (bk G s t).u e = G.u e := if_neg (by omega)
theorem bk_v {G : Gr} {s t e : Nat} (he : e < G.m) : (bk G s t).v e = G.v e := if_neg (by omega)
theorem bk_um {G : Gr} {s t : Nat} : (bk G s t).u G.m = t := if_pos rfl
theorem bk_vm {G : Gr} {s t : Nat} : (bk G s t).v G.m = s := if_pos rfl
theorem bk_in9 {G : Gr} {s t : Nat} (hG : GrIn G) (hs : s < G.n) (ht : t < G.n) : GrIn (bk G s t) := fun e he => by
  by_cases h : e = G.m
  · rw [h, bk_um, bk_vm]; exact ⟨ht, hs⟩
  · have he : e < G.m + 1 := he
    rw [bk_u (by omega), bk_v (by omega)]; exact hG e (by omega)
theorem bk_ne {G : Gr} {s t : Nat} (hG : GrOK G) (hst : s ≠ t) : ∀ e, e < (bk G s t).m → (bk G s t).u e ≠ (bk G s t).v e := fun e he => by
  by_cases h : e = G.m
  · rw [h, bk_um, bk_vm]; exact fun z => hst z.symm
  · have he : e < G.m + 1 := he
    rw [bk_u (by omega), bk_v (by omega)]; exact (hG.2.2.2 e (by omega)).2.2
/-- what fill may change -/
def kpF (I J : xIn) : Prop := kp [(0, 2), (0, 3), (0, 9), (0, 10), (0, 11), (0, 12), (0, 14)] I J ∧ (∀ j, j ≠ 13 → J (0, 3) j = I (0, 3) j) ∧ ∀ j, j ≠ 4 → J (0, 2) j = I (0, 2) j
theorem kpL.F {I J : xIn} (h : kpL I J) : kpF I J := ⟨h.1.mo (by simp), h.2, fun j _ => by rw [h.1 _ (by decide)]⟩
theorem kpF.tr {I J K : xIn} (h1 : kpF I J) (h2 : kpF J K) : kpF I K := ⟨h1.1.tr h2.1, fun j hj => (h2.2.1 j hj).trans (h1.2.1 j hj), fun j hj => (h2.2.2 j hj).trans (h1.2.2 j hj)⟩
/-- a flow of the amount a0 + p, of which a0 is on the edge back -/
def Filled (I : xIn) (G : Gr) (s t : Nat) (lo hi : Nat → Int) (a0 p : Int) : Prop := (∀ e, e < G.m → I (0, 9) e = lo e ∧ I (0, 10) e = hi e) ∧ I (0, 9) G.m = a0 ∧ I (0, 10) G.m = a0 ∧ In9 I (G.m + 1) ∧ (∀ x, nout (bk G s t) (I (0, 11)) x = isB s t p x) ∧ (-3200 ≤ a0 ∧ a0 ≤ 3200)
section SF
variable {X : xX} {c : xCx} {I : xIn} {G : Gr} {s t : Nat}
theorem st_fill (hX : xBase X) (d : Nat) (hG : GrOK G) (hs : s < G.n) (ht : t < G.n) (hst : s ≠ t) (hF : FR I (bk G s t)) (hL : Laid I (G.m + 1)) (hb : ∀ e, e < G.m → 0 ≤ I (0, 6) e ∧ I (0, 7) e ≤ 100) (hlm : I (0, 6) G.m = -1000000) (hhm : I (0, 7) G.m = 1000000) (e1 : I (0, 2) 1 = (s : Int)) (e2 : I (0, 2) 2 = (t : Int)) (e3 : I (0, 2) 3 = (G.m : Int)) : xRet rB X m_X6_fill (d + 4) [xr (0, 2)] c I 0 0 (fun v I9 => kpF I I9 ∧ ((v = true ∧ ∃ a0 p, Filled I9 G s t (I (0, 6)) (I (0, 7)) a0 p ∧ a0 + p = amountF G (I (0, 6)) (I (0, 7)) s t ∧ amountF G (I (0, 6)) (I (0, 7)) s t ≠ NONE9 ∧ I9 (0, 2) 4 = a0 + p) ∨ (v = false ∧ amountF G (I (0, 6)) (I (0, 7)) s t = NONE9))) xNo := by
  have hm := hG.2.2.1
  have hN9 : NONE9 = -1000000 := rfl
  have hbl : ∀ e, e < G.m → (-100 ≤ I (0, 6) e ∧ I (0, 6) e ≤ 100) ∧ (-100 ≤ I (0, 7) e ∧ I (0, 7) e ≤ 100) := fun e he => by
    have h1 := hb e he
    have h2 := hL e (by omega)
    omega
  have hbk : ∀ e, e < (bk G s t).m → (e = G.m ∨ e < G.m) := fun e he => by have he : e < G.m + 1 := he; omega
  refine xRet_of hX pl_X6_fill (LE1 rfl) fun V hV => rg_X6_fill_0 hV I ⟨_, fl_settle hX d hF (bk_ne hG hst) hL, ?_⟩
  rintro v I1 ⟨k1, ⟨rfl, b1, b2, b3⟩ | ⟨rfl, S, hS, hc⟩⟩
  rotate_left
  · refine ⟨fun h => (by cases h), fun _ => ⟨k1.F, Or.inr ⟨rfl, ?_⟩⟩⟩
    rw [bk_out, bk_in, hlm, hhm] at hc
    have h3 := sOut_bd (S := S) hG.2.2.1 (by decide : (0 : Int) ≤ 100) (fun e he => (hbl e he).1)
    have h4 := sIn_bd (S := S) hG.2.2.1 (by decide : (0 : Int) ≤ 100) (fun e he => (hbl e he).2)
    refine amount_none hS ?_
    unfold crowdP
    unfold btw at hc
    cases a1 : S.testBit s <;> cases a2 : S.testBit t <;> rw [a1, a2] at hc <;> simp at hc ⊢ <;> omega
  · refine ⟨fun _ => ?_, fun h => (by cases h)⟩
    have k1F := k1.F
    rw [k1F.2.2 3 (by decide), e3]
    have hF1 := k1.fr hF
    have hmm : G.m < (bk G s t).m := Nat.lt_succ_self _
    refine ⟨_, fl_keep hX (d + 2) hF1 hmm, ?_⟩
    rintro _ I2 ⟨k2, c2, c3⟩
    have k12 := k1.tr (kpL.k k2)
    have hF2 := k12.fr hF
    have q11 : I2 (0, 11) = I1 (0, 11) := k2 _ (by decide)
    rw [k12.F.2.2 3 (by decide), e3]
    refine ⟨_, fl_numberOf hX (d + 2) hF2 hmm, ?_⟩
    rintro _ I2 ⟨rfl, rfl⟩
    rw [k12.F.2.2 1 (by decide), k12.F.2.2 2 (by decide), e1, e2]
    generalize ha0 : I2 (0, 11) G.m = a0
    have ha1 : I1 (0, 11) G.m = a0 := by rw [← q11]; exact ha0
    rw [ha1] at c2 c3
    have hFS0 : FS G (I (0, 6)) (I (0, 7)) (isB s t a0) (I1 (0, 11)) := by
      refine ⟨fun e he => ?_, fun x hx => ?_⟩
      · have h1 := b2 e (show e < G.m + 1 by omega)
        have h2 := b1 e (show e < G.m + 1 by omega)
        rw [h2.1, h2.2] at h1; exact h1
      · have h1 := b3 x
        rw [bk_nout, ha1] at h1
        unfold isB
        by_cases x1 : s = x
        · rw [if_pos x1, if_neg (by omega)] at h1
          rw [if_pos x1.symm]; omega
        · rw [if_neg x1] at h1
          rw [if_neg (fun z => x1 z.symm)]
          by_cases x2 : t = x
          · rw [if_pos x2] at h1
            rw [if_pos x2.symm]; omega
          · rw [if_neg x2] at h1
            rw [if_neg (fun z => x2 z.symm)]; omega
    have ha0b := flow_bd hG hs ht hst (fun e he => ⟨(hbl e he).1.1, (hbl e he).2.2⟩) hFS0
    have e9 : ∀ e, e < G.m → I2 (0, 9) e = I (0, 6) e ∧ I2 (0, 10) e = I (0, 7) e := fun e he => by
      rw [c2, c3, upL_n (by omega), upL_n (by omega)]
      exact b1 e (show e < G.m + 1 by omega)
    have e9m : I2 (0, 9) G.m = a0 ∧ I2 (0, 10) G.m = a0 := by rw [c2, c3, upL_s, upL_s]; exact ⟨rfl, rfl⟩
    have hB2 : Bd9 I2 (bk G s t).m := fun e he => by
      rcases hbk e he with rfl | h
      · rw [e9m.1, e9m.2]; omega
      · rw [(e9 e h).1, (e9 e h).2]
        have := hbl e h
        omega
    have hI2 : In9 I2 (bk G s t).m := fun e he => by
      rcases hbk e he with rfl | h
      · rw [e9m.1, e9m.2, ha0]; omega
      · rw [(e9 e h).1, (e9 e h).2, q11]
        exact hFS0.1 e h
    refine ⟨_, fl_push hX (d + 1) hF2 hB2 hI2 hs ht hst (by decide) (by decide), ?_⟩
    rintro p I3 ⟨k3, p1, p2, p3, p4, p5⟩
    have q9 : I3 (0, 9) = I2 (0, 9) := k3.1 _ (by decide)
    have q10 : I3 (0, 10) = I2 (0, 10) := k3.1 _ (by decide)
    have hnp : ∀ x, nout (bk G s t) (I3 (0, 11)) x = isB s t p x := fun x => by
      rw [p4 x, q11, b3 x]
      unfold isB
      by_cases x1 : s = x
      · rw [if_pos x1, if_pos x1.symm, if_neg (by omega)]; omega
      · rw [if_neg x1, if_neg (show ¬ x = s from fun z => x1 z.symm)]
        by_cases x2 : t = x
        · rw [if_pos x2, if_pos x2.symm]; omega
        · rw [if_neg x2, if_neg (show ¬ x = t from fun z => x2 z.symm)]; rfl
    have hfm : I3 (0, 11) G.m = a0 := by
      have := p1 G.m hmm
      rw [q9, q10, e9m.1, e9m.2] at this
      omega
    have hFS : FS G (I (0, 6)) (I (0, 7)) (isB s t (a0 + p)) (I3 (0, 11)) := by
      refine ⟨fun e he => ?_, fun x hx => ?_⟩
      · have h1 := p1 e (show e < G.m + 1 by omega)
        rw [q9, q10, (e9 e he).1, (e9 e he).2] at h1; exact h1
      · have h1 := hnp x
        rw [bk_nout, hfm] at h1
        unfold isB at h1 ⊢
        by_cases x1 : s = x
        · rw [if_pos x1, if_neg (by omega), if_pos x1.symm] at h1
          rw [if_pos x1.symm]; omega
        · rw [if_neg x1, if_neg (show ¬ x = s from fun z => x1 z.symm)] at h1
          rw [if_neg (show ¬ x = s from fun z => x1 z.symm)]
          by_cases x2 : t = x
          · rw [if_pos x2, if_pos x2.symm] at h1
            rw [if_pos x2.symm]; omega
          · rw [if_neg x2, if_neg (show ¬ x = t from fun z => x2 z.symm)] at h1
            rw [if_neg (show ¬ x = t from fun z => x2 z.symm)]; omega
    have hpb := flow_bd hG hs ht hst (fun e he => ⟨(hbl e he).1.1, (hbl e he).2.2⟩) hFS
    have hsh : Shut (bk G s t) (I2 (0, 9)) (I2 (0, 10)) (I3 (0, 11)) s t := by
      rcases p5 with h | h
      · omega
      · exact h
    obtain ⟨T, t1, t2, t3⟩ := hsh
    have hamt := amount_eq hG.in hs ht hst hFS (fun S hS => by
      have h3 := sOut_bd (S := S) hG.2.2.1 (by decide : (0 : Int) ≤ 100) (fun e he => (hbl e he).2)
      have h4 := sIn_bd (S := S) hG.2.2.1 (by decide : (0 : Int) ≤ 100) (fun e he => (hbl e he).1)
      unfold cutV
      omega) (T := fun x => !T x) (by simp [t2]) (by simp [t1]) (fun k hk => ⟨fun z1 z2 => by
        have z1 : T (G.u k) = false := by simpa using z1
        have z2 : T (G.v k) = true := by simpa using z2
        have h1 := (hFS.1 k hk).2
        by_cases hlt : I3 (0, 11) k < I (0, 7) k
        · have := t3 (G.u k) (G.v k) ⟨k, show k < G.m + 1 by omega, Or.inl ⟨bk_u hk, bk_v hk, by rw [(e9 k hk).2]; exact hlt⟩⟩ z2
          rw [z1] at this; cases this
        · omega, fun z1 z2 => by
        have z1 : T (G.u k) = true := by simpa using z1
        have z2 : T (G.v k) = false := by simpa using z2
        have h1 := (hFS.1 k hk).1
        by_cases hlt : I (0, 6) k < I3 (0, 11) k
        · have := t3 (G.v k) (G.u k) ⟨k, show k < G.m + 1 by omega, Or.inr ⟨bk_v hk, bk_u hk, by rw [(e9 k hk).1]; exact hlt⟩⟩ z1
          rw [z2] at this; cases this
        · omega⟩)
    refine ⟨⟨by omega, by omega⟩, ?_⟩
    rintro I4 h4
    have k4 : kpF I I4 := (k12.F.tr k3.L.F).tr (by
      rw [h4]
      exact ⟨kp.rfl.xu (by simp), fun j _ => by rw [xu_p (by decide)], fun j hj => xu_k hj⟩)
    have r : ∀ q : xP, q ≠ (0, 2) → I4 q = I3 q := fun q hq => by rw [h4, xu_p hq]
    refine ⟨k4, Or.inl ⟨rfl, a0, p, ⟨fun e he => ?_, ?_, ?_, ?_, ?_, ha0b⟩, hamt.symm, by rw [hamt]; omega, by rw [h4, xu_same]⟩⟩
    · rw [r _ (by decide), r _ (by decide), q9, q10]; exact e9 e he
    · rw [r _ (by decide), q9]; exact e9m.1
    · rw [r _ (by decide), q10]; exact e9m.2
    · unfold In9
      rw [r _ (by decide), r _ (by decide), r _ (by decide)]
      exact p1
    · rw [r _ (by decide)]; exact hnp
end SF
