/-! the class looks for a sign, and puts what goes on a way -/
section FW
variable {X : xX} {c : xCx} {I : xIn} {G : Gr}
theorem fl_leastSign (hX : xBase X) (d : Nat) (hF : FR I G) {x : Nat} {nx : Int} (hx : x < G.n) (hnx : xin nx) : xRet rI X m_X1_leastSign d [xr (0, 3), xi (x : Int), xi nx] c I 0 0 (pv (lsg G (I (0, 9)) (I (0, 10)) (I (0, 11)) (I (0, 12)) x nx) I) xNo := by
  obtain ⟨g1, g2, g3, g4, g5, g6⟩ := id hF
  refine xRet_of hX pl_X1_leastSign (LE1 rfl) fun V hV => rg_X1_leastSign_0 hV I _ _ ?_
  refine up_to0 (m := G.m) (W := fun e => (∀ j, j < e → fwB G (I (0, 10)) (I (0, 11)) (I (0, 12)) x nx j = false) → V 5 [(0, xr (0, 3)), (1, xi (x : Int)), (2, xi nx), (3, xi (bks (bwB G (I (0, 9)) (I (0, 11)) (I (0, 12)) x nx) e)), (4, xi (e : Int))] [] (I, xst c) 0 0) ?_ ?_ (fun j hj => by omega)
  · intro hno
    refine rg_X1_leastSign_5 hV I _ _ _ _ ⟨⟨by omega, by omega⟩, fun _ => pvI ?_, fun h => by omega⟩
    unfold lsg
    rw [ff_none hno, if_pos rfl]
  · intro e he ih hno
    obtain ⟨hu, hv⟩ := g6 e he
    obtain ⟨hun, hvn⟩ := g5 e he
    have other : ¬ (G.u e = x ∧ I (0, 12) (G.v e) = nx ∧ I (0, 11) e < I (0, 10) e) → V 61 [(0, xr (0, 3)), (1, xi (x : Int)), (2, xi nx), (3, xi (bks (bwB G (I (0, 9)) (I (0, 11)) (I (0, 12)) x nx) e)), (4, xi (e : Int))] [] (I, xst c) 0 0 := fun hf => by
      have ih := ih (fun j hj => by
        by_cases hje : j = e
        · rw [hje]; exact decide_eq_false hf
        · exact hno j (by omega))
      have hb := bks_c (bwB G (I (0, 9)) (I (0, 11)) (I (0, 12)) x nx) e
      generalize hbe : bks (bwB G (I (0, 9)) (I (0, 11)) (I (0, 12)) x nx) e = b at hb ⊢
      rw [bks, hbe] at ih
      have nb : b = -1 → ¬ (G.v e = x ∧ I (0, 12) (G.u e) = nx ∧ I (0, 9) e < I (0, 11) e) → V 5 [(0, xr (0, 3)), (1, xi (x : Int)), (2, xi nx), (3, xi b), (4, xi ((e : Int) + 1))] [] (I, xst c) 0 0 := fun h hn => by
        rw [if_pos h, if_neg (show ¬ bwB G (I (0, 9)) (I (0, 11)) (I (0, 12)) x nx e = true from fun z => hn (of_decide_eq_true z))] at ih
        rw [h]; exact ih
      have hbi : xin b := by
        rcases hb with ⟨h, -⟩ | ⟨e9, h1, h2, -⟩ <;> exact ⟨by omega, by omega⟩
      refine rg_X1_leastSign_61 hV I _ _ _ _ ⟨hbi, fun h => ?_, fun h => ⟨⟨by omega, by omega⟩, ⟨by omega, by omega⟩, fun h2 => nb h ?_, fun h2 => ?_⟩⟩
      · rw [if_neg h] at ih; exact ih
      · rw [tnN, hv] at h2; exact fun z => h2 (by rw [z.1])
      · rw [tnN, hu, tnN]
        refine ⟨⟨by omega, by omega⟩, hnx, fun h3 => nb h fun z => h3 z.2.1, fun h3 => ⟨fun h4 => nb h fun z => ?_, fun h4 => ?_⟩⟩
        · omega
        · rw [tnN, hv] at h2
          rw [if_pos h, if_pos (show bwB G (I (0, 9)) (I (0, 11)) (I (0, 12)) x nx e = true from decide_eq_true ⟨by omega, h3, h4⟩)] at ih
          exact ih
    refine rg_X1_leastSign_5 hV I _ _ _ _ ⟨⟨by omega, by omega⟩, fun h => by omega, fun _ => ⟨⟨by omega, by omega⟩, ⟨by omega, by omega⟩, fun h => other fun z => ?_, fun h => ?_⟩⟩
    · rw [tnN, hu] at h; exact h (by rw [z.1])
    · rw [tnN, hv, tnN]
      rw [tnN, hu] at h
      refine ⟨⟨by omega, by omega⟩, hnx, fun h2 => other fun z => h2 z.2.1, fun h2 => ⟨fun h3 => other fun z => ?_, fun h3 => pvI ?_⟩⟩
      · omega
      · unfold lsg
        rw [ff_hit he (show fwB G (I (0, 10)) (I (0, 11)) (I (0, 12)) x nx e = true from decide_eq_true ⟨by omega, h2, h3⟩) hno, if_neg (by omega)]
theorem tnS (w : Nat) : Int.toNat ((w : Int) - 32) = w - 32 := by omega
theorem fl_shift (hX : xBase X) (d : Nat) (hF : FR I G) {l : Nat} {w : Nat → Nat} {lim : Int} (hl : I (0, 3) 13 = (l : Int)) (hl16 : l ≤ 16) (hw : ∀ i, i < l → I (0, 14) i = (w i : Int) ∧ eg (w i) < G.m) (hlim : -4000000 ≤ lim ∧ lim ≤ 4000000) (hb : ∀ e, e < G.m → (-2000000 ≤ I (0, 9) e ∧ I (0, 9) e ≤ 2000000) ∧ (-2000000 ≤ I (0, 10) e ∧ I (0, 10) e ≤ 2000000) ∧ (-2000000 ≤ I (0, 11) e ∧ I (0, 11) e ≤ 2000000)) : xRet rI X m_X1_shift d [xr (0, 3), xi lim] c I 0 0 (fun v I9 => v = mw lim (fun i => rsp (I (0, 9)) (I (0, 10)) (I (0, 11)) (w i)) l ∧ kp [(0, 11)] I I9 ∧ I9 (0, 11) = ap (I (0, 11)) w v l) xNo := by
  obtain ⟨g1, g2, g3, g4, g5, g6⟩ := id hF
  have hr : ∀ i, i < l → -4000000 ≤ rsp (I (0, 9)) (I (0, 10)) (I (0, 11)) (w i) ∧ rsp (I (0, 9)) (I (0, 10)) (I (0, 11)) (w i) ≤ 4000000 := fun i hi => by
    have h1 := (hw i hi).2
    have h2 := hb _ h1
    unfold rsp
    by_cases hs : w i < 32
    · simp only [eg, if_pos hs] at h2 ⊢; omega
    · simp only [eg, if_neg hs] at h2 ⊢; omega
  have hmb : ∀ k, k ≤ l → -4000000 ≤ mw lim (fun i => rsp (I (0, 9)) (I (0, 10)) (I (0, 11)) (w i)) k ∧ mw lim (fun i => rsp (I (0, 9)) (I (0, 10)) (I (0, 11)) (w i)) k ≤ 4000000 := fun k hk => by
    have h1 := (mw_le (lim := lim) (g := fun i => rsp (I (0, 9)) (I (0, 10)) (I (0, 11)) (w i)) (k := k)).1
    have h2 := mw_ge (lim := lim) (b := -4000000) (g := fun i => rsp (I (0, 9)) (I (0, 10)) (I (0, 11)) (w i)) (k := k) hlim.1 (fun i hi => (hr i (by omega)).1)
    omega
  refine xRet_of hX pl_X1_shift (LE1 rfl) fun V hV => rg_X1_shift_0 hV I _ ?_
  refine up_to0 (m := l) (W := fun k => V 4 [(0, xr (0, 3)), (2, xi (mw lim (fun i => rsp (I (0, 9)) (I (0, 10)) (I (0, 11)) (w i)) k)), (3, xi (k : Int))] [] (I, xst c) 0 0) ?_ ?_
  case refine_2 =>
    intro k hk ih
    rw [mw] at ih
    obtain ⟨h1, h2⟩ := hw k hk
    have h3 := hr k hk
    have h4 := hmb k (by omega)
    have last : V 66 [(0, xr (0, 3)), (2, xi (mw lim (fun i => rsp (I (0, 9)) (I (0, 10)) (I (0, 11)) (w i)) k)), (3, xi (k : Int))] [xi (rsp (I (0, 9)) (I (0, 10)) (I (0, 11)) (w k))] (I, xst c) 0 0 := by
      refine rg_X1_shift_66 hV I _ _ _ ⟨⟨by omega, by omega⟩, ⟨by omega, by omega⟩, fun h => ?_, fun h => ?_⟩
      · rw [if_neg (by omega)] at ih; exact ih
      · rw [if_pos h] at ih; exact ih
    refine rg_X1_shift_4 hV I _ _ ⟨⟨by omega, by omega⟩, fun h => by omega, fun _ => ⟨⟨by omega, by omega⟩, fun x2 hx2 => ?_⟩⟩
    rw [tnN, h1] at hx2
    subst hx2
    unfold rsp at last
    refine ⟨fun h => ⟨?_, ?_⟩, fun h => ⟨?_, ?_⟩⟩
    · have hs : ¬ w k < 32 := by omega
      simp only [eg, if_neg hs] at h2
      exact ⟨by omega, by omega⟩
    · rw [if_neg (by omega)] at last
      rw [tnS]; exact last
    · exact ⟨by omega, by omega⟩
    · rw [if_pos (by omega)] at last
      rw [tnN]; exact last
  refine rg_X1_shift_4 hV I _ _ ⟨⟨by omega, by omega⟩, fun _ => ?_, fun h => by omega⟩
  have hm := hmb l (Nat.le_refl _)
  generalize hA : mw lim (fun i => rsp (I (0, 9)) (I (0, 10)) (I (0, 11)) (w i)) l = A at hm ⊢
  refine up_to0 (m := l) (W := fun k => ∀ J : xIn, kp [(0, 11)] I J → J (0, 11) = ap (I (0, 11)) w A k → V 89 [(0, xr (0, 3)), (2, xi A), (3, xi (k : Int))] [] (J, xst c) 0 0) ?_ ?_ I kp.rfl rfl
  · intro J hJ hj
    refine rg_X1_shift_89 hV J _ _ ⟨⟨by omega, by omega⟩, fun _ => ⟨hA.symm, hJ, hj⟩, fun h => ?_⟩
    rw [hJ (0, 3) (by decide), hl] at h; omega
  · intro k hk ih J hJ hj
    obtain ⟨h1, h2⟩ := hw k hk
    have hkA := ap_bd (f := (I (0, 11))) (w := w) (a := A) (A := 4000000) (B := 2000000) (k := k) (m := G.m) hm (fun i hi => (hw i (by omega)).2) (fun e he => (hb e he).2.2) _ h2
    rw [← hj] at hkA
    refine rg_X1_shift_89 hV J _ _ ⟨⟨by omega, by omega⟩, fun h => ?_, fun _ => ⟨⟨by omega, by omega⟩, fun x2 hx2 => ?_⟩⟩
    · rw [hJ (0, 3) (by decide), hl] at h; omega
    rw [hJ (0, 14) (by decide), tnN, h1] at hx2
    subst hx2
    refine ⟨fun h => ?_, fun h => ?_⟩
    · have hs : ¬ w k < 32 := by omega
      simp only [eg, if_neg hs] at h2 hkA
      rw [tnS]
      refine ⟨⟨by omega, by omega⟩, ⟨by omega, by omega⟩, ?_⟩
      rintro _ rfl
      refine ih _ (hJ.xu (by simp)) ?_
      rw [xuL, hj, ap, a1, sgn, eg, if_neg hs, if_neg hs, Int.sub_eq_add_neg]
    · have hs : w k < 32 := by omega
      simp only [eg, if_pos hs] at h2 hkA
      rw [tnN]
      refine ⟨⟨by omega, by omega⟩, ⟨by omega, by omega⟩, ?_⟩
      rintro _ rfl
      refine ih _ (hJ.xu (by simp)) ?_
      rw [xuL, hj, ap, a1, sgn, eg, if_pos hs, if_pos hs]
end FW
