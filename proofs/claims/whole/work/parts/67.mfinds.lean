/-! the reference finds the told flow -/
def MN (I : xIn) (i m : Nat) (lo hi : Nat → Int) : Prop := ∀ e, e < m → I (1, 5) (16 * i + e) = lo e ∧ I (1, 6) (16 * i + e) = hi e
def kpM (I J : xIn) : Prop := kp [(1, 17), (1, 18)] I J
theorem kpM.MG {I J : xIn} {i : Nat} {G : Gr} (h : kpM I J) (hM : MG I i G) : MG J i G := hM.eq (h _ (by decide)) (h _ (by decide)) (h _ (by decide)) (h _ (by decide))
section MS
variable {X : xX} {c : xCx} {I : xIn} {i : Nat} {G : Gr} {lo hi : Nat → Int} {s t : Nat}
theorem ok_looksAt (hX : xBase X) (d : Nat) (hG : GrOK G) (hM : MG I i G) (hN : MN I i G.m lo hi) : xRet rU X m_X10_looksAt d [xr (1, 0), xi (i : Int)] c I 0 0 (fun _ I9 => kpM I I9 ∧ MB I9 G.m lo hi) xNo := by
  have hm := hG.2.2.1
  obtain ⟨h0, h1, h2, h3⟩ := id hM
  refine xRet_of hX pl_X10_looksAt (LE1 rfl) fun V hV => rg_X10_looksAt_0 hV I _ ?_
  refine up_to0 (m := G.m) (W := fun k => ∀ J : xIn, kpM I J → MB J k lo hi → V 2 [(0, xr (1, 0)), (1, xi (i : Int)), (2, xi (k : Int))] [] (J, xst c) 0 0) ?_ ?_ I kp.rfl (fun e he => by omega)
  · intro J a1 a2
    refine rg_X10_looksAt_2 hV J _ _ ⟨⟨by omega, by omega⟩, ⟨by omega, by omega⟩, fun _ => ⟨a1, a2⟩, fun h => ?_⟩
    rw [a1 _ (by decide), tnN, h2] at h; omega
  · intro k hk ih J a1 a2
    refine rg_X10_looksAt_2 hV J _ _ ⟨⟨by omega, by omega⟩, ⟨by omega, by omega⟩, fun h => ?_, fun _ => ⟨⟨by omega, by omega⟩, ⟨by omega, by omega⟩, ?_⟩⟩
    · rw [a1 _ (by decide), tnN, h2] at h; omega
    rw [tnN, tn16, a1 (1, 5) (by decide), (hN k hk).1]
    rintro J1 rfl
    rw [xu_p (by decide), a1 (1, 6) (by decide), (hN k hk).2]
    rintro J2 rfl
    refine ih _ ((kp.xu a1 (by simp)).xu (by simp)) fun e he => ?_
    rw [xu_p (by decide), xuL, xuL, xu_p (by decide)]
    by_cases h : e = k
    · rw [h, upL_s, upL_s]; exact ⟨rfl, rfl⟩
    · rw [upL_n h, upL_n h]; exact a2 e (by omega)
theorem ok_settles (hX : xBase X) (d : Nat) (hG : GrOK G) (hM : MG I i G) (hB : MB I G.m lo hi) (hb : ∀ e, e < G.m → 0 ≤ lo e ∧ hi e ≤ 100) (hs : s < G.n) (ht : t < G.n) (hst : s ≠ t) {a : Int} (ha : -1000000 ≤ a ∧ a ≤ 1000000) {f : Nat → Int} (hf : FS G lo hi (isB s t a) f) : xRet rU X m_X10_settles (d + 4) [xr (1, 0), xi (i : Int), xi (s : Int), xi (t : Int), xi a] c I 0 0 (fun _ I9 => kpM I I9 ∧ MB I9 G.m (lxF G lo hi s t a G.m).1 (lxF G lo hi s t a G.m).2) xNo := by
  have hm := hG.2.2.1
  have hn := hG.2.1
  obtain ⟨h0, h1, h2, h3⟩ := id hM
  refine xRet_of hX pl_X10_settles (LE1 rfl) fun V hV => rg_X10_settles_0 hV I _ _ _ _ ?_
  refine up_to0 (m := G.m) (W := fun k => ∀ J : xIn, kpM I J → MB J G.m (lxF G lo hi s t a k).1 (lxF G lo hi s t a k).2 → V 3 [(0, xr (1, 0)), (1, xi (i : Int)), (2, xi (s : Int)), (3, xi (t : Int)), (4, xi a), (5, xi (k : Int))] [] (J, xst c) 0 0) ?_ ?_ I kp.rfl hB
  · intro J a1 a2
    refine rg_X10_settles_3 hV J _ _ _ _ _ ⟨⟨by omega, by omega⟩, ⟨by omega, by omega⟩, fun _ => ⟨a1, a2⟩, fun h => ?_⟩
    rw [a1 _ (by decide), tnN, h2] at h; omega
  · intro k hk ih J a1 a2
    obtain ⟨b1, g, b2⟩ := lxF_ok hG.in hs ht hst hf (show k ≤ G.m by omega)
    have hz : bdz G.m 100 (lxF G lo hi s t a k).1 (lxF G lo hi s t a k).2 := ⟨by decide, fun e he => by
      have c1 := b1 e he
      have c2 := b2.1 e he
      have c3 := hb e he
      omega⟩
    obtain ⟨b3, g9, b4⟩ := lxF_ok hG.in hs ht hst hf (show k + 1 ≤ G.m by omega)
    have b5 := b3 k hk
    have b6 := b4.1 k hk
    have b7 := hb k hk
    rw [lxF] at b5 b6
    dsimp only at b5 b6
    rw [upL_s, upL_s] at b5 b6
    refine rg_X10_settles_3 hV J _ _ _ _ _ ⟨⟨by omega, by omega⟩, ⟨by omega, by omega⟩, fun h => ?_, fun _ => ⟨_, ok_leastOf hX d hG (a1.MG hM) a2 hz (by decide) (by omega) (by omega) ha hk, ?_⟩⟩
    · rw [a1 _ (by decide), tnN, h2] at h; omega
    rintro _ J ⟨rfl, rfl⟩
    refine ⟨⟨by omega, by omega⟩, ⟨by omega, by omega⟩, ?_⟩
    rw [tnN]
    rintro J1 rfl J2 rfl
    refine ih _ ((kp.xu a1 (by simp)).xu (by simp)) fun e he => ?_
    rw [xu_p (by decide), xuL, xuL, xu_p (by decide), lxF]
    dsimp only
    by_cases h : e = k
    · rw [h, upL_s, upL_s, upL_s, upL_s]; exact ⟨rfl, rfl⟩
    · rw [upL_n h, upL_n h, upL_n h, upL_n h]; exact a2 e he
/-- whether there is a flow, and the least row of the greatest amount -/
theorem ok_finds (hX : xBase X) (d : Nat) (hG : GrOK G) (hM : MG I i G) (hN : MN I i G.m lo hi) (hb : ∀ e, e < G.m → 0 ≤ lo e ∧ lo e ≤ hi e ∧ hi e ≤ 100) (hs : s < G.n) (ht : t < G.n) (hst : s ≠ t) : xRet rB X m_X10_finds (d + 5) [xr (1, 0), xi (i : Int), xi (s : Int), xi (t : Int)] c I 0 0 (fun v I9 => kpM I I9 ∧ ((v = true ∧ amountF G lo hi s t ≠ NONE9 ∧ MB I9 G.m (lxF G lo hi s t (amountF G lo hi s t) G.m).1 (lxF G lo hi s t (amountF G lo hi s t) G.m).2) ∨ (v = false ∧ amountF G lo hi s t = NONE9))) xNo := by
  have hn := hG.2.1
  have hN9 : NONE9 = -1000000 := rfl
  have hz : bdz G.m 100 lo hi := ⟨by decide, fun e he => by
    have c3 := hb e he
    omega⟩
  refine xRet_of hX pl_X10_finds (LE1 rfl) fun V hV => rg_X10_finds_0 hV I _ _ _ ⟨_, ok_looksAt hX (d + 4) hG hM hN, ?_⟩
  rintro _ J ⟨a1, a2⟩
  refine ⟨_, ok_amount hX d hG (a1.MG hM) a2 hz (by decide) (by omega) (by omega), ?_⟩
  rintro _ J ⟨rfl, rfl⟩
  by_cases hno : ∀ S, S < 2 ^ G.n → crowdP G lo hi s t S = false
  · obtain ⟨e1, f, e2⟩ := flow_ex hG hs ht hst hb hno
    have e3 := flow_bd hG hs ht hst (fun e he => by have := hb e he; omega) e2
    refine ⟨⟨by omega, by omega⟩, fun h => absurd h e1, fun _ => ⟨_, ok_settles hX d hG (a1.MG hM) a2 (fun e he => by have := hb e he; omega) hs ht hst (by omega) e2, ?_⟩⟩
    rintro _ J9 ⟨a3, a4⟩
    exact rg_X10_finds_30 hV J9 _ ⟨⟨by omega, by omega⟩, fun h => absurd h e1, fun _ => ⟨a1.tr a3, Or.inl ⟨rfl, e1, a4⟩⟩⟩
  · have e1 : amountF G lo hi s t = NONE9 := by
      by_cases hx : ∃ S, S < 2 ^ G.n ∧ crowdP G lo hi s t S = true
      · obtain ⟨S, c1, c2⟩ := hx
        exact amount_none c1 c2
      · exfalso
        refine hno fun S hS => ?_
        cases hc : crowdP G lo hi s t S
        · rfl
        · exact absurd ⟨S, hS, hc⟩ hx
    refine ⟨⟨by omega, by omega⟩, fun _ => ?_, fun h => absurd e1 h⟩
    exact rg_X10_finds_30 hV _ _ ⟨⟨by omega, by omega⟩, fun _ => ⟨a1, Or.inr ⟨rfl, e1⟩⟩, fun h => absurd e1 h⟩
end MS
