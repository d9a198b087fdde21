/-! the class weighs a set -/
section CW
variable {X : xX} {c : xCx} {I : xIn} {i : Nat} {G : Gr}
def pOut (G : Gr) (b : Nat → Int) (S k : Nat) : Int := sumE k (fun e => if lvs G S e then b e else 0)
def pIn (G : Gr) (b : Nat → Int) (S k : Nat) : Int := sumE k (fun e => if ens G S e then b e else 0)
theorem pOut_bd {G : Gr} {b : Nat → Int} {S k : Nat} (hk : k ≤ 16) (hb : ∀ e, e < k → 0 ≤ b e ∧ b e ≤ 99) : 0 ≤ pOut G b S k ∧ pOut G b S k ≤ 1600 := by
  have h := sumE_bd (n := k) (f := fun e => if lvs G S e then b e else 0) (a := 0) (b := 100) (fun e he => by have := hb e he; split <;> omega)
  unfold pOut
  omega
theorem pIn_bd {G : Gr} {b : Nat → Int} {S k : Nat} (hk : k ≤ 16) (hb : ∀ e, e < k → 0 ≤ b e ∧ b e ≤ 99) : 0 ≤ pIn G b S k ∧ pIn G b S k ≤ 1600 := by
  have h := sumE_bd (n := k) (f := fun e => if ens G S e then b e else 0) (a := 0) (b := 100) (fun e he => by have := hb e he; split <;> omega)
  unfold pIn
  omega
theorem pOut_s {G : Gr} {b : Nat → Int} {S k : Nat} : pOut G b S (k + 1) = pOut G b S k + (if lvs G S k then b k else 0) := rfl
theorem pIn_s {G : Gr} {b : Nat → Int} {S k : Nat} : pIn G b S (k + 1) = pIn G b S k + (if ens G S k then b k else 0) := rfl
/-- the four sums in the rows -/
def W15 (I J : xIn) (i : Nat) (G : Gr) (S k : Nat) : Prop := J (0, 15) 0 = pOut G (I (i + 3, 4)) S k ∧ J (0, 15) 1 = pOut G (I (i + 3, 3)) S k ∧ J (0, 15) 2 = pIn G (I (i + 3, 4)) S k ∧ J (0, 15) 3 = pIn G (I (i + 3, 3)) S k ∧ ∀ j, 4 ≤ j → J (0, 15) j = I (0, 15) j
theorem cu_weigh (hX : xBase X) (d : Nat) (hC : CG I c i G) (hN : NB I i G.m) {S : Nat} (hS : S ≤ 2147483647) : xRet rU X m_X0_weigh d [xr (0, 15), xr (i + 3, 0), xi (S : Int)] c I 0 0 (fun _ I9 => kp [(0, 15)] I I9 ∧ W15 I I9 i G S G.m) xNo := by
  obtain ⟨c1, c2, c3, c4, c5⟩ := id hC
  have hm := c4.2.2.1
  have hn := c4.2.1
  refine xRet_of hX pl_X0_weigh (LE1 rfl) fun V hV => rg_X0_weigh_0 hV I _ c1 _ ?_
  rintro I1 h1 I2 h2 I3 h3 I4 h4
  have k4 : kp [(0, 15)] I I4 := by rw [h4, h3, h2, h1]; exact (((kp.rfl.xu (by simp)).xu (by simp)).xu (by simp)).xu (by simp)
  have w4 : W15 I I4 i G S 0 := by
    rw [h4, h3, h2, h1]
    refine ⟨?_, ?_, ?_, ?_, fun j hj => ?_⟩
    · rw [xu_k (by decide), xu_k (by decide), xu_k (by decide), xu_same]; rfl
    · rw [xu_k (by decide), xu_k (by decide), xu_same]; rfl
    · rw [xu_k (by decide), xu_same]; rfl
    · rw [xu_same]; rfl
    · rw [xu_k (by omega), xu_k (by omega), xu_k (by omega), xu_k (by omega)]
  clear h1 h2 h3 h4
  refine up_to0 (m := G.m) (W := fun k => ∀ J : xIn, kp [(0, 15)] I J → W15 I J i G S k → V 22 [(0, xr (0, 15)), (1, xr (i + 3, 0)), (2, xi (S : Int)), (3, xi (k : Int))] [] (J, xst c) 0 0) ?_ ?_ I4 k4 w4
  · intro J a1 a2
    refine rg_X0_weigh_22 hV J _ c1 _ _ ⟨⟨by omega, by omega⟩, fun _ => ⟨a1, a2⟩, fun h => ?_⟩
    rw [a1 (i + 3, 0) (by simp), c3] at h; omega
  · intro k hk ih J a1 a2
    obtain ⟨w0, w1, w2, w3, wj⟩ := id a2
    have q : ∀ j, J (i + 3, j) = I (i + 3, j) := fun j => a1 _ (by simp)
    have u1 := c4.2.2.2 k hk
    have b0 := pOut_bd (G := G) (b := I (i + 3, 4)) (S := S) (k := k) (by omega) (fun e he => by have := hN e (by omega); omega)
    have b1 := pOut_bd (G := G) (b := I (i + 3, 3)) (S := S) (k := k) (by omega) (fun e he => by have := hN e (by omega); omega)
    have b2 := pIn_bd (G := G) (b := I (i + 3, 4)) (S := S) (k := k) (by omega) (fun e he => by have := hN e (by omega); omega)
    have b3 := pIn_bd (G := G) (b := I (i + 3, 3)) (S := S) (k := k) (by omega) (fun e he => by have := hN e (by omega); omega)
    have bk := hN k hk
    refine rg_X0_weigh_22 hV J _ c1 _ _ ⟨⟨by omega, by omega⟩, fun h => ?_, fun _ => ⟨⟨by omega, by omega⟩, ?_⟩⟩
    · rw [q, c3] at h; omega
    rw [tnN, q, q, q, (c5 k hk).1, (c5 k hk).2, v_bit hS (by omega), v_bit hS (by omega)]
    rintro _ rfl _ rfl
    cases z1 : S.testBit (G.u k) <;> cases z2 : S.testBit (G.v k)
    · have hl : lvs G S k = false := by unfold lvs; rw [z1]; rfl
      have he : ens G S k = false := by unfold ens; rw [z1, z2]; rfl
      refine ⟨fun _ => ⟨fun _ => ih J a1 ?_, fun h => absurd h (by decide)⟩, fun h => absurd h (by decide)⟩
      refine ⟨?_, ?_, ?_, ?_, wj⟩ <;> first | rw [pOut_s, hl] | rw [pIn_s, he]
      all_goals simp [w0, w1, w2, w3]
    · have hl : lvs G S k = false := by unfold lvs; rw [z1]; rfl
      have he : ens G S k = true := by unfold ens; rw [z1, z2]; rfl
      refine ⟨fun _ => ⟨fun h => absurd h (by decide), fun _ => ⟨⟨by omega, by omega⟩, ?_⟩⟩, fun h => absurd h (by decide)⟩
      rintro J1 rfl
      rw [xu_k (by decide), xu_p (by simp), q]
      refine ⟨⟨by omega, by omega⟩, ?_⟩
      rintro J2 rfl
      refine ih _ ((a1.xu (by simp)).xu (by simp)) ⟨?_, ?_, ?_, ?_, fun j hj => ?_⟩
      · rw [xu_k (by decide), xu_k (by decide), pOut_s, hl, w0]; simp
      · rw [xu_k (by decide), xu_k (by decide), pOut_s, hl, w1]; simp
      · rw [xu_k (by decide), xu_same, pIn_s, he, w2]; simp
      · rw [xu_same, pIn_s, he, w3]; simp
      · rw [xu_k (by omega), xu_k (by omega)]; exact wj j hj
    · have hl : lvs G S k = true := by unfold lvs; rw [z1, z2]; rfl
      have he : ens G S k = false := by unfold ens; rw [z1]; rfl
      refine ⟨fun h => absurd h (by decide), fun _ => ⟨⟨by omega, by omega⟩, ?_⟩⟩
      rintro J1 rfl
      rw [xu_k (by decide), xu_p (by simp), q]
      refine ⟨⟨by omega, by omega⟩, ?_⟩
      rintro J2 rfl
      refine ih _ ((a1.xu (by simp)).xu (by simp)) ⟨?_, ?_, ?_, ?_, fun j hj => ?_⟩
      · rw [xu_k (by decide), xu_same, pOut_s, hl, w0]; simp
      · rw [xu_same, pOut_s, hl, w1]; simp
      · rw [xu_k (by decide), xu_k (by decide), pIn_s, he, w2]; simp
      · rw [xu_k (by decide), xu_k (by decide), pIn_s, he, w3]; simp
      · rw [xu_k (by omega), xu_k (by omega)]; exact wj j hj
    · have hl : lvs G S k = false := by unfold lvs; rw [z1, z2]; rfl
      have he : ens G S k = false := by unfold ens; rw [z1]; rfl
      refine ⟨fun _ => ⟨fun _ => ih J a1 ?_, fun h => absurd h (by decide)⟩, fun h => absurd h (by decide)⟩
      refine ⟨?_, ?_, ?_, ?_, wj⟩ <;> first | rw [pOut_s, hl] | rw [pIn_s, he]
      all_goals simp [w0, w1, w2, w3]
end CW
