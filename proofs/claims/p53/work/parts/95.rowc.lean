/-! the row of least numbers of any flow, by the class -/
theorem leastC_le {G : Gr} {lo hi b f : Nat → Int} (hG : GrIn G) (h : FS G lo hi b f) {e : Nat} (he : e < G.m) : leastC G lo hi b e ≤ f e := by
  unfold leastC
  rcases (mx_spec (lo e) (fun S => ens G S e) (fun S => sOut G lo S - bS G.n b S - (sIn G hi S - hi e)) (2 ^ G.n)).2.2 with h1 | ⟨S, -, h2, h3⟩
  · rw [h1]; exact (h.1 e he).1
  · rw [h3]; exact h.bound hG he h2
def lxC (G : Gr) (lo hi b : Nat → Int) : Nat → (Nat → Int) × (Nat → Int)
  | 0 => (lo, hi)
  | k + 1 => (upL (lxC G lo hi b k).1 k (leastC G (lxC G lo hi b k).1 (lxC G lo hi b k).2 b k), upL (lxC G lo hi b k).2 k (leastC G (lxC G lo hi b k).1 (lxC G lo hi b k).2 b k))
theorem lxC_same {G : Gr} {lo hi b : Nat → Int} {k e : Nat} (he : e < k) : (lxC G lo hi b k).1 e = (lxC G lo hi b k).2 e := by
  induction k with
  | zero => omega
  | succ k ih =>
    rw [lxC]
    dsimp only
    by_cases hek : e = k
    · rw [hek, upL_s, upL_s]
    · rw [upL_n hek, upL_n hek]; exact ih (by omega)
theorem lxC_after {G : Gr} {lo hi b : Nat → Int} {k e : Nat} (he : k ≤ e) : (lxC G lo hi b k).1 e = lo e ∧ (lxC G lo hi b k).2 e = hi e := by
  induction k with
  | zero => exact ⟨rfl, rfl⟩
  | succ k ih =>
    rw [lxC]
    dsimp only
    rw [upL_n (by omega), upL_n (by omega)]
    exact ih (by omega)
theorem lxC_ok {G : Gr} {lo hi b f : Nat → Int} (hG : GrIn G) (h : FS G lo hi b f) {k : Nat} (hk : k ≤ G.m) : (∀ e, e < G.m → lo e ≤ (lxC G lo hi b k).1 e ∧ (lxC G lo hi b k).2 e ≤ hi e) ∧ ∃ g, FS G (lxC G lo hi b k).1 (lxC G lo hi b k).2 b g := by
  induction k with
  | zero => exact ⟨fun e he => ⟨Int.le_refl _, Int.le_refl _⟩, f, h⟩
  | succ k ih =>
    obtain ⟨h1, g, h2⟩ := ih (by omega)
    have hk9 : k < G.m := by omega
    obtain ⟨g9, h3, h4⟩ := FS.least hG hk9 (Int.toNat (g k - (lxC G lo hi b k).1 k)) g h2 (by omega)
    rw [lxC, ← h4]
    dsimp only
    have b1 := h3.1 k hk9
    have b2 := h1 k hk9
    refine ⟨fun e he => ?_, g9, fun e he => ?_, h3.2⟩
    · by_cases hek : e = k
      · rw [hek, upL_s, upL_s]; omega
      · rw [upL_n hek, upL_n hek]; exact h1 e he
    · by_cases hek : e = k
      · rw [hek, upL_s, upL_s]; omega
      · rw [upL_n hek, upL_n hek]; exact h3.1 e he
theorem lxC_row {G : Gr} {lo hi b : Nat → Int} {k e : Nat} (he : e < k) : (lxC G lo hi b k).1 e = (lxC G lo hi b (e + 1)).1 e := by
  induction k with
  | zero => omega
  | succ k ih =>
    by_cases hek : e = k
    · rw [hek]
    · rw [lxC]
      dsimp only
      rw [upL_n hek]
      exact ih (by omega)
section RWC
variable {X : xX} {c : xCx} {I : xIn} {G : Gr} {b : Nat → Int}
/-- one edge is lowered -/
theorem fl_lowerC (hX : xBase X) (d : Nat) (hF : FR I G) (hb : Bd9 I G.m) (hi9 : In9 I G.m) (hbal : ∀ x, x < G.n → nout G (I (0, 11)) x = b x) {e : Nat} (he : e < G.m) (hne : G.u e ≠ G.v e) (hsp : I (0, 11) e - I (0, 9) e ≤ 1000000) : xRet rU X m_X1_lower (d + 3) [xr (0, 3), xi (e : Int)] c I 0 0 (fun _ I9 => kpL I I9 ∧ In9 I9 G.m ∧ Bd9 I9 G.m ∧ (∀ x, x < G.n → nout G (I9 (0, 11)) x = b x) ∧ I9 (0, 9) = upL (I (0, 9)) e (leastC G (I (0, 9)) (I (0, 10)) b e) ∧ I9 (0, 10) = upL (I (0, 10)) e (leastC G (I (0, 9)) (I (0, 10)) b e) ∧ I9 (0, 11) e = leastC G (I (0, 9)) (I (0, 10)) b e) xNo := by
  refine xRet_w (fl_lower hX d hF hb hi9 he hne hsp) ?_ (fun _ _ h => h)
  rintro _ J ⟨k1, k2, k3, k4, k5, k6⟩
  have hG : GrIn G := hF.2.2.2.2.1
  have hFS : FS G (I (0, 9)) (I (0, 10)) b (J (0, 11)) := ⟨k2, fun x hx => by rw [k3 x]; exact hbal x hx⟩
  have hv := leastC_eq hG hFS he k6
  rw [← hv]
  refine ⟨k1, fun k hk => ?_, fun k hk => ?_, fun x hx => by rw [k3 x]; exact hbal x hx, k4, k5, rfl⟩
  · rw [k4, k5]
    by_cases hke : k = e
    · rw [hke, upL_s, upL_s]; omega
    · rw [upL_n hke, upL_n hke]; exact k2 k hk
  · rw [k4, k5]
    by_cases hke : k = e
    · rw [hke, upL_s, upL_s]
      have h1 := k2 e he
      have h2 := hb e he
      omega
    · rw [upL_n hke, upL_n hke]; exact hb k hk
/-- what is known while a row is told -/
def RowC (I J : xIn) (G : Gr) (b : Nat → Int) (k : Nat) : Prop := kpL I J ∧ In9 J G.m ∧ Bd9 J G.m ∧ (∀ x, x < G.n → nout G (J (0, 11)) x = b x) ∧ J (0, 9) = (lxC G (I (0, 9)) (I (0, 10)) b k).1 ∧ J (0, 10) = (lxC G (I (0, 9)) (I (0, 10)) b k).2
theorem RowC.s {I J K : xIn} {k : Nat} (h : RowC I J G b k) (h1 : kpL J K) (h2 : In9 K G.m) (h3 : Bd9 K G.m) (h4 : ∀ x, x < G.n → nout G (K (0, 11)) x = b x) (h5 : K (0, 9) = upL (J (0, 9)) k (leastC G (J (0, 9)) (J (0, 10)) b k)) (h6 : K (0, 10) = upL (J (0, 10)) k (leastC G (J (0, 9)) (J (0, 10)) b k)) : RowC I K G b (k + 1) := by
  obtain ⟨g1, -, -, -, g5, g6⟩ := h
  refine ⟨g1.tr h1, h2, h3, h4, ?_, ?_⟩
  · rw [h5, g5, g6]; rfl
  · rw [h6, g5, g6]; rfl
theorem RowC.v {I J : xIn} {k e : Nat} (h : RowC I J G b k) (he : e < k) (hm : e < G.m) : J (0, 11) e = (lxC G (I (0, 9)) (I (0, 10)) b k).1 e := by
  have h1 := h.2.1 e hm
  rw [h.2.2.2.2.1, h.2.2.2.2.2] at h1
  have h2 := lxC_same (G := G) (lo := I (0, 9)) (hi := I (0, 10)) (b := b) he
  omega
theorem RowC.sp {I J : xIn} {k e : Nat} (h : RowC I J G b k) (hs : ∀ e, e < G.m → I (0, 10) e - I (0, 9) e ≤ 1000000) (hk : k ≤ e) (hm : e < G.m) : J (0, 11) e - J (0, 9) e ≤ 1000000 := by
  have h1 := h.2.1 e hm
  rw [h.2.2.2.2.1, h.2.2.2.2.2, (lxC_after hk).1, (lxC_after hk).2] at h1
  rw [h.2.2.2.2.1, (lxC_after hk).1]
  have := hs e hm
  omega
theorem st_tellRowC (hX : xBase X) (d : Nat) (hF : FR I G) (hne : ∀ e, e < G.m → G.u e ≠ G.v e) (hb : Bd9 I G.m) (hi9 : In9 I G.m) (hbal : ∀ x, x < G.n → nout G (I (0, 11)) x = b x) (hs : ∀ e, e < G.m → I (0, 10) e - I (0, 9) e ≤ 1000000) {m : Nat} (hm : m ≤ G.m) : xRet rU X m_X6_tellLeastRow (d + 4) [xr (0, 2), xi (m : Int)] c I 0 0 (fun _ I9 => RowC I I9 G b m) xNo := by
  have hm32 : G.m ≤ 32 := hF.2.2.2.1
  refine xRet_of hX pl_X6_tellLeastRow (LE1 rfl) fun V hV => rg_X6_tellLeastRow_0 hV I _ ?_
  refine up_to0 (m := m) (W := fun k => ∀ J : xIn, RowC I J G b k → V 2 [(0, xr (0, 2)), (1, xi (m : Int)), (2, xi (k : Int))] [] (J, xst c) 0 0) ?_ ?_ I ⟨⟨kp.rfl, fun _ _ => rfl⟩, hi9, hb, hbal, rfl, rfl⟩
  · intro J h
    exact rg_X6_tellLeastRow_2 hV J _ _ ⟨⟨by omega, by omega⟩, ⟨by omega, by omega⟩, fun _ => h, fun h => by omega⟩
  · intro k hk ih J h
    have hkm : k < G.m := by omega
    refine rg_X6_tellLeastRow_2 hV J _ _ ⟨⟨by omega, by omega⟩, ⟨by omega, by omega⟩, fun h => by omega, fun _ => ⟨_, fl_lowerC hX d (h.1.fr hF) h.2.2.1 h.2.1 h.2.2.2.1 hkm (hne k hkm) (h.sp hs (Nat.le_refl _) hkm), ?_⟩⟩
    rintro _ K ⟨a1, a2, a3, a4, a5, a6, -⟩
    exact ih K (h.s a1 a2 a3 a4 a5 a6)
end RWC
