/-! the law on calls that are refused -/
theorem lcmp_same (v : Int64) : (lg_cmp v v).toInt = 0 := by
  unfold lg_cmp
  simp
section SO
variable {X : xX} {c : xCx} {I : xIn} {T : NT} {lk : Nat → Nat} {B : TB} {P : PJ} {m b : Nat} {A : Int} {s t : Nat}
theorem lw_checksum (hX : xBase X) (d : Nat) (h : WS I c T lk B P m A) : xRet rL X m_X9_checksum (d + 8) [xr (0, 0), xi 0] c I 1 6 (pv (sumA T 0).1 I) xNo := by
  have h0 : (sumA T 0).2 = 0 := by
    unfold sumA
    rw [wE_0 (w01 h.N)]
  refine xRet_w (cn_checksum hX d h.1 h.2.1 x0) (fun v J => ?_) (fun e J => ?_)
  · rintro ⟨rfl, hv⟩
    exact ⟨congrArg Prod.fst hv, rfl⟩
  · rintro ⟨rfl, hv⟩
    rw [h0] at hv
    exact (exL0 hv).elim
theorem lc_refusedSo (hX : xBase X) (d : Nat) (hLA : LA c m b) (hW : WS I c T lk B P m A) : xRet rB X m_L_refusedSo (d + 9) [xr (2, 0)] c I 50 700 (fun v J => v = true ∧ J = I) xNo := by
  have h6 := hW.n6
  have h11 := hW.m11
  have hN := hW.N
  have p0 : xin 0 := x0
  have p1 : xin 1 := ⟨by decide, by decide⟩
  have p2 : xin 2 := ⟨by decide, by decide⟩
  refine xRet_of hX pl_L_refusedSo (LE1 rfl) fun V hV => rg_L_refusedSo_0 hX hV hLA (LE1 rfl) (LE1 rfl) I ⟨_, lw_checksum hX (d + 0) hW, ?_⟩
  rintro _ I ⟨rfl, rfl⟩
  have step : ∀ k : Nat, k ≤ 6 → ∀ kc nc : Nat, kc ≤ 1 + 7 * k → nc ≤ 6 + 96 * k → V 14 [(0, xr (2, 0)), (1, xl (sumA T 0).1), (3, xi (k : Int)), (4, xi (k : Int))] [] (I, xst c) kc nc := by
    refine up_to (m := 6) (W := fun k => ∀ kc nc : Nat, kc ≤ 1 + 7 * k → nc ≤ 6 + 96 * k → V 14 [(0, xr (2, 0)), (1, xl (sumA T 0).1), (3, xi (k : Int)), (4, xi (k : Int))] [] (I, xst c) kc nc) ?_ ?_
    · intro kc nc g1 g2
      refine rg_L_refusedSo_14 (mc := 50) (ms := 700) hX hV hLA (by omega) (by omega) I _ _ _ ⟨⟨by omega, by omega⟩, fun _ => ⟨⟨by omega, by omega⟩, fun z => absurd rfl z, fun _ => ⟨_, lw_checksum hX (d + 0) hW, ?_⟩⟩, fun z => by omega⟩
      rintro _ I ⟨rfl, rfl⟩
      rw [lcmp_same]
      exact ⟨fun z => absurd rfl z, fun _ => ⟨rfl, rfl⟩⟩
    · intro k hk ih kc nc g1 g2
      rw [Int.natCast_add] at ih
      have nx := ih (kc + 7) (nc + 96) (by omega) (by omega)
      refine rg_L_refusedSo_14 (mc := 50) (ms := 700) hX hV hLA (by omega) (by omega) I _ _ _ ⟨⟨by omega, by omega⟩, fun z => by omega, fun _ => ⟨fun _ => ⟨fun _ => ⟨fun _ => ⟨fun _ => ⟨fun _ => ?_, fun _ => ?_⟩, fun _ => ?_⟩, fun _ => ?_⟩, fun _ => ?_⟩, fun _ => ?_⟩⟩
      · have hA : likesA lk 8 0 = ((0, 1), lk) := by unfold likesA; rw [if_neg (by omega)]
        refine ⟨_, _, cn_likes hX (d + 0) hW.2.2.2.1.2 (a := 8) (S := 0) ⟨by decide, by decide⟩ p0, ?_, ?_⟩
        · rintro e J ⟨rfl, -, he⟩
          rw [hA] at he
          exact ⟨Or.inl (exL_at (k := 0) he rfl), nx⟩
        · rintro v J ⟨-, -, he⟩
          rw [hA] at he
          exact absurd (congrArg Prod.snd he) (show (0 : Int) ≠ 1 by decide)
      · have hA : supplyA T 1 0 0 = ((0, 1), T) := by
          have : wrong1C T 1 0 = 1 := by unfold wrong1C; rw [hN]; exact if_neg (by decide)
          unfold supplyA
          rw [this]
          exact if_pos (by decide)
        refine ⟨_, _, cn_supply hX (d + 0) hW.1 hW.2.1 (a := 1) (e := 0) (v := 0) p1 p0 p0, ?_, ?_⟩
        · rintro e J ⟨rfl, -, he⟩
          rw [hA] at he
          exact ⟨Or.inl (exL_at (k := 0) he rfl), nx⟩
        · rintro v J ⟨-, -, he⟩
          rw [hA] at he
          exact absurd (congrArg Prod.snd he) (show (0 : Int) ≠ 1 by decide)
      · have hA : changeA T 0 16 0 1 0 = ((0, 1), T) := by
          have : wrong1E T 0 16 = 1 := by
            unfold wrong1E
            rw [if_pos (by rw [hN]; decide)]
            refine if_neg (fun z => ?_)
            have z := of_decide_eq_true z
            have := hW.m9
            rw [Int.toNat_zero] at z
            omega
          unfold changeA
          rw [this]
          exact if_pos (by decide)
        refine ⟨_, _, cn_change hX (d + 0) hW.1 hW.2.1 (a := 0) (e := 16) (lo := 0) (hi := 1) (co := 0) p0 ⟨by decide, by decide⟩ p0 p1 p0, ?_, ?_⟩
        · rintro e J ⟨rfl, -, he⟩
          rw [hA] at he
          exact ⟨Or.inl (exL_at (k := 0) he rfl), nx⟩
        · rintro v J ⟨-, -, he⟩
          rw [hA] at he
          exact absurd (congrArg Prod.snd he) (show (0 : Int) ≠ 1 by decide)
      · have hA : edgeA T 0 0 1 2 1 0 = ((0, 2), T) := by
          have : wrongT T 0 0 1 = 0 := w0 (s := 0) (t := 1) hN (by omega) (by omega) (by decide)
          unfold edgeA
          rw [this, if_neg (by decide)]
          exact if_neg (by decide)
        refine ⟨_, _, cn_edge hX (d + 0) hW.1 hW.2.1 (a := 0) (s := 0) (t := 1) (lo := 2) (hi := 1) (co := 0) p0 p0 p1 p2 p1 p0, ?_, ?_⟩
        · rintro e J ⟨rfl, -, he⟩
          rw [hA] at he
          exact ⟨Or.inr (exL_at (k := 1) he rfl), nx⟩
        · rintro v J ⟨-, -, he⟩
          rw [hA] at he
          exact absurd (congrArg Prod.snd he) (show (0 : Int) ≠ 2 by decide)
      · have hA : edgeA T 0 0 0 0 1 0 = ((0, 2), T) := by
          have : wrongT T 0 0 0 = 2 := by
            unfold wrongT
            rw [if_pos (by rw [hN]; decide)]
            refine if_neg (fun z => ?_)
            unfold twoB at z
            rw [Bool.and_eq_true] at z
            exact absurd z.2 (by decide)
          unfold edgeA
          rw [this]
          exact if_pos (by decide)
        refine ⟨_, _, cn_edge hX (d + 0) hW.1 hW.2.1 (a := 0) (s := 0) (t := 0) (lo := 0) (hi := 1) (co := 0) p0 p0 p0 p0 p1 p0, ?_, ?_⟩
        · rintro e J ⟨rfl, -, he⟩
          rw [hA] at he
          exact ⟨Or.inr (exL_at (k := 1) he rfl), nx⟩
        · rintro v J ⟨-, -, he⟩
          rw [hA] at he
          exact absurd (congrArg Prod.snd he) (show (0 : Int) ≠ 2 by decide)
      · refine ⟨_, _, cn_netBad hX (d + 1) (a := 9) ⟨by decide, by decide⟩ (by decide), ?_, ?_⟩
        · rintro e J ⟨rfl, rfl⟩
          exact ⟨Or.inr rfl, nx⟩
        · rintro v J h
          exact h.elim
  exact step 0 (Nat.zero_le _) _ _ (by omega) (by omega)
end SO
