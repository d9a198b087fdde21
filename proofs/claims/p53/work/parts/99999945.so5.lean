/-! the law on the tree -/
def tri : Nat → Nat
  | 0 => 0
  | k + 1 => tri k + k
theorem tri_le : ∀ {k n : Nat}, k ≤ n → tri k ≤ tri n := by
  intro k n h
  induction n with
  | zero => rw [Nat.le_zero.mp h]; exact Nat.le_refl _
  | succ n ih =>
    by_cases hk : k = n + 1
    · rw [hk]; exact Nat.le_refl _
    · have := ih (by omega)
      rw [tri]
      omega
section SO
variable {X : xX} {c : xCx} {I : xIn} {T : NT} {lk : Nat → Nat} {B : TB} {P : PJ} {m b : Nat} {A : Int} {s t : Nat}
abbrev lamT (T : NT) (s t : Nat) : Int := lbF (bth (T.G 0) (T.hi 0)) (T.G 0).n s t
theorem lw_between (hX : xBase X) (d : Nat) (h : WS I c T lk B P m A) (hs : s < (T.G 0).n) (ht : t < (T.G 0).n) (hst : s ≠ t) : xRet rI X m_X9_between (d + 8) [xr (0, 0), xi 0, xi (s : Int), xi (t : Int)] c I 2 12 (fun v J => keepC I J ∧ v = lamT T s t) xNo := by
  have h6 := h.n6
  have hA : betweenA T 0 s t = (lamT T s t, 0) := by
    unfold betweenA
    rw [wE_0 (w0 h.N hs ht hst), tnN, tnN, Int.toNat_zero]
  refine xRet_w (cn_between hX d h.1 h.2.1 x0 (xn (by omega)) (xn (by omega))) (fun v J => ?_) (fun e J => ?_)
  · rintro ⟨k, hv⟩
    rw [hA] at hv
    exact ⟨k, congrArg Prod.fst hv⟩
  · rintro ⟨k, hv⟩
    rw [hA] at hv
    exact (exL0 hv).elim
theorem lw_parent (hX : xBase X) (d : Nat) (h : WS I c T lk B P m A) (hs : s < (T.G 0).n) (h0 : s ≠ 0) : xRet rI X m_X9_parent (d + 8) [xr (0, 0), xi 0, xi (s : Int)] c I 3 18 (fun v J => keepC I J ∧ ∃ p : Nat, v = (p : Int) ∧ p < s) xNo := by
  have h6 := h.n6
  have hw : wrong1C T 0 (s : Int) = 0 := by
    unfold wrong1C
    rw [Int.toNat_zero, if_pos (by rw [h.N]; decide), if_pos (w_in hs)]
  have hA : parentA T 0 s = ((parF (bth (T.G 0) (T.hi 0)) (T.G 0).n s : Int), 0) := by
    unfold parentA parentG
    rw [wE_0 hw, tnN, Int.toNat_zero, if_neg h0]
  refine xRet_w (cn_parent hX d h.1 h.2.1 x0 (xn (by omega))) (fun v J => ?_) (fun e J => ?_)
  · rintro ⟨k, hv⟩
    rw [hA] at hv
    exact ⟨k, _, congrArg Prod.fst hv, grP_lt _ _ _ (by omega)⟩
  · rintro ⟨k, hv⟩
    rw [hA] at hv
    exact (exL0 hv).elim
theorem lc_treeSo (hX : xBase X) (d : Nat) (hLA : LA c m b) (hW : WS I c T lk B P m A) : xRet rB X m_L_treeSo (d + 9) [xr (2, 0)] c I 4000 20000 (fun v J => v = true ∧ keepV 0 I J) xNo := by
  have h6 := hW.n6
  have h11 := hW.m11
  have hm9 := hW.m9
  have hb : ∀ e, e < (T.G 0).m → 0 ≤ T.hi 0 e ∧ T.hi 0 e ≤ 99 := fun e he => by have := hW.bd e he; omega
  have hD := bth_smd hW.g hb
  have hlb : ∀ a c9 : Nat, a < (T.G 0).n → a ≠ c9 → 0 ≤ lamT T a c9 ∧ lamT T a c9 ≤ 3200 := fun a c9 h1 h2 => lbF_bd hD.1 h1 h2
  have hp64 : 2 ^ (T.G 0).n ≤ 64 := Nat.pow_le_pow_right (by decide) h6.2
  have hn4 : ∀ {J : xIn}, keepV 0 I J → J (2, 0) 4 = ((T.G 0).n : Int) := fun h => (hW.k0 h).2.2.1.2.2.2.1
  have htri : ∀ k, k ≤ (T.G 0).n → tri k ≤ 15 := fun k hk => Nat.le_trans (tri_le (Nat.le_trans hk h6.2)) (by decide)
  refine xRet_of hX pl_L_treeSo (LE1 rfl) fun V hV => ?_
  have main : ∀ x : Nat, x ≤ (T.G 0).n → ∀ (J : xIn) (kc nc : Nat), kc ≤ 10 * x + 170 * tri x → nc ≤ 60 * x + 720 * tri x → keepV 0 I J → V 4 [(0, xr (2, 0)), (1, xi (xbi true)), (2, xi (x : Int))] [] (J, xst c) kc nc := by
    refine up_to (m := (T.G 0).n) (W := fun x => ∀ (J : xIn) (kc nc : Nat), kc ≤ 10 * x + 170 * tri x → nc ≤ 60 * x + 720 * tri x → keepV 0 I J → V 4 [(0, xr (2, 0)), (1, xi (xbi true)), (2, xi (x : Int))] [] (J, xst c) kc nc) ?_ ?_
    · intro J kc nc hk1 hn1 hJ
      have j4 := hn4 hJ
      have h3 := htri _ (Nat.le_refl _)
      exact rg_L_treeSo_4 (mc := 4000) (ms := 20000) hX hV hLA (by omega) (by omega) J _ _ ⟨⟨by omega, by omega⟩, fun _ => ⟨rfl, hJ⟩, fun z => by omega⟩
    intro x hx ih J kc nc hk1 hn1 hJ
    have j4 := hn4 hJ
    have h3 := htri (x + 1) hx
    rw [Int.natCast_add] at ih
    rw [tri] at ih h3
    have s203 : ∀ (J : xIn) (kc nc : Nat), kc ≤ 10 * x + 170 * (tri x + x) + 4 → nc ≤ 60 * x + 720 * (tri x + x) + 24 → keepV 0 I J → V 203 [(0, xr (2, 0)), (1, xi (xbi true)), (2, xi (x : Int))] [] (J, xst c) kc nc := by
      intro J kc nc hk1 hn1 hJ
      refine rg_L_treeSo_203 (mc := 4000) (ms := 20000) hX hV hLA (by omega) (by omega) J _ _ ⟨(fun z => by cases z), fun _ => ⟨⟨by omega, by omega⟩, fun _ => ih J _ _ (by omega) (by omega) hJ, fun hx0 => ⟨_, lw_parent hX (d + 0) (hW.k0 hJ) hx (by omega), ?_⟩⟩⟩
      rintro _ J1 ⟨k1, p, rfl, hp⟩
      have hJ1 := hJ.C k1
      have j41 := hn4 hJ1
      refine ⟨⟨by omega, by omega⟩, fun z => by omega, fun _ => ⟨_, lw_parent hX (d + 0) (hW.k0 hJ1) hx (by omega), ?_⟩⟩
      rintro _ J2 ⟨k2, p2, rfl, hp2⟩
      exact ⟨⟨by omega, by omega⟩, fun z => by omega, fun _ => ih J2 _ _ (by omega) (by omega) (hJ1.C k2)⟩
    refine rg_L_treeSo_4 (mc := 4000) (ms := 20000) hX hV hLA (by omega) (by omega) J _ _ ⟨⟨by omega, by omega⟩, fun z => by omega, fun _ => ⟨(fun z => by cases z), fun _ => ?_⟩⟩
    have rows : ∀ y : Nat, y ≤ x → ∀ (J : xIn) (kc nc : Nat), kc ≤ 10 * x + 170 * (tri x + y) → nc ≤ 60 * x + 720 * (tri x + y) → keepV 0 I J → V 18 [(0, xr (2, 0)), (1, xi (xbi true)), (2, xi (x : Int)), (3, xi (y : Int))] [] (J, xst c) kc nc := by
      refine up_to (m := x) (W := fun y => ∀ (J : xIn) (kc nc : Nat), kc ≤ 10 * x + 170 * (tri x + y) → nc ≤ 60 * x + 720 * (tri x + y) → keepV 0 I J → V 18 [(0, xr (2, 0)), (1, xi (xbi true)), (2, xi (x : Int)), (3, xi (y : Int))] [] (J, xst c) kc nc) ?_ ?_
      · intro J kc nc hk1 hn1 hJ
        exact rg_L_treeSo_18 (mc := 4000) (ms := 20000) hX hV hLA (by omega) (by omega) J _ _ _ ⟨⟨by omega, by omega⟩, ⟨by omega, by omega⟩, fun _ => s203 J _ _ (by omega) (by omega) hJ, fun z => by omega⟩
      intro y hy ih9 J kc nc hk1 hn1 hJ
      rw [Int.natCast_add] at ih9
      have hyn : y < (T.G 0).n := by omega
      have hxy : x ≠ y := by omega
      have hl := hlb x y hx hxy
      have s130 : ∀ (J : xIn) (kc nc : Nat), kc ≤ 10 * x + 170 * (tri x + y) + 134 → nc ≤ 60 * x + 720 * (tri x + y) + 544 → keepV 0 I J → V 130 [(0, xr (2, 0)), (1, xi (xbi true)), (2, xi (x : Int)), (3, xi (y : Int)), (4, xi (lamT T x y)), (5, xi 0)] [] (J, xst c) kc nc := by
        intro J kc nc hk1 hn1 hJ
        have go : ∀ z : Nat, z ≤ (T.G 0).n → ∀ J : xIn, keepV 0 I J → ∀ k9 n9 : Nat, k9 ≤ kc + 4 * z → n9 ≤ nc + 24 * z → V 130 [(0, xr (2, 0)), (1, xi (xbi true)), (2, xi (x : Int)), (3, xi (y : Int)), (4, xi (lamT T x y)), (5, xi (z : Int))] [] (J, xst c) k9 n9 := by
          refine up_to (m := (T.G 0).n) (W := fun z => ∀ J : xIn, keepV 0 I J → ∀ k9 n9 : Nat, k9 ≤ kc + 4 * z → n9 ≤ nc + 24 * z → V 130 [(0, xr (2, 0)), (1, xi (xbi true)), (2, xi (x : Int)), (3, xi (y : Int)), (4, xi (lamT T x y)), (5, xi (z : Int))] [] (J, xst c) k9 n9) ?_ ?_
          · intro J hJ k9 n9 g1 g2
            have j4 := hn4 hJ
            exact rg_L_treeSo_130 (mc := 4000) (ms := 20000) hX hV hLA (by omega) (by omega) J _ _ _ _ _ ⟨⟨by omega, by omega⟩, fun _ => ih9 J _ _ (by omega) (by omega) hJ, fun z => by omega⟩
          · intro z hz ihz J hJ k9 n9 g1 g2
            have j4 := hn4 hJ
            rw [Int.natCast_add] at ihz
            refine rg_L_treeSo_130 (mc := 4000) (ms := 20000) hX hV hLA (by omega) (by omega) J _ _ _ _ _ ⟨⟨by omega, by omega⟩, fun z => by omega, fun _ => ⟨(fun z => by cases z), fun _ => ⟨⟨by omega, by omega⟩, fun _ => ihz J hJ _ _ (by omega) (by omega), fun hzx => ⟨⟨by omega, by omega⟩, fun _ => ihz J hJ _ _ (by omega) (by omega), fun hzy => ⟨_, lw_between hX (d + 0) (hW.k0 hJ) hx hz (by omega), ?_⟩⟩⟩⟩⟩
            rintro _ J1 ⟨k1, rfl⟩
            have hJ1 := hJ.C k1
            refine ⟨_, lw_between hX (d + 0) (hW.k0 hJ1) hz hyn (by omega), ?_⟩
            rintro _ J2 ⟨k2, rfl⟩
            have b1 := hlb x z hx (by omega)
            have b2 := hlb z y hz (by omega)
            have hu : lamT T x z ≤ lamT T x y ∨ lamT T z y ≤ lamT T x y := lam_ult hD hx hyn hz hxy (by omega) (by omega)
            have hmin : 0 ≤ min (lamT T x z) (lamT T z y) ∧ min (lamT T x z) (lamT T z y) ≤ 3200 := by omega
            have hmin2 : min (lamT T x z) (lamT T z y) ≤ lamT T x y := by omega
            exact ⟨⟨by omega, by omega⟩, ⟨by omega, by omega⟩, ⟨by omega, by omega⟩, ⟨by omega, by omega⟩, fun z => by omega, fun _ => ihz J2 (hJ1.C k2) _ _ (by omega) (by omega)⟩
        exact go 0 (Nat.zero_le _) J hJ kc nc (by omega) (by omega)
      have s63 : ∀ (J : xIn) (kc nc : Nat), kc ≤ 10 * x + 170 * (tri x + y) + 4 → nc ≤ 60 * x + 720 * (tri x + y) + 24 → keepV 0 I J → V 63 [(0, xr (2, 0)), (1, xi (xbi true)), (2, xi (x : Int)), (3, xi (y : Int)), (4, xi (lamT T x y)), (5, xi 0)] [] (J, xst c) kc nc := by
        intro J kc nc hk1 hn1 hJ
        have j4 := hn4 hJ
        have hWJ := hW.k0 hJ
        have go : ∀ S : Nat, S ≤ 2 ^ (T.G 0).n → ∀ k9 n9 : Nat, k9 ≤ kc + 2 * S → n9 ≤ nc + 8 * S → V 63 [(0, xr (2, 0)), (1, xi (xbi true)), (2, xi (x : Int)), (3, xi (y : Int)), (4, xi (lamT T x y)), (5, xi (S : Int))] [] (J, xst c) k9 n9 := by
          refine up_to (m := 2 ^ (T.G 0).n) (W := fun S => ∀ k9 n9 : Nat, k9 ≤ kc + 2 * S → n9 ≤ nc + 8 * S → V 63 [(0, xr (2, 0)), (1, xi (xbi true)), (2, xi (x : Int)), (3, xi (y : Int)), (4, xi (lamT T x y)), (5, xi (S : Int))] [] (J, xst c) k9 n9) ?_ ?_
          · intro k9 n9 g1 g2
            refine rg_L_treeSo_63 (mc := 4000) (ms := 20000) hX hV hLA (by omega) (by omega) J _ _ _ _ _ ⟨xn (by omega), fun _ => s130 J _ _ (by omega) (by omega) hJ, fun z => ?_⟩
            rw [j4, v_pow hW.g.2.1] at z
            omega
          · intro S hS ihS k9 n9 g1 g2
            rw [Int.natCast_add] at ihS
            refine rg_L_treeSo_63 (mc := 4000) (ms := 20000) hX hV hLA (by omega) (by omega) J _ _ _ _ _ ⟨xn (by omega), fun z => ?_, fun _ => ⟨(fun z => by cases z), fun _ => ⟨_, lc_has hX (d + 8) rfl rfl (by omega) (by omega), ?_⟩⟩⟩
            · rw [j4, v_pow hW.g.2.1] at z
              omega
            rintro _ _ ⟨rfl, rfl⟩
            refine ⟨_, lc_has hX (d + 8) rfl rfl (by omega) (by omega), ?_⟩
            rintro _ _ ⟨rfl, rfl⟩
            refine ⟨fun _ => ihS _ _ (by omega) (by omega), fun hne => ⟨_, lc_out hX (d + 5) hLA hWJ.2.2.1 hWJ.uv rfl (w := 3) (W := 3) rfl (by omega) (by decide), ?_⟩⟩
            rintro _ _ ⟨rfl, rfl⟩
            refine ⟨_, lc_into hX (d + 5) hLA hWJ.2.2.1 hWJ.uv rfl (w := 3) (W := 3) rfl (by omega) (by decide), ?_⟩
            rintro _ _ ⟨rfl, rfl⟩
            obtain ⟨o1, o2, o3, o4⟩ := out_e hWJ S
            rw [o1, o3]
            have hpt : lamT T x y ≤ sOut (T.G 0) (T.hi 0) S + sIn (T.G 0) (T.hi 0) S := lam_part hD hx hyn hxy hS hne
            have hbd : 0 ≤ sOut (T.G 0) (T.hi 0) S + sIn (T.G 0) (T.hi 0) S ∧ sOut (T.G 0) (T.hi 0) S + sIn (T.G 0) (T.hi 0) S ≤ 3200 := hD.1 S
            exact ⟨⟨by omega, by omega⟩, ⟨by omega, by omega⟩, fun z => by omega, fun _ => ihS _ _ (by omega) (by omega)⟩
        exact go 0 (Nat.zero_le _) kc nc (by omega) (by omega)
      refine rg_L_treeSo_18 (mc := 4000) (ms := 20000) hX hV hLA (by omega) (by omega) J _ _ _ ⟨⟨by omega, by omega⟩, ⟨by omega, by omega⟩, fun z => by omega, fun _ => ⟨(fun z => by cases z), fun _ => ⟨_, lw_between hX (d + 0) (hW.k0 hJ) hx hyn hxy, ?_⟩⟩⟩
      rintro _ J1 ⟨k1, rfl⟩
      have hJ1 := hJ.C k1
      refine ⟨_, lw_between hX (d + 0) (hW.k0 hJ1) hyn hx hxy.symm, ?_⟩
      rintro _ J2 ⟨k2, rfl⟩
      have hsym : lamT T x y = lamT T y x := lam_sym hD hx hyn hxy
      have hl2 := hlb y x hyn hxy.symm
      exact ⟨⟨by omega, by omega⟩, ⟨by omega, by omega⟩, fun z => absurd hsym z, fun _ => s63 J2 _ _ (by omega) (by omega) (hJ1.C k2)⟩
    exact rows 0 (Nat.zero_le _) J kc nc (by omega) (by omega) hJ
  exact rg_L_treeSo_0 (mc := 4000) (ms := 20000) hX hV hLA (by omega) (by omega) I (main 0 (Nat.zero_le _) I 0 0 (Nat.zero_le _) (Nat.zero_le _) keepV.id9)
end SO
