/-! all acts hold -/
section SO
variable {X : xX} {c : xCx} {I : xIn} {T : NT} {lk : Nat → Nat} {B : TB} {P : PJ} {m b : Nat} {A : Int} {s t : Nat}
theorem WS.kpP {J : xIn} {ps : List xP} {P9 : PJ} (h : WS I c T lk B P m A) (hk : kp ps I J) (hP : PJok P9 ∧ CPJ J P9) (hps : (ps.all fun p => [((0, 24) : xP), (0, 25), (0, 32), (0, 33), (0, 34), (0, 35)].contains p) = true) : WS J c T lk B P9 m A := by
  have z : ∀ p : xP, p ∉ [((0, 24) : xP), (0, 25), (0, 32), (0, 33), (0, 34), (0, 35)] → J p = I p := fun p h1 => hk p fun hm => h1 (List.contains_iff_mem.mp (List.all_eq_true.mp hps p hm))
  obtain ⟨-, -, -, ⟨l1, l2⟩, ⟨b1, b2⟩, -, -⟩ := id h
  refine h.z0 (fun p hp => z p fun hm => ?_) (z _ (by decide)) ⟨l1, ?_⟩ ⟨b1, ?_⟩ hP
  · simp only [List.mem_cons, List.not_mem_nil, or_false] at hm
    rcases hm with rfl | rfl | rfl | rfl | rfl | rfl <;> exact hp rfl
  · unfold CL; rw [z _ (by decide)]; exact l2
  · unfold CTB; rw [z _ (by decide), z _ (by decide)]; exact b2
theorem CLG.e9 {J : xIn} {L : LG} (h : CLG I L) (h4 : J (0, 24) = I (0, 24)) (h5 : J (0, 25) = I (0, 25)) (h6 : J (0, 26) = I (0, 26)) : CLG J L := by
  unfold CLG
  rw [h4, h5, h6]
  exact h
theorem CLG.dr {J : xIn} {L : LG} (h : CLG I L) (hk : kdr I J) : CLG J L := h.e9 (hk.1 _ (by decide)) (hk.1 _ (by decide)) (hk.1 _ (by decide))
theorem lw_team (hX : xBase X) (d : Nat) (h : WS I c T lk B P m A) {L : LG} (hL : LGok L) (hC : CLG I L) (h6 : L.t ≤ 5) {v : Int} (hv : 0 ≤ v ∧ v ≤ 99) : xRet rI X m_X9_team (d + 7) [xr (0, 0), xi v] c I 1 6 (fun w J => WS J c T lk B P m A ∧ ∃ L9 : LG, LGok L9 ∧ CLG J L9 ∧ L9.t = L.t + 1) xNo := by
  have hA : teamA L v = (((L.t : Int), 0), (L.t + 1, upL L.w L.t v, L.g)) := by
    unfold teamA
    rw [if_pos hv, if_neg (by omega)]
  have hok := teamA_ok hL v
  refine xRet_w (cn_team hX d hL hC (a := v) ⟨by omega, by omega⟩) (fun w J => ?_) (fun e J => ?_)
  · rintro ⟨k1, -, k2, hw⟩
    obtain ⟨-, -, -, -, -, ⟨p1, p2⟩, -⟩ := id h
    rw [hA] at k2 hok
    refine ⟨h.kpP k1 ⟨p1, ?_⟩ (by decide), _, hok, k2, rfl⟩
    unfold CPJ
    rw [k1 _ (by decide), k1 _ (by decide), k1 _ (by decide), k1 _ (by decide)]
    exact p2
  · rintro ⟨-, -, hw⟩
    rw [hA] at hw
    exact (exL0 hw).elim
theorem lw_project (hX : xBase X) (d : Nat) (h : WS I c T lk B P m A) {L : LG} (hC : CLG I L) (h6 : P.n ≤ 7) {g : Int} {S : Nat} {x : Int} (hx : x = (S : Int)) (hg : 0 ≤ g ∧ g ≤ 99) (hS : S ≤ 255) : xRet rI X m_X9_project (d + 7) [xr (0, 0), xi g, xi x] c I 1 6 (fun w J => (∃ P9 : PJ, WS J c T lk B P9 m A ∧ P9.n = P.n + 1) ∧ CLG J L) xNo := by
  subst hx
  have hA : projectA P g S = (((P.n : Int), 0), (P.n + 1, upL P.ga P.n g, upN P.ne P.n S, P.pr)) := by
    unfold projectA
    rw [if_pos ⟨hg, by omega, by omega⟩, if_neg (by omega), tnN]
  obtain ⟨-, -, -, -, -, ⟨p1, p2⟩, -⟩ := id h
  have hok := projectA_ok p1 g S
  refine xRet_w (cn_project hX d p1 p2 (g := g) (t := (S : Int)) ⟨by omega, by omega⟩ (xn (by omega))) (fun w J => ?_) (fun e J => ?_)
  · rintro ⟨k1, k2, hw⟩
    rw [hA] at k2 hok
    exact ⟨⟨_, h.kpP k1 ⟨hok, k2⟩ (by decide), rfl⟩, hC.e9 (k1 _ (by decide)) (k1 _ (by decide)) (k1 _ (by decide))⟩
  · rintro ⟨-, -, hw⟩
    rw [hA] at hw
    exact (exL0 hw).elim
theorem lw_toolCost (hX : xBase X) (d : Nat) (h : WS I c T lk B P m A) {L : LG} (hC : CLG I L) {a : Int} {x : Nat} (ha : a = (x : Int)) (hx : x ≤ 7) {v : Int} (hv : 0 ≤ v ∧ v ≤ 99) : xRet rI X m_X9_toolCost (d + 7) [xr (0, 0), xi a, xi v] c I 1 6 (fun w J => (∃ P9 : PJ, WS J c T lk B P9 m A ∧ P9.n = P.n) ∧ CLG J L) xNo := by
  subst ha
  have hA : toolCostA P x v = ((P.pr x, 0), (P.n, P.ga, P.ne, upL P.pr x v)) := by
    unfold toolCostA
    rw [if_pos ⟨by omega, by omega⟩, if_pos hv, tnN]
  obtain ⟨-, -, -, -, -, ⟨p1, p2⟩, -⟩ := id h
  have hok := toolCostA_ok p1 x v
  refine xRet_w (cn_toolCost hX d p2 (a := (x : Int)) (v := v) (xn (by omega)) ⟨by omega, by omega⟩) (fun w J => ?_) (fun e J => ?_)
  · rintro ⟨k1, k2, hw⟩
    rw [hA] at k2 hok
    exact ⟨⟨_, h.kpP k1 ⟨hok, k2⟩ (by decide), rfl⟩, hC.e9 (k1 _ (by decide)) (k1 _ (by decide)) (k1 _ (by decide))⟩
  · rintro ⟨-, -, hw⟩
    rw [hA] at hw
    exact (exL0 hw).elim
/-- from the first refused calls on -/
theorem ha_9 (hX : xBase X) {d : Nat} {V : xT} {post : xO → xS → Prop} (hV : xEnd X m_L_holdsAll (d + 12) 100000 500000 post V) (hP9 : ∀ J, post (.inl (some (xi (xbi true)))) (J, xst c)) (hLA : LA c m b) (hS : SC X c) (hW : WS I c T lk B P m A) (hA : A ≤ 1000) {L : LG} (hL : LGok L) (hC : CLG I L) (hL0 : L.t = 0) (hP0 : P.n = 0) {kc nc : Nat} (hkc : kc ≤ 50000) (hnc : nc ≤ 250000) : V 9 [(0, xr (2, 0)), (1, xr (2, 9))] [] (I, xst c) kc nc := by
  have h1 := hW.2.2.2.2.2.2
  have dr : ∀ {J : xIn} {A9 : Int} {n9 : Int}, WW J c m A9 → A9 ≤ 2000 → 0 < n9 ∧ n9 ≤ 2147483647 → xRet rI X m_L_draw (d + 11) [xr (2, 0), xi n9] c J 0 0 (fun v J9 => (0 ≤ v ∧ v < n9) ∧ kdr J J9) xNo := fun {J A9 n9} h hA9 hn => by
    obtain ⟨T9, l9, B9, P9, h9⟩ := h
    exact lc_draw hX (d + 10) hLA.1 hS ⟨h9.2.2.2.2.2.2.1, by have := h9.2.2.2.2.2.2.2.1; omega⟩ hn
  have s210 : ∀ (J : xIn) (A9 : Int) (k9 n9 : Nat), k9 ≤ 95000 → n9 ≤ 490000 → A9 ≤ 2000 → WW J c m A9 → V 210 [(0, xr (2, 0)), (2, xi (xbi true))] [] (J, xst c) k9 n9 := by
    rintro J A9 k9 n9 g1 g2 g3 ⟨T9, l9, B9, Q9, h9⟩
    refine rg_L_holdsAll_210 (mc := 100000) (ms := 500000) hX hV hLA (by omega) (by omega) J _ ⟨(fun z => by cases z), fun _ => ⟨_, lc_flowSo hX d hLA hS h9 (by omega), ?_⟩⟩
    rintro v J1 ⟨rfl, k1⟩
    have h10 := h9.keep k1 (by omega)
    refine ⟨(fun z => by cases z), fun _ => ⟨_, cn_isSound hX (d + 4) h10.1 h10.2.1 h10.2.2.2.1.1 h10.2.2.2.1.2 h10.2.2.2.2.1.1 h10.2.2.2.2.1.2, ?_⟩⟩
    rintro v2 J2 ⟨rfl, -⟩
    exact ⟨(fun z => by cases z), fun _ => hP9 _⟩
  have s102 : ∀ x : Nat, ∀ (J : xIn) (A9 : Int) (k9 n9 : Nat), x ≤ 10 → k9 ≤ 95000 - 4000 - 4000 * x → n9 ≤ 490000 - 20000 - 20000 * x → A9 ≤ 1990 - 30 * (x : Int) → WW J c m A9 → V 102 [(0, xr (2, 0)), (2, xi (xbi true)), (3, xi (x : Int))] [] (J, xst c) k9 n9 := by
    intro x
    induction x with
    | zero =>
      intro J A9 k9 n9 g0 g1 g2 g3 h9
      exact rg_L_holdsAll_102 (mc := 100000) (ms := 500000) hX hV hLA (by omega) (by omega) J _ _ ⟨⟨by decide, by decide⟩, fun _ => s210 J A9 _ _ (by omega) (by omega) (by omega) h9, fun z => by omega⟩
    | succ x ih =>
      intro J A9 k9 n9 g0 g1 g2 g3 h9
      have e1 : ((x + 1 : Nat) : Int) + (-1) = (x : Int) := by omega
      have nx : ∀ (J : xIn) (A8 : Int), A8 ≤ A9 + 30 → WW J c m A8 → V 102 [(0, xr (2, 0)), (2, xi (xbi true)), (3, xi (((x + 1 : Nat) : Int) + (-1)))] [] (J, xst c) (k9 + 4000) (n9 + 20000) := fun J A8 hA8 h8 => by
        rw [e1]
        exact ih J A8 _ _ (by omega) (by omega) (by omega) (by omega) h8
      refine rg_L_holdsAll_102 (mc := 100000) (ms := 500000) hX hV hLA (by omega) (by omega) J _ _ ⟨⟨by omega, by omega⟩, fun z => by omega, fun _ => ⟨(fun z => by cases z), fun _ => ⟨_, dr h9 (by omega) ⟨by decide, by decide⟩, ?_⟩⟩⟩
      rintro v J1 ⟨hv, k1⟩
      obtain ⟨T9, l9, B9, Q9, hw⟩ := h9.keep k1.V (by omega)
      refine ⟨⟨by omega, by omega⟩, fun _ => ⟨fun _ => ⟨fun _ => ⟨fun _ => ⟨fun _ => ⟨fun _ => ?_, fun _ => ?_⟩, fun _ => ?_⟩, fun _ => ?_⟩, fun _ => ?_⟩, fun _ => ?_⟩, fun _ => ?_⟩
      · refine ⟨_, lc_refusedSo hX (d + 2) hLA hw, ?_⟩
        rintro v2 J2 ⟨rfl, rfl⟩
        exact nx _ _ (by omega) ⟨T9, l9, B9, Q9, hw⟩
      · refine ⟨_, lc_othersSo hX (d + 2) hLA hS hw (by omega), ?_⟩
        rintro v2 J2 ⟨rfl, h2⟩
        exact nx _ _ (by omega) h2
      · refine ⟨_, lc_pairsSo hX (d + 2) hLA hS hw (by omega), ?_⟩
        rintro v2 J2 ⟨rfl, h2⟩
        exact nx _ _ (by omega) h2
      · refine ⟨_, lc_treeSo hX (d + 2) hLA hw, ?_⟩
        rintro v2 J2 ⟨rfl, h2⟩
        exact nx _ _ (by omega) ⟨T9, l9, B9, Q9, hw.k0 h2⟩
      · refine ⟨_, lc_demandsSo hX (d + 2) hLA hS hw (by omega), ?_⟩
        rintro v2 J2 ⟨rfl, h2⟩
        exact nx _ _ (by omega) h2
      · refine ⟨_, lc_waysSo hX (d + 2) hLA hS hw (by omega), ?_⟩
        rintro v2 J2 ⟨rfl, h2⟩
        exact nx _ _ (by omega) ⟨T9, l9, B9, Q9, hw.keep h2 (by omega)⟩
      · refine ⟨_, lc_flowSo hX d hLA hS hw (by omega), ?_⟩
        rintro v2 J2 ⟨rfl, h2⟩
        exact nx _ _ (by omega) ⟨T9, l9, B9, Q9, hw.keep h2 (by omega)⟩
  have s20 : ∀ x : Nat, ∀ (J : xIn) (A9 : Int) (L9 : LG) (Q9 : PJ) (k9 n9 : Nat), x ≤ 3 → k9 ≤ 50100 - 3 * x → n9 ≤ 251000 - 18 * x → A9 ≤ 1200 - 10 * (x : Int) → WS J c T lk B Q9 m A9 → LGok L9 → CLG J L9 → L9.t + x ≤ 3 → Q9.n + x ≤ 3 → V 20 [(0, xr (2, 0)), (2, xi (xbi true)), (3, xi (x : Int))] [] (J, xst c) k9 n9 := by
    intro x
    induction x with
    | zero =>
      intro J A9 L9 Q9 k9 n9 g0 g1 g2 g3 h9 hL9 hC9 t1 t2
      refine rg_L_holdsAll_20 (mc := 100000) (ms := 500000) hX hV hLA (by omega) (by omega) J _ _ ⟨⟨by decide, by decide⟩, fun _ => ⟨_, dr ⟨T, lk, B, Q9, h9⟩ (by omega) ⟨by decide, by decide⟩, ?_⟩, fun z => by omega⟩
      rintro v J1 ⟨hv, k1⟩
      have e1 : 5 + v = ((5 + v.toNat : Nat) : Int) := by omega
      rw [e1]
      exact s102 _ J1 (A9 + 1) _ _ (by omega) (by omega) (by omega) (by omega) ⟨T, lk, B, Q9, h9.keep k1.V (by omega)⟩
    | succ x ih =>
      intro J A9 L9 Q9 k9 n9 g0 g1 g2 g3 h9 hL9 hC9 t1 t2
      have e1 : ((x + 1 : Nat) : Int) + (-1) = (x : Int) := by omega
      have ww : ∀ {J : xIn} {A8 : Int} {Q8 : PJ}, WS J c T lk B Q8 m A8 → WW J c m A8 := fun {J A8 Q8} h => ⟨T, lk, B, Q8, h⟩
      refine rg_L_holdsAll_20 (mc := 100000) (ms := 500000) hX hV hLA (by omega) (by omega) J _ _ ⟨⟨by omega, by omega⟩, fun z => by omega, fun _ => ⟨_, dr (ww h9) (by omega) ⟨by decide, by decide⟩, ?_⟩⟩
      rintro v1 J1 ⟨hv1, k1⟩
      have w1 := h9.keep k1.V (by omega)
      have c1 := hC9.dr k1
      refine ⟨_, lw_team hX (d + 4) w1 hL9 c1 (by omega) (by omega), ?_⟩
      rintro _ J2 ⟨w2, L8, hL8, c2, u1⟩
      refine ⟨_, dr (ww w2) (by omega) ⟨by decide, by decide⟩, ?_⟩
      rintro v3 J3 ⟨hv3, k3⟩
      have w3 := w2.keep k3.V (by omega)
      have c3 := c2.dr k3
      refine ⟨_, dr (ww w3) (by omega) ⟨by decide, by decide⟩, ?_⟩
      rintro v4 J4 ⟨hv4, k4⟩
      have w4 := w3.keep k4.V (by omega)
      have c4 := c3.dr k4
      refine ⟨_, dr (ww w4) (by omega) ⟨by decide, by decide⟩, ?_⟩
      rintro v5 J5 ⟨hv5, k5⟩
      have w5 := w4.keep k5.V (by omega)
      have c5 := c4.dr k5
      have ha : v4 = ((v4.toNat : Nat) : Int) := by omega
      have hb : v5 = ((v5.toNat : Nat) : Int) := by omega
      have hand : v_iand v4 v5 = ((v4.toNat &&& v5.toNat : Nat) : Int) := by
        rw [ha, hb, v_and_nat (by omega)]
        rfl
      have hle : v4.toNat &&& v5.toNat ≤ 255 := by
        have : v4.toNat &&& v5.toNat ≤ v5.toNat := Nat.and_le_right
        omega
      refine ⟨_, lw_project hX (d + 4) w5 c5 (by omega) hand (by omega) hle, ?_⟩
      rintro _ J6 ⟨⟨Q8, w6, u2⟩, c6⟩
      refine ⟨_, dr (ww w6) (by omega) ⟨by decide, by decide⟩, ?_⟩
      rintro v7 J7 ⟨hv7, k7⟩
      have w7 := w6.keep k7.V (by omega)
      have c7 := c6.dr k7
      refine ⟨_, dr (ww w7) (by omega) ⟨by decide, by decide⟩, ?_⟩
      rintro v8 J8 ⟨hv8, k8⟩
      have w8 := w7.keep k8.V (by omega)
      have c8 := c7.dr k8
      refine ⟨_, lw_toolCost hX (d + 4) w8 c8 (x := v7.toNat) (by omega) (by omega) (by omega), ?_⟩
      rintro _ J9 ⟨⟨Q7, w9, u3⟩, c9⟩
      rw [e1]
      exact ih J9 _ L8 Q7 _ _ (by omega) (by omega) (by omega) (by omega) w9 hL8 c9 (by omega) (by omega)
  refine rg_L_holdsAll_9 (mc := 100000) (ms := 500000) hX hV hLA (by omega) (by omega) I ⟨_, lc_refusedSo hX (d + 2) hLA hW, ?_⟩
  rintro v I ⟨rfl, rfl⟩
  refine ⟨_, dr ⟨T, lk, B, P, hW⟩ (by omega) ⟨by decide, by decide⟩, ?_⟩
  rintro v J1 ⟨hv, k1⟩
  have e1 : v = ((v.toNat : Nat) : Int) := by omega
  rw [e1]
  exact s20 _ J1 (A + 1) L P _ _ (by omega) (by omega) (by omega) (by omega) (hW.keep k1.V (by omega)) hL (hC.dr k1) (by omega) (by omega)
end SO
