/-! the law on tables and projects -/
theorem andF_sub {q : Nat → Bool} : ∀ {n S : Nat}, S < n → q S = true → ∀ i, (andF q n).testBit i = true → S.testBit i = true := by
  intro n
  induction n with
  | zero => intro S hS; omega
  | succ n ih =>
    intro S hS hq i hi
    rw [andF] at hi
    by_cases hn : S = n
    · subst hn
      rw [if_pos hq, Nat.testBit_and, Bool.and_eq_true] at hi
      exact hi.2
    · split at hi
      · rw [Nat.testBit_and, Bool.and_eq_true] at hi
        exact ih (by omega) hq i hi.1
      · exact ih (by omega) hq i hi
theorem orF_sub {q : Nat → Bool} : ∀ {n S : Nat}, S < n → q S = true → ∀ i, S.testBit i = true → (orF q n).testBit i = true := by
  intro n
  induction n with
  | zero => intro S hS; omega
  | succ n ih =>
    intro S hS hq i hi
    rw [orF]
    by_cases hn : S = n
    · subst hn
      rw [if_pos hq, Nat.testBit_or, hi, Bool.or_true]
    · split
      · rw [Nat.testBit_or, ih (by omega) hq i hi, Bool.true_or]
      · exact ih (by omega) hq i hi
theorem best_nn (P : PJ) : 0 ≤ bestA P := (mx_spec 0 (fun _ => true) (worth P) (2 ^ P.n)).1
theorem chosen_in {P : PJ} (hP : PJok P) : ∃ A B : Nat, chosenA P false = (A : Int) ∧ chosenA P true = (B : Int) ∧ A ≤ 255 ∧ nd A B = 0 := by
  refine ⟨andF (eqF (worth P) (bestA P)) (2 ^ P.n), orF (eqF (worth P) (bestA P)) (2 ^ P.n), rfl, rfl, andF_le _ _, ?_⟩
  have hex : ∃ S, S < 2 ^ P.n ∧ eqF (worth P) (bestA P) S = true := by
    rcases (mx_spec 0 (fun _ => true) (worth P) (2 ^ P.n)).2.2 with h | ⟨S, h1, -, h3⟩
    · refine ⟨0, Nat.pow_pos (by decide), decide_eq_true ?_⟩
      rw [worth_0]
      exact h.symm
    · exact ⟨S, h1, decide_eq_true h3.symm⟩
  obtain ⟨S, h1, h2⟩ := hex
  exact nd_sub.mpr fun i hi => orF_sub h1 h2 i (andF_sub h1 h2 i hi)
section SO
variable {X : xX} {c : xCx} {I : xIn} {T : NT} {lk : Nat → Nat} {B : TB} {P : PJ} {m b : Nat} {A : Int} {s t : Nat}
theorem WS.kpB {J : xIn} {ps : List xP} (h : WS I c T lk B P m A) (hk : kp ps I J) {B9 : TB} (hB : TBok B9 ∧ CTB J B9) (hps : (ps.all fun p => p == (0, 27) || p == (0, 28)) = true) : WS J c T lk B9 P m A := by
  have z : ∀ p : xP, p ≠ (0, 27) → p ≠ (0, 28) → J p = I p := fun p h1 h2 => hk p fun hm => by
    have := List.all_eq_true.mp hps p hm
    rw [Bool.or_eq_true] at this
    rcases this with this | this
    · exact h1 (eq_of_beq this)
    · exact h2 (eq_of_beq this)
  obtain ⟨-, -, -, ⟨l1, l2⟩, -, ⟨p1, p2⟩, -⟩ := id h
  refine h.z0 (fun p hp => z p (fun e => hp (by rw [e])) (fun e => hp (by rw [e]))) (z _ (by decide) (by decide)) ⟨l1, ?_⟩ hB ⟨p1, ?_⟩
  · unfold CL; rw [z _ (by decide) (by decide)]; exact l2
  · unfold CPJ; rw [z _ (by decide) (by decide), z _ (by decide) (by decide), z _ (by decide) (by decide), z _ (by decide) (by decide)]; exact p2
theorem lw_table (hX : xBase X) (d : Nat) (h : WS I c T lk B P m A) {r k : Nat} (hr : 1 ≤ r ∧ r ≤ 4) (hk : 1 ≤ k ∧ k ≤ 4) : xRet rI X m_X9_table (d + 7) [xr (0, 0), xi (r : Int), xi (k : Int)] c I 1 6 (fun w J => kp [(0, 27), (0, 28)] I J ∧ WS J c T lk (r, k, fun _ => 0) P m A) xNo := by
  have hA : tableA B r k = (((r : Int) * (k : Int), 0), (r, k, fun _ => 0)) := by
    unfold tableA
    rw [if_pos ⟨⟨by omega, by omega⟩, by omega, by omega⟩, tnN, tnN]
  refine xRet_w (cn_table hX d h.2.2.2.2.1.2 (xn (by omega)) (xn (by omega))) (fun v J => ?_) (fun e J => ?_)
  · rintro ⟨k1, hC, hv⟩
    rw [hA] at hC
    exact ⟨k1, h.kpB k1 ⟨⟨hr, hk, fun p _ => ⟨Int.le_refl 0, by show (0 : Int) ≤ 999; decide⟩⟩, hC⟩ rfl⟩
  · rintro ⟨k1, hv, hw⟩
    rw [hA] at hw
    exact (exL0 hw).elim
theorem lw_tell (hX : xBase X) (d : Nat) (h : WS I c T lk B P m A) {x y : Nat} (hx : x < B.r) (hy : y < B.k) {v : Int} (hv : 0 ≤ v ∧ v ≤ 999) : xRet rI X m_X9_tell (d + 8) [xr (0, 0), xi (x : Int), xi (y : Int), xi v] c I 2 12 (fun w J => kp [(0, 28)] I J ∧ WS J c T lk (B.r, B.k, upL B.te (x * B.k + y) v) P m A ∧ w = B.te (x * B.k + y)) xNo := by
  obtain ⟨b1, b2⟩ := h.2.2.2.2.1
  obtain ⟨r4, k4, te9⟩ := id b1
  have hp : plB B (x : Int) (y : Int) = true := by unfold plB; rw [inB_of hx, inB_of hy]; rfl
  have hA : tellA B x y v = ((B.te (x * B.k + y), 0), (B.r, B.k, upL B.te (x * B.k + y) v)) := by
    unfold tellA plP
    rw [if_pos hp, if_pos hv, tnN, tnN]
  refine xRet_w (cn_tell hX d b1 b2 (xn (by omega)) (xn (by omega)) (⟨by omega, by omega⟩ : xin v)) (fun w J => ?_) (fun e J => ?_)
  · rintro ⟨k1, hC, hw⟩
    rw [hA] at hC hw
    refine ⟨k1, h.kpB k1 ⟨⟨r4, k4, fun p hp => ?_⟩, hC⟩ rfl, congrArg Prod.fst hw⟩
    show 0 ≤ upL B.te (x * B.k + y) v p ∧ upL B.te (x * B.k + y) v p ≤ 999
    rcases upL_c B.te (x * B.k + y) v p with ⟨-, e⟩ | ⟨-, e⟩
    · rw [e]; exact hv
    · rw [e]; exact te9 p hp
  · rintro ⟨k1, h2, hw⟩
    rw [hA] at hw
    exact (exL0 hw).elim
theorem lw_rounded (hX : xBase X) (d : Nat) (h : WS I c T lk B P m A) {x y : Nat} (hx : x < B.r) (hy : y < B.k) : xRet rI X m_X9_rounded (d + 8) [xr (0, 0), xi (x : Int), xi (y : Int)] c I 1 6 (fun w J => keepC I J ∧ w = rndT B.r B.k B.te (x * B.k + y)) xNo := by
  obtain ⟨b1, b2⟩ := h.2.2.2.2.1
  obtain ⟨r4, k4, te9⟩ := id b1
  have hp : plB B (x : Int) (y : Int) = true := by unfold plB; rw [inB_of hx, inB_of hy]; rfl
  have hA : roundedA B x y = (rndT B.r B.k B.te (x * B.k + y), 0) := by
    unfold roundedA plP
    rw [if_pos hp, tnN, tnN]
  refine xRet_w (cn_rounded hX d b1 b2 (xn (by omega)) (xn (by omega))) (fun w J => ?_) (fun e J => ?_)
  · rintro ⟨k1, hw⟩
    rw [hA] at hw
    exact ⟨k1, congrArg Prod.fst hw⟩
  · rintro ⟨k1, hw⟩
    rw [hA] at hw
    exact (exL0 hw).elim
theorem near_is {w d : Int} (h : nearv w d) : d - 10 < 10 * w ∧ 10 * w < d + 10 := by
  obtain ⟨h1, h2⟩ := h
  omega
theorem near_bd {w d : Int} (h : nearv w d) {n : Int} (hd : 0 ≤ d ∧ d ≤ n) (hn : n ≤ 90000) : (-100000 ≤ w ∧ w ≤ 100000) ∧ (-100000 ≤ d ∧ d ≤ 100000) ∧ 0 ≤ w ∧ w ≤ n + 1 := by
  obtain ⟨h1, h2⟩ := h
  omega
theorem lc_near (hX : xBase X) (d : Nat) {w x n : Int} (h : nearv w x) (hd : 0 ≤ x ∧ x ≤ n) (hn : n ≤ 90000) : xRet rB X m_L_isNear d [xi w, xi x] c I 0 0 (pv true I) xNo := by
  obtain ⟨h1, h2, -⟩ := near_bd h hd hn
  exact lc_isNear hX d h1 h2 (near_is h)
theorem lc_othersSo (hX : xBase X) (d : Nat) (hLA : LA c m b) (hS : SC X c) (hW : WS I c T lk B P m A) (hA : A + 26 ≤ 1000000) : xRet rB X m_L_othersSo (d + 9) [xr (2, 0)] c I 150 900 (fun v J => v = true ∧ WW J c m (A + 26)) xNo := by
  refine xMet_in fun hI => ?_
  refine xMet_le (p1 := fun o h9 => o = .inl (some (xi (xbi true))) ∧ ∃ (J : xIn) (a1 a2 k : Nat), k < 16 ∧ WW J c m (A + 26) ∧ h9 = (J, xst (cAd (cAd c (pI k b) a1) (pI k (b + 1)) a2))) ?_ ?_
  · refine xMet_of hX pl_L_othersSo.1 (fun w hw => (pl_L_othersSo.2.2.1 w hw).1) (LE1 rfl) fun V hV => ?_
    refine rg_L_othersSo_0 (mc := 150) (ms := 900) hX hV hLA (by omega) (by omega) I ⟨_, lc_draw hX (d + 7) hLA.1 hS ⟨hW.2.2.2.2.2.2.1, by have := hW.2.2.2.2.2.2.2.1; omega⟩ ⟨by decide, by decide⟩, ?_⟩
    rintro v3 J1 ⟨hv3, k1⟩
    have hW1 := hW.keep k1.V (by omega)
    refine ⟨_, lc_draw hX (d + 7) hLA.1 hS ⟨hW1.2.2.2.2.2.2.1, by have := hW1.2.2.2.2.2.2.2.1; omega⟩ ⟨by decide, by decide⟩, ?_⟩
    rintro v8 J2 ⟨hv8, k2⟩
    have hW2 := hW1.keep k2.V (by omega)
    obtain ⟨r, hr, hr1, hr4⟩ : ∃ r : Nat, 1 + v3 = (r : Int) ∧ 1 ≤ r ∧ r ≤ 4 := ⟨(1 + v3).toNat, by omega, by omega, by omega⟩
    obtain ⟨k, hk, hk1, hk4⟩ : ∃ k : Nat, 1 + v8 = (k : Int) ∧ 1 ≤ k ∧ k ≤ 3 := ⟨(1 + v8).toNat, by omega, by omega, by omega⟩
    rw [hr, hk]
    refine ⟨_, lw_table hX (d + 1) hW2 ⟨hr1, hr4⟩ ⟨hk1, by omega⟩, ?_⟩
    rintro w J3 ⟨k3, hW3⟩
    rw [tnN]
    refine ⟨⟨by omega, by omega⟩, fun a1 I4 e4 a2 I5 e5 => ?_⟩
    clear hr hk hv3 hv8
    have hL1 : LA (cAd c (pI k b) a1) m (b + 1) := hLA.adI (by omega)
    have hL2 : LA (cAd (cAd c (pI k b) a1) (pI k (b + 1)) a2) m (b + 1 + 1) := hL1.adI (by omega)
    have hS2 : SC X (cAd (cAd c (pI k b) a1) (pI k (b + 1)) a2) := (hS.ad (fun z => by cases congrArg Prod.fst z)).ad (fun z => by cases congrArg Prod.fst z)
    have nw1 : nwP (pI k b) := nwP_I hLA.1
    have nw2 : nwP (pI k (b + 1)) := nwP_I hL1.1
    have kd1 : kd (pI k b) = (1, k) := kd_pI (by omega)
    have kd2 : kd (pI k (b + 1)) = (1, k) := kd_pI (by omega)
    have q12 : pI k b ≠ pI k (b + 1) := fun z => by
      have z : k + 64 * b = k + 64 * (b + 1) := congrArg Prod.snd z
      omega
    have m1 : pI k b ∈ lvL (cAd (cAd c (pI k b) a1) (pI k (b + 1)) a2).1 (cAd (cAd c (pI k b) a1) (pI k (b + 1)) a2).2.1 := cAd_mem cAd_self
    have m2 : pI k (b + 1) ∈ lvL (cAd (cAd c (pI k b) a1) (pI k (b + 1)) a2).1 (cAd (cAd c (pI k b) a1) (pI k (b + 1)) a2).2.1 := cAd_self
    have g1 : (pI k b).1 ≠ 0 := Nat.succ_ne_zero 0
    have g2 : (pI k (b + 1)).1 ≠ 0 := Nat.succ_ne_zero 0
    have hW5 : WS I5 (cAd (cAd c (pI k b) a1) (pI k (b + 1)) a2) T lk (r, k, fun _ => 0) P m (A + 2) := by
      rw [e5, e4]
      exact ((hW3.k0 ((keepV.id9.zI nw1).zI nw2)).c9 rfl).le (by omega) (by omega)
    have z1 : ∀ y, I5 (pI k b) y = 0 := fun y => by rw [e5, zI_n q12, e4, zI_q]
    have z2 : ∀ y, I5 (pI k (b + 1)) y = 0 := fun y => by rw [e5, zI_q]
    have fin : ∀ (J : xIn) (B9 : TB), WS J (cAd (cAd c (pI k b) a1) (pI k (b + 1)) a2) T lk B9 P m (A + 26) → (.inl (some (xi (xbi true))) : xO) = .inl (some (xi (xbi true))) ∧ ∃ (J9 : xIn) (b1 b2 k9 : Nat), k9 < 16 ∧ WW J9 c m (A + 26) ∧ (J, xst (cAd (cAd c (pI k b) a1) (pI k (b + 1)) a2)) = (J9, xst (cAd (cAd c (pI k9 b) b1) (pI k9 (b + 1)) b2)) := fun J B9 h => ⟨rfl, J, a1, a2, k, by omega, ⟨T, lk, B9, P, h.c9 rfl⟩, rfl⟩
    have dr1 : ∀ {I J : xIn}, kdr I J → J (pI k b) = I (pI k b) ∧ J (pI k (b + 1)) = I (pI k (b + 1)) := fun h => ⟨h.1 _ (fun z => by cases congrArg Prod.fst z), h.1 _ (fun z => by cases congrArg Prod.fst z)⟩
    have hrk : r * k ≤ 4 * 3 := Nat.mul_le_mul hr4 hk4
    clear e4 e5
    generalize cAd (cAd c (pI k b) a1) (pI k (b + 1)) a2 = c2 at *
    generalize pI k b = q1 at *
    generalize pI k (b + 1) = q2 at *
    have kpq : ∀ {I J : xIn}, kp [(0, 28)] I J → J q1 = I q1 ∧ J q2 = I q2 := fun h => ⟨h _ (fun hm => g1 (by rw [List.mem_singleton.mp hm])), h _ (fun hm => g2 (by rw [List.mem_singleton.mp hm]))⟩
    -- once the table is told
    have told : ∀ (J : xIn) (te : Nat → Int) (kc nc : Nat), kc ≤ 30 → nc ≤ 200 → WS J c2 T lk (r, k, te) P m (A + 26) → (∀ y, J q1 y = 0) → (∀ y, J q2 y = 0) → V 107 [(0, xr (2, 0)), (1, xi (r : Int)), (2, xi (k : Int)), (3, xi 0), (4, xi 0), (5, xr q1), (6, xr q2), (7, xi (xbi true)), (8, xi 0)] [] (J, xst c2) kc nc := by
      intro J te kc nc hkc hnc hWJ z1 z2
      obtain ⟨-, -, te9⟩ := hWJ.2.2.2.2.1.1
      have te9 : ∀ p, p < 16 → 0 ≤ te p ∧ te p ≤ 999 := te9
      have hg := rnd_good (r := r) (k := k) (te := te) (fun p hp => te9 p (by omega)) hr4 (by omega)
      generalize hw : rndT r k te = w at *
      obtain ⟨n1, n2, n3, n4⟩ := hg
      have cl : ∀ a y, a < r → y < k → a * k + y < r * k := fun a y h1 h2 => cell_lt h1 h2
      have teb : ∀ a y, a < r → y < k → 0 ≤ te (a * k + y) ∧ te (a * k + y) ≤ 999 := fun a y h1 h2 => te9 _ (by have := cl a y h1 h2; omega)
      have wb : ∀ a y, a < r → y < k → 0 ≤ w (a * k + y) ∧ w (a * k + y) ≤ 100 := fun a y h1 h2 => by
        have h3 := n1 _ (cl a y h1 h2)
        have h4 := teb a y h1 h2
        obtain ⟨h5, h6⟩ := h3
        omega
      have rsb : ∀ a, a < r → 0 ≤ rsT k te a ∧ rsT k te a ≤ 2997 := fun a ha => by
        have := sumE_bd (n := k) (f := fun y => te (a * k + y)) (a := 0) (b := 999) fun y hy => teb a y ha hy
        show 0 ≤ sumE k (fun y => te (a * k + y)) ∧ sumE k (fun y => te (a * k + y)) ≤ 2997
        omega
      have csb : ∀ y n, y < k → n ≤ r → (0 ≤ sumE n (fun x => te (x * k + y)) ∧ sumE n (fun x => te (x * k + y)) ≤ 3996) ∧ 0 ≤ sumE n (fun x => w (x * k + y)) ∧ sumE n (fun x => w (x * k + y)) ≤ 400 := fun y n hy hn => by
        have h1 := sumE_bd (n := n) (f := fun x => te (x * k + y)) (a := 0) (b := 999) fun x hx => teb x y (by omega) hy
        have h2 := sumE_bd (n := n) (f := fun x => w (x * k + y)) (a := 0) (b := 100) fun x hx => wb x y (by omega) hy
        omega
      have all : 0 ≤ sumE (r * k) te ∧ sumE (r * k) te ≤ 12000 := by
        have := sumE_bd (n := r * k) (f := te) (a := 0) (b := 999) fun p hp => te9 p (by omega)
        omega
      have last : ∀ (J : xIn) (kc nc : Nat), kc ≤ 140 → nc ≤ 850 → WS J c2 T lk (r, k, te) P m (A + 26) → (∀ y, y < k → J q1 y = csT r k w y ∧ J q2 y = csT r k te y) → V 274 [(0, xr (2, 0)), (2, xi (k : Int)), (3, xi (sumE (r * k) w)), (4, xi (sumE (r * k) te)), (5, xr q1), (6, xr q2), (7, xi (xbi true)), (8, xi 0)] [] (J, xst c2) kc nc := by
        intro J kc nc hkc hnc hWJ hco
        refine up_to0 (m := k) (W := fun y => V 274 [(0, xr (2, 0)), (2, xi (k : Int)), (3, xi (sumE (r * k) w)), (4, xi (sumE (r * k) te)), (5, xr q1), (6, xr q2), (7, xi (xbi true)), (8, xi (y : Int))] [] (J, xst c2) kc nc) ?_ ?_
        · refine rg_L_othersSo_274 (mc := 150) (ms := 900) hX hV hL2 (by omega) (by omega) J kd1 m1 kd2 m2 _ _ _ _ _ ⟨⟨by omega, by omega⟩, ⟨by omega, by omega⟩, fun _ => ⟨_, cn_best hX (d + 5) hWJ.2.2.2.2.2.1.1 hWJ.2.2.2.2.2.1.2, ?_⟩, fun z => by omega⟩
          rintro _ J1 ⟨k1, rfl⟩
          refine ⟨(fun z => by cases z), fun _ => ⟨_, lc_near hX (d + 8) n4 all (by decide), ?_⟩⟩
          rintro _ _ ⟨rfl, rfl⟩
          have hW1 := hWJ.keepC k1
          have hb0 := best_nn P
          have hbx : xin (bestA P) := by
            have h0 := hW1.2.2.2.2.2.1.1
            rcases (mx_spec 0 (fun _ => true) (worth P) (2 ^ P.n)).2.2 with h | ⟨S, -, -, h3⟩
            · show xin (mx 0 (fun _ => true) (worth P) (2 ^ P.n))
              rw [h]; exact x0
            · show xin (mx 0 (fun _ => true) (worth P) (2 ^ P.n))
              rw [h3]
              have := worth_bd h0 S
              exact ⟨by omega, by omega⟩
          refine ⟨(fun z => by cases z), fun _ => ⟨hbx, fun z => by omega, fun _ => ⟨_, cn_chosen hX (d + 5) hW1.2.2.2.2.2.1.1 hW1.2.2.2.2.2.1.2 false, ?_⟩⟩⟩
          rintro _ J2 ⟨k2, rfl⟩
          have hW2 := hW1.keepC k2
          refine ⟨_, cn_chosen hX (d + 5) hW2.2.2.2.2.2.1.1 hW2.2.2.2.2.2.1.2 true, ?_⟩
          rintro _ J3 ⟨k3, rfl⟩
          obtain ⟨A9, B9, e1, e2, e3, e4⟩ := chosen_in hW2.2.2.2.2.2.1.1
          rw [e1, e2, v_andnot (by omega), e4]
          exact ⟨fun z => absurd rfl z, fun _ => fin J3 _ (hW2.keepC k3)⟩
        · intro y hy ih
          rw [Int.natCast_add] at ih
          obtain ⟨h1, h2⟩ := hco y hy
          refine rg_L_othersSo_274 (mc := 150) (ms := 900) hX hV hL2 (by omega) (by omega) J kd1 m1 kd2 m2 _ _ _ _ _ ⟨⟨by omega, by omega⟩, ⟨by omega, by omega⟩, fun z => by omega, fun _ => ⟨(fun z => by cases z), fun _ => ⟨⟨by omega, by omega⟩, ⟨by omega, by omega⟩, _, lc_near hX (d + 8) (w := J q1 (Int.toNat (y : Int))) (x := J q2 (Int.toNat (y : Int))) (n := 3996) ?_ ?_ (by decide), ?_⟩⟩⟩
          · rw [tnN, h1, h2]; exact n3 y hy
          · rw [tnN, h2]; exact (csb y r hy (Nat.le_refl _)).1
          rintro _ _ ⟨rfl, rfl⟩
          exact ⟨(fun z => by cases z), fun _ => ih⟩
      have rows : ∀ a : Nat, a ≤ r → ∀ (J : xIn) (l3 l4 : Int) (kc9 nc9 : Nat), kc9 ≤ kc + 20 * a → nc9 ≤ nc + 120 * a → WS J c2 T lk (r, k, te) P m (A + 26) → l3 = sumE a (rsT k w) → l4 = sumE a (rsT k te) → (∀ y, y < k → J q1 y = sumE a (fun x => w (x * k + y)) ∧ J q2 y = sumE a (fun x => te (x * k + y))) → V 107 [(0, xr (2, 0)), (1, xi (r : Int)), (2, xi (k : Int)), (3, xi l3), (4, xi l4), (5, xr q1), (6, xr q2), (7, xi (xbi true)), (8, xi (a : Int))] [] (J, xst c2) kc9 nc9 := by
        refine up_to (m := r) (W := fun a => ∀ (J : xIn) (l3 l4 : Int) (kc9 nc9 : Nat), kc9 ≤ kc + 20 * a → nc9 ≤ nc + 120 * a → WS J c2 T lk (r, k, te) P m (A + 26) → l3 = sumE a (rsT k w) → l4 = sumE a (rsT k te) → (∀ y, y < k → J q1 y = sumE a (fun x => w (x * k + y)) ∧ J q2 y = sumE a (fun x => te (x * k + y))) → V 107 [(0, xr (2, 0)), (1, xi (r : Int)), (2, xi (k : Int)), (3, xi l3), (4, xi l4), (5, xr q1), (6, xr q2), (7, xi (xbi true)), (8, xi (a : Int))] [] (J, xst c2) kc9 nc9) ?_ ?_
        · rintro J l3 l4 kc9 nc9 c1 c2 hWJ rfl rfl hco
          rw [← sumE_grid, ← sumE_grid]
          exact rg_L_othersSo_107 (mc := 150) (ms := 900) hX hV hL2 (by omega) (by omega) J kd1 m1 kd2 m2 _ _ _ _ _ _ ⟨⟨by omega, by omega⟩, ⟨by omega, by omega⟩, fun _ => last J _ _ (by omega) (by omega) hWJ hco, fun z => by omega⟩
        · intro a ha ih J l3 l4 kc9 nc9 c1 c29 hWJ h3 h4 hco
          rw [Int.natCast_add] at ih
          have cells : ∀ y : Nat, y ≤ k → ∀ (J : xIn) (l9 l10 : Int) (kc8 nc8 : Nat), kc8 ≤ kc9 + 5 * y → nc8 ≤ nc9 + 30 * y → WS J c2 T lk (r, k, te) P m (A + 26) → l9 = sumE y (fun y => w (a * k + y)) → l10 = sumE y (fun y => te (a * k + y)) → (∀ z, z < k → J q1 z = sumE (if z < y then a + 1 else a) (fun x => w (x * k + z)) ∧ J q2 z = sumE (if z < y then a + 1 else a) (fun x => te (x * k + z))) → V 122 [(0, xr (2, 0)), (1, xi (r : Int)), (2, xi (k : Int)), (3, xi l3), (4, xi l4), (5, xr q1), (6, xr q2), (7, xi (xbi true)), (8, xi (a : Int)), (9, xi l9), (10, xi l10), (11, xi (y : Int))] [] (J, xst c2) kc8 nc8 := by
            refine up_to (m := k) (W := fun y => ∀ (J : xIn) (l9 l10 : Int) (kc8 nc8 : Nat), kc8 ≤ kc9 + 5 * y → nc8 ≤ nc9 + 30 * y → WS J c2 T lk (r, k, te) P m (A + 26) → l9 = sumE y (fun y => w (a * k + y)) → l10 = sumE y (fun y => te (a * k + y)) → (∀ z, z < k → J q1 z = sumE (if z < y then a + 1 else a) (fun x => w (x * k + z)) ∧ J q2 z = sumE (if z < y then a + 1 else a) (fun x => te (x * k + z))) → V 122 [(0, xr (2, 0)), (1, xi (r : Int)), (2, xi (k : Int)), (3, xi l3), (4, xi l4), (5, xr q1), (6, xr q2), (7, xi (xbi true)), (8, xi (a : Int)), (9, xi l9), (10, xi l10), (11, xi (y : Int))] [] (J, xst c2) kc8 nc8) ?_ ?_
            · rintro J l9 l10 kc8 nc8 d1 d2 hWJ rfl rfl hco
              refine rg_L_othersSo_122 (mc := 150) (ms := 900) hX hV hL2 (by omega) (by omega) J kd1 m1 kd2 m2 _ _ _ _ _ _ _ _ _ ⟨⟨by omega, by omega⟩, ⟨by omega, by omega⟩, fun _ => ⟨(fun z => by cases z), fun _ => ⟨_, lc_near hX (d + 8) (n2 a ha) (rsb a ha) (by decide), ?_⟩⟩, fun z => by omega⟩
              rintro _ J ⟨rfl, rfl⟩
              refine ⟨(fun z => by cases z), fun _ => ih _ _ _ _ _ (by omega) (by omega) hWJ (by rw [h3]; rfl) (by rw [h4]; rfl) (fun y hy => ?_)⟩
              have := hco y hy
              rw [if_pos hy] at this
              exact this
            · intro y hy ihc J l9 l10 kc8 nc8 d1 d2 hWJ h9 h10 hco
              rw [Int.natCast_add] at ihc
              refine rg_L_othersSo_122 (mc := 150) (ms := 900) hX hV hL2 (by omega) (by omega) J kd1 m1 kd2 m2 _ _ _ _ _ _ _ _ _ ⟨⟨by omega, by omega⟩, ⟨by omega, by omega⟩, fun z => by omega, fun _ => ⟨_, lw_tell hX (d + 0) hWJ (x := a) (y := y) ha hy (v := 0) (by omega), ?_⟩⟩
              rintro _ J1 ⟨k1, hW1, rfl⟩
              have htb := teb a y ha hy
              refine ⟨_, lw_tell hX (d + 0) hW1 (x := a) (y := y) ha hy (v := te (a * k + y)) htb, ?_⟩
              rintro w2 J2 ⟨k2, hW2, -⟩
              have eB : ((r, k, upL (upL te (a * k + y) 0) (a * k + y) (te (a * k + y))) : TB) = (r, k, te) := by
                refine Prod.ext rfl (Prod.ext rfl (funext fun z => ?_))
                show upL (upL te (a * k + y) 0) (a * k + y) (te (a * k + y)) z = te z
                by_cases hz : z = a * k + y
                · rw [hz, upL_s]
                · rw [upL_n hz, upL_n hz]
              have hW2 : WS J2 c2 T lk (r, k, te) P m (A + 26) := by rw [← eB]; exact hW2
              refine ⟨_, lw_rounded hX (d + 0) hW2 (x := a) (y := y) ha hy, ?_⟩
              rintro _ J3 ⟨k3, rfl⟩
              have hW3 := hW2.keepC k3
              have hw9 : rndT r k te (a * k + y) = w (a * k + y) := by rw [hw]
              refine ⟨(fun z => by cases z), fun _ => ⟨_, lc_near hX (d + 8) (w := rndT r k te (a * k + y)) (x := te (a * k + y)) (n := 999) ?_ htb (by decide), ?_⟩⟩
              · rw [hw9]; exact n1 _ (cl a y ha hy)
              rintro _ J3 ⟨rfl, rfl⟩
              have r1 : ∀ z, J3 q1 z = J q1 z := fun z => by rw [k3.q g1, (kpq k2).1, (kpq k1).1]
              have r2 : ∀ z, J3 q2 z = J q2 z := fun z => by rw [k3.q g2, (kpq k2).2, (kpq k1).2]
              have hcy := hco y hy
              rw [if_neg (Nat.lt_irrefl y)] at hcy
              have cb := csb y a hy (by omega)
              have hwb := wb a y ha hy
              have s1 : J3 q1 y + w (a * k + y) = sumE (a + 1) (fun x => w (x * k + y)) := by rw [r1, hcy.1]; rfl
              have s2 : J3 q2 y + te (a * k + y) = sumE (a + 1) (fun x => te (x * k + y)) := by rw [r2, hcy.2]; rfl
              have cb1 := csb y (a + 1) hy (by omega)
              have x1 : xin (J3 q1 (Int.toNat (y : Int)) + rndT r k te (a * k + y)) := by rw [tnN, hw9, s1]; exact ⟨by omega, by omega⟩
              refine ⟨(fun z => by cases z), fun _ => ⟨⟨by omega, by omega⟩, x1, fun J4 e4 => ?_⟩⟩
              rw [tnN] at e4
              have s3 : J4 q2 y + te (a * k + y) = sumE (a + 1) (fun x => te (x * k + y)) := by rw [e4, xu_p q12.symm]; exact s2
              have x2 : xin (J4 q2 (Int.toNat (y : Int)) + te (a * k + y)) := by rw [tnN, s3]; exact ⟨by omega, by omega⟩
              refine ⟨⟨by omega, by omega⟩, x2, fun J5 e5 => ?_⟩
              rw [tnN] at e5
              have e4 : J4 = xu J3 q1 y (J3 q1 y + w (a * k + y)) := by rw [← hw9]; exact e4
              have e5 : J5 = xu J4 q2 y (J4 q2 y + te (a * k + y)) := e5
              have hW5 : WS J5 c2 T lk (r, k, te) P m (A + 26) := by rw [e5, e4]; exact hW3.k0 ((keepV.id9.xu nw1).xu nw2)
              refine ihc J5 _ _ _ _ (by omega) (by omega) hW5 ?_ ?_ (fun z hz => ?_)
              · rw [h9]
                show _ + rndT r k te (a * k + y) = _
                rw [hw9]; rfl
              · rw [h10]; rfl
              · by_cases hzy : z = y
                · subst hzy
                  rw [if_pos (Nat.lt_succ_self z), e5, xu_same, xu_p q12, e4, xu_same, s1]
                  refine ⟨rfl, ?_⟩
                  rw [xu_p q12.symm]
                  exact s2
                · have := hco z hz
                  have u1 : J5 q1 z = J q1 z := by rw [e5, xu_p q12, e4, xu_k hzy, r1]
                  have u2 : J5 q2 z = J q2 z := by rw [e5, xu_k hzy, e4, xu_p q12.symm, r2]
                  rw [u1, u2]
                  by_cases hzl : z < y
                  · rw [if_pos hzl] at this
                    rw [if_pos (by omega)]
                    exact this
                  · rw [if_neg hzl] at this
                    rw [if_neg (by omega)]
                    exact this
          refine rg_L_othersSo_107 (mc := 150) (ms := 900) hX hV hL2 (by omega) (by omega) J kd1 m1 kd2 m2 _ _ _ _ _ _ ⟨⟨by omega, by omega⟩, ⟨by omega, by omega⟩, fun z => by omega, fun _ => cells 0 (Nat.zero_le _) J 0 0 _ _ (by omega) (by omega) hWJ rfl rfl (fun z hz => ?_)⟩
          rw [if_neg (Nat.not_lt_zero z)]
          exact hco z hz
      exact rows 0 (Nat.zero_le _) J 0 0 kc nc (by omega) (by omega) hWJ rfl rfl (fun y hy => ⟨z1 y, z2 y⟩)
    have tells : ∀ p : Nat, p ≤ r * k → ∀ (J : xIn) (te : Nat → Int) (kc nc : Nat), kc ≤ 3 + 2 * p → nc ≤ 38 + 12 * p → WS J c2 T lk (r, k, te) P m (A + 2 + 2 * p) → (∀ y, J q1 y = 0) → (∀ y, J q2 y = 0) → V 44 [(0, xr (2, 0)), (1, xi (r : Int)), (2, xi (k : Int)), (3, xi 0), (4, xi 0), (5, xr q1), (6, xr q2), (7, xi (p : Int))] [] (J, xst c2) kc nc := by
      have hmul : (r : Int) * (k : Int) = ((r * k : Nat) : Int) := (Int.natCast_mul r k).symm
      refine up_to (m := r * k) (W := fun p => ∀ (J : xIn) (te : Nat → Int) (kc nc : Nat), kc ≤ 3 + 2 * p → nc ≤ 38 + 12 * p → WS J c2 T lk (r, k, te) P m (A + 2 + 2 * p) → (∀ y, J q1 y = 0) → (∀ y, J q2 y = 0) → V 44 [(0, xr (2, 0)), (1, xi (r : Int)), (2, xi (k : Int)), (3, xi 0), (4, xi 0), (5, xr q1), (6, xr q2), (7, xi (p : Int))] [] (J, xst c2) kc nc) ?_ ?_
      · intro J te kc nc c1 c29 hWJ z1 z2
        refine rg_L_othersSo_44 (mc := 150) (ms := 900) hX hV hL2 (by omega) (by omega) J kd1 m1 kd2 m2 _ _ _ _ _ ?_
        rw [hmul]
        exact ⟨⟨by omega, by omega⟩, ⟨by omega, by omega⟩, fun _ => told J te _ _ (by omega) (by omega) (hWJ.le (by omega) hA) z1 z2, fun z => by omega⟩
      · intro p hp ih J te kc nc c1 c29 hWJ z1 z2
        rw [Int.natCast_add] at ih
        obtain ⟨p1, p2, p3⟩ := cell_of hp
        have s91 : ∀ (J : xIn) (v : Int), 0 ≤ v ∧ v ≤ 999 → WS J c2 T lk (r, k, te) P m (A + 2 + 2 * ((p : Int) + 1)) → (∀ y, J q1 y = 0) → (∀ y, J q2 y = 0) → V 91 [(0, xr (2, 0)), (1, xi (r : Int)), (2, xi (k : Int)), (3, xi 0), (4, xi 0), (5, xr q1), (6, xr q2), (7, xi (p : Int))] [xi v, xi ((p : Int) % (k : Int)), xi ((p : Int) / (k : Int)), xr (0, 0)] (J, xst c2) kc nc := by
          intro J v hv hWJ z1 z2
          have e1 : (p : Int) % (k : Int) = ((p % k : Nat) : Int) := (Int.natCast_emod p k).symm
          have e2 : (p : Int) / (k : Int) = ((p / k : Nat) : Int) := (Int.natCast_ediv p k).symm
          rw [e1, e2]
          refine rg_L_othersSo_91 (mc := 150) (ms := 900) hX hV hL2 (by omega) (by omega) J kd1 m1 kd2 m2 _ _ _ _ _ _ _ _ ⟨_, lw_tell hX (d + 0) hWJ (x := p / k) (y := p % k) p1 p2 hv, ?_⟩
          rintro w J2 ⟨k2, hW2, -⟩
          exact ih J2 _ _ _ (by omega) (by omega) hW2 (fun y => by rw [(kpq k2).1]; exact z1 y) (fun y => by rw [(kpq k2).2]; exact z2 y)
        refine rg_L_othersSo_44 (mc := 150) (ms := 900) hX hV hL2 (by omega) (by omega) J kd1 m1 kd2 m2 _ _ _ _ _ ?_
        rw [hmul]
        refine ⟨⟨by omega, by omega⟩, ⟨by omega, by omega⟩, fun z => by omega, fun _ => ⟨⟨by omega, by omega⟩, ⟨by omega, by omega⟩, _, lc_draw hX (d + 7) hL2.1 hS2 ⟨hWJ.2.2.2.2.2.2.1, by have := hWJ.2.2.2.2.2.2.2.1; omega⟩ ⟨by decide, by decide⟩, ?_⟩⟩
        rintro v J1 ⟨hv, k1⟩
        have hW1 := hWJ.keep k1.V (by omega)
        refine ⟨⟨by omega, by omega⟩, fun _ => ⟨_, lc_draw hX (d + 7) hL2.1 hS2 ⟨hW1.2.2.2.2.2.2.1, by have := hW1.2.2.2.2.2.2.2.1; omega⟩ ⟨by decide, by decide⟩, ?_⟩, fun _ => ⟨_, lc_draw hX (d + 7) hL2.1 hS2 ⟨hW1.2.2.2.2.2.2.1, by have := hW1.2.2.2.2.2.2.2.1; omega⟩ ⟨by decide, by decide⟩, ?_⟩⟩
        · rintro v2 J2 ⟨hv2, k2⟩
          exact s91 J2 v2 (by omega) ((hW1.keep k2.V (by omega)).le (by omega) (by omega)) (fun y => by rw [(dr1 k2).1, (dr1 k1).1]; exact z1 y) (fun y => by rw [(dr1 k2).2, (dr1 k1).2]; exact z2 y)
        · rintro v2 J2 ⟨hv2, k2⟩
          exact s91 J2 (10 * v2) (by omega) ((hW1.keep k2.V (by omega)).le (by omega) (by omega)) (fun y => by rw [(dr1 k2).1, (dr1 k1).1]; exact z1 y) (fun y => by rw [(dr1 k2).2, (dr1 k1).2]; exact z2 y)
    exact tells 0 (Nat.zero_le _) I5 _ _ _ (by omega) (by omega) (hW5.le (by omega) (by omega)) z1 z2
  · rintro o h9 ⟨rfl, J, a1, a2, k, hk, hJ, rfl⟩
    have hL1 : LA (cAd c (pI k b) a1) m (b + 1) := hLA.adI (by omega)
    refine ⟨_, (xLe_ad (I := I) hL1.1.1 hL1.frI (fun k => hI _ _)).tr (xLe_ad (I := I) hLA.1.1 hLA.frI (fun k => hI _ _)), fun r hr => ?_, _, rfl, Or.inl ⟨_, rfl, rfl, (hJ.rest (nwP_I hL1.1)).rest (nwP_I hLA.1)⟩⟩
    cases hr; rfl
end SO
