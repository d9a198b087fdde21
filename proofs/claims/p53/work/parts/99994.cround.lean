/-! the class: tables are rounded -/
def kpT (I J : xIn) : Prop := kp ([(0, 27), (0, 29), (0, 30), (0, 31)] ++ flP) I J ∧ ∀ j, j ≠ 6 → J (0, 27) j = I (0, 27) j
theorem kpT.tr {I J K : xIn} (h1 : kpT I J) (h2 : kpT J K) : kpT I K := ⟨h1.1.tr h2.1, fun j hj => by rw [h2.2 j hj, h1.2 j hj]⟩
theorem kpT.q {I J : xIn} (h : kp flP I J) : kpT I J := ⟨h.mo (by simp [flP]), fun j _ => by rw [h _ (by simp [flP])]⟩
section TBD
variable {X : xX} {c : xCx} {I : xIn} {B : TB}
theorem tb_addRounded (hX : xBase X) (d : Nat) {n k : Nat} {u v : Nat → Nat} {lo hi co : Nat → Int} {x : Int} {a b : Nat} (hF : FR I (n, k, u, v)) (hH : Has I k lo hi co) (hu : u k = a) (hv : v k = b) (ha : a < n) (hb : b < n) (hk : k < 32) (hx : 0 ≤ x ∧ x ≤ 16000) (h1 : lo k = x / 10) (h2 : hi k = (x + 9) / 10) (h3 : co k = 0) : xRet rU X m_X7_addRounded (d + 3) [xr (0, 3), xi (a : Int), xi (b : Int), xi x] c I 0 0 (fun _ I9 => kpA I I9 ∧ FR I9 (n, k + 1, u, v) ∧ Has I9 (k + 1) lo hi co) xNo := by
  have hadd := fl_addK (c := c) hX d hF hH (by rw [hu]; exact ha) (by rw [hv]; exact hb) hk (by rw [h1]; exact ⟨by omega, by omega⟩) (by rw [h2]; exact ⟨by omega, by omega⟩) (by rw [h3]; exact ⟨by decide, by decide⟩)
  rw [hu, hv, h1, h2, h3] at hadd
  refine xRet_of hX pl_X7_addRounded (LE1 rfl) fun V hV => rg_X7_addRounded_0 hV I _ _ _ ⟨⟨by omega, by omega⟩, ⟨by omega, by omega⟩, _, hadd, ?_⟩
  rintro _ J h
  exact h
theorem tb_roundBy (hX : xBase X) (d : Nat) (hB : TBok B) (hC : CTB I B) : xRet rU X m_X7_roundBy (d + 4) [xr (0, 27), xr (0, 3)] c I 0 0 (fun _ I9 => kpT I I9 ∧ ∀ p, p < B.r * B.k → I9 (0, 29) p = rndT B.r B.k B.te p) xNo := by
  obtain ⟨c0, c1, c2⟩ := id hC
  obtain ⟨⟨hr1, hr⟩, ⟨hk1, hk⟩, ht⟩ := hB
  generalize B.r = r at *
  generalize B.k = k at *
  generalize B.te = te at *
  have hrk := rk16 hr hk
  have hte : ∀ p, p < r * k → 0 ≤ te p ∧ te p ≤ 999 := fun p hp => ht p (by omega)
  have hnn := fil_nn hte hr hk
  have hte9 : ∀ p, p < r * k → I (0, 28) p = te p := fun p hp => c2 p (by omega)
  have hgm : (TG9 r k).m = r * k + r + k + 1 := rfl
  refine xRet_of hX pl_X7_roundBy (LE1 rfl) fun V hV => rg_X7_roundBy_0 hV I ⟨_, tb_addUp hX (d + 2) hr hk1 hk c0 c1 (q := (0, 28)) rfl (lvm0 c.1 (by decide)) (by decide) (fun p hp => by rw [hte9 p hp]; have := hte p hp; omega), ?_⟩
  rintro _ J0 ⟨k0, s0, m6, m30, m31⟩
  have kT0 : kpT I J0 := ⟨k0.mo (by simp), s0⟩
  have e30 : ∀ x, x < r → J0 (0, 30) x = rsT k te x := fun x hx => by rw [m30 x hx]; exact rs_cong hte9 hx
  have e31 : ∀ y, y < k → J0 (0, 31) y = csT r k te y := fun y hy => by rw [m31 y hy]; exact cs_cong hte9 hy
  have e6 : J0 (0, 27) 6 = sumE (r * k) te := by rw [m6]; exact sumE_cong hte9
  have j0 : J0 (0, 27) 0 = (r : Int) := by rw [s0 0 (by decide), c0]
  have j1 : J0 (0, 27) 1 = (k : Int) := by rw [s0 1 (by decide), c1]
  rw [j0, j1]
  rintro _ rfl
  rw [show (r : Int) + (k : Int) + 1 + 1 = ((r + k + 2 : Nat) : Int) by omega]
  refine ⟨_, fl_startK hX (d + 3) (show r + k + 2 ≤ 16 by omega) (tgU r k) (tgV r k) (TGl r k te) (TGh r k te) (fun _ => 0), ?_⟩
  rintro _ J1 ⟨k1, f1, h1⟩
  have q01 : kp flP J0 J1 := k1.mo (by simp [flP])
  have step : ∀ (J : xIn) (e : Nat) (x : Int) (a b : Nat), kp flP J0 J → FR J (r + k + 2, e, tgU r k, tgV r k) → Has J e (TGl r k te) (TGh r k te) (fun _ => 0) → e < r * k + r + k + 1 → tgU r k e = a → tgV r k e = b → x = filT r k te e → xRet rU X m_X7_addRounded (d + 3) [xr (0, 3), xi (a : Int), xi (b : Int), xi x] c J 0 0 (fun _ I9 => kp flP J0 I9 ∧ FR I9 (r + k + 2, e + 1, tgU r k, tgV r k) ∧ Has I9 (e + 1) (TGl r k te) (TGh r k te) (fun _ => 0)) xNo := by
    intro J e x a b kJ fJ hJ he hu hv hx
    have hin := TG9_in.1 e (show e < (TG9 r k).m from he)
    have hu9 : tgU r k e < r + k + 2 := hin.1
    have hv9 : tgV r k e < r + k + 2 := hin.2
    refine xRet_w (tb_addRounded hX d fJ hJ hu hv (by omega) (by omega) (by omega) (by rw [hx]; exact hnn e he) (by rw [hx]; rfl) (by rw [hx]; rfl) rfl) ?_ (fun _ _ h => h)
    rintro _ K ⟨a1, a2, a3⟩
    exact ⟨kJ.tr a1.q, a2, a3⟩
  have jT : ∀ J, kp flP J0 J → J (0, 27) = J0 (0, 27) ∧ J (0, 28) = I (0, 28) ∧ J (0, 30) = J0 (0, 30) ∧ J (0, 31) = J0 (0, 31) := fun J kJ => ⟨kJ _ (by simp [flP]), by rw [kJ _ (by simp [flP]), k0 _ (by simp)], kJ _ (by simp [flP]), kJ _ (by simp [flP])⟩
  -- behind all edges
  have fin : ∀ J, kp flP J0 J → FR J (TG9 r k) → Has J (TG9 r k).m (TGl r k te) (TGh r k te) (fun _ => 0) → ∃ (P7 : Bool → xIn → Prop), xRet rB X m_X1_settle (d + 3) [xr (0, 3)] c J 0 0 P7 xNo ∧ (∀ (v9 : Bool) (I8 : xIn), P7 v9 I8 → V 178 [(0, xr (0, 27)), (1, xr (0, 3)), (4, xi 0)] [] (I8, xst c) 0 0) := by
    intro J kJ fJ hJ
    refine ⟨_, fl_settle hX d fJ TG9_in.2 (fun e he => ?_), ?_⟩
    · obtain ⟨a1, a2, -, a4, a5, a6⟩ := hJ e he
      have := hnn e he
      rw [a1, a2, a4, a5, a6]
      unfold TGl TGh
      refine ⟨rfl, rfl, rfl, ?_⟩
      omega
    rintro v K ⟨kK, hv⟩
    rcases hv with ⟨rfl, b1, b2, b3⟩ | ⟨rfl, S, -, b1⟩
    rotate_left
    · exfalso
      have e1 : sIn (TG9 r k) (J (0, 7)) S = sIn (TG9 r k) (TGh r k te) S := sIn_cong (fun e he => (hJ e he).2.1) S
      have e2 : sOut (TG9 r k) (J (0, 6)) S = sOut (TG9 r k) (TGl r k te) S := sOut_cong (fun e he => (hJ e he).1) S
      have := TG_nocrowd (r := r) (k := k) te S
      omega
    have klo : ∀ e, e < (TG9 r k).m → K (0, 9) e = TGl r k te e := fun e he => by rw [(b1 e he).1, (hJ e he).1]
    have khi : ∀ e, e < (TG9 r k).m → K (0, 10) e = TGh r k te e := fun e he => by rw [(b1 e he).2, (hJ e he).2.1]
    have kTK : kpT I K := kT0.tr (kpT.q (kJ.tr kK.q))
    have fK := kK.fr fJ
    have hsp : ∀ e, e < (TG9 r k).m → 0 ≤ K (0, 9) e ∧ K (0, 10) e ≤ 2000 := fun e he => by
      rw [klo e he, khi e he]
      have := hnn e he
      unfold TGl TGh
      omega
    have bdK : Bd9 K (TG9 r k).m := fun e he => by have := hsp e he; have := b2 e he; omega
    refine up_to0 (m := r * k) (W := fun p => ∀ Z, kpT I Z → FR Z (TG9 r k) → In9 Z (TG9 r k).m → Bd9 Z (TG9 r k).m → (∀ x, x < (TG9 r k).n → nout (TG9 r k) (Z (0, 11)) x = 0) → Z (0, 9) = (lxC (TG9 r k) (K (0, 9)) (K (0, 10)) (fun _ => 0) p).1 → Z (0, 10) = (lxC (TG9 r k) (K (0, 9)) (K (0, 10)) (fun _ => 0) p).2 → (∀ q, q < p → Z (0, 29) q = rndT r k te q) → V 178 [(0, xr (0, 27)), (1, xr (0, 3)), (4, xi (p : Int))] [] (Z, xst c) 0 0) ?_ ?_ K kTK fK b2 bdK (fun x _ => b3 x) rfl rfl (fun q hq => absurd hq (Nat.not_lt_zero q))
    · intro Z kZ fZ iZ bZ nZ z9 z10 hZ
      refine rg_X7_roundBy_178 hV Z _ ?_
      rw [kZ.2 0 (by decide), kZ.2 1 (by decide), c0, c1, ← Int.natCast_mul]
      exact ⟨⟨by omega, by omega⟩, ⟨by omega, by omega⟩, fun _ => ⟨kZ, hZ⟩, fun h => by omega⟩
    · intro p hp ih Z kZ fZ iZ bZ nZ z9 z10 hZ
      have hpm : p < (TG9 r k).m := by rw [hgm]; omega
      have h9p : Z (0, 9) p = K (0, 9) p := by rw [z9, (lxC_after (Nat.le_refl p)).1]
      have h10p : Z (0, 10) p = K (0, 10) p := by rw [z10, (lxC_after (Nat.le_refl p)).2]
      have hspp := hsp p hpm
      have hip := iZ p hpm
      refine rg_X7_roundBy_178 hV Z _ ?_
      rw [kZ.2 0 (by decide), kZ.2 1 (by decide), c0, c1, ← Int.natCast_mul]
      refine ⟨⟨by omega, by omega⟩, ⟨by omega, by omega⟩, fun h => by omega, fun _ => ⟨fun h => by omega, fun _ => ⟨_, fl_lowerC hX d fZ bZ iZ (b := fun _ => 0) nZ hpm (TG9_in.2 p hpm) (by omega), ?_⟩⟩⟩
      rintro _ Y ⟨kY, iY, bY, nY, y9, y10, y11⟩
      refine ⟨_, fl_numberOf hX (d + 2) (kY.fr fZ) hpm, ?_⟩
      rintro _ Y ⟨rfl, rfl⟩
      have kTY : kpT I Y := kZ.tr (kpT.q kY.q)
      have yb := bY p hpm
      have yi := iY p hpm
      refine ⟨⟨by omega, by omega⟩, ⟨by omega, by omega⟩, ?_⟩
      rintro N hN
      rw [tnN] at hN
      have n29 : N (0, 29) = upL (Y (0, 29)) p (Y (0, 11) p) := by rw [hN, xuL]
      have nq : ∀ q : xP, q ≠ (0, 29) → N q = Y q := fun q hq => by rw [hN, xu_p hq]
      have kN : kpT I N := kTY.tr ⟨by rw [hN]; exact kp.rfl.xu (by simp), fun j _ => by rw [nq _ (by decide)]⟩
      clear hN
      have fN : FR N (TG9 r k) := by
        obtain ⟨w1, w2, w3, w4, w5, w6⟩ := kY.fr fZ
        exact ⟨by rw [nq _ (by decide)]; exact w1, by rw [nq _ (by decide)]; exact w2, w3, w4, w5, fun e he => by rw [nq _ (by decide), nq _ (by decide)]; exact w6 e he⟩
      have n9 : N (0, 9) = Y (0, 9) := nq _ (by decide)
      have n10 : N (0, 10) = Y (0, 10) := nq _ (by decide)
      have n11 : N (0, 11) = Y (0, 11) := nq _ (by decide)
      have hlx : leastC (TG9 r k) (Z (0, 9)) (Z (0, 10)) (fun _ => 0) p = (lxC (TG9 r k) (K (0, 9)) (K (0, 10)) (fun _ => 0) (p + 1)).1 p := by
        show _ = upL _ p _ p
        rw [upL_s, z9, z10]
      refine ih N kN fN ?_ ?_ ?_ ?_ ?_ (fun q hq => ?_)
      · intro e he; rw [n9, n10, n11]; exact iY e he
      · intro e he; rw [n9, n10]; exact bY e he
      · intro x hx; rw [n11]; exact nY x hx
      · rw [n9, y9, z9, z10]; rfl
      · rw [n10, y10, z9, z10]; rfl
      · rw [n29]
        rcases upL_c (Y (0, 29)) p (Y (0, 11) p) q with ⟨w1, w2⟩ | ⟨w1, w2⟩
        · rw [w2, w1, y11, hlx]
          unfold rndT
          rw [lxC_row hp]
          exact (lxC_cong klo khi (fun _ _ => rfl) (by omega) p hpm).1
        · rw [w2, kY.1 _ (by simp)]; exact hZ q (by omega)
  -- the columns and the edge back
  have cols : ∀ J, kp flP J0 J → FR J (r + k + 2, r * k + r, tgU r k, tgV r k) → Has J (r * k + r) (TGl r k te) (TGh r k te) (fun _ => 0) → V 126 [(0, xr (0, 27)), (1, xr (0, 3)), (2, xi ((r : Int) + (k : Int))), (3, xi ((r : Int) + (k : Int) + 1)), (4, xi 0)] [] (J, xst c) 0 0 := by
    refine up_to0 (m := k) (W := fun b => ∀ J, kp flP J0 J → FR J (r + k + 2, r * k + r + b, tgU r k, tgV r k) → Has J (r * k + r + b) (TGl r k te) (TGh r k te) (fun _ => 0) → V 126 [(0, xr (0, 27)), (1, xr (0, 3)), (2, xi ((r : Int) + (k : Int))), (3, xi ((r : Int) + (k : Int) + 1)), (4, xi (b : Int))] [] (J, xst c) 0 0) ?_ ?_
    · intro J kJ fJ hJ
      obtain ⟨q1, q2, q3, q4⟩ := jT J kJ
      refine rg_X7_roundBy_126 hV J _ _ _ ?_
      rw [q1, j0, j1, e6]
      refine ⟨⟨by omega, by omega⟩, fun _ => ?_, fun h => by omega⟩
      have hst := step J (r * k + r + k) (sumE (r * k) te) (r + k + 1) (r + k) kJ fJ hJ (by omega) tg_4.1 tg_4.2 (fil_4 te).symm
      rw [show ((r + k + 1 : Nat) : Int) = (r : Int) + (k : Int) + 1 by omega, show ((r + k : Nat) : Int) = (r : Int) + (k : Int) by omega] at hst
      refine ⟨_, hst, ?_⟩
      rintro _ K ⟨a1, a2, a3⟩
      exact fin K a1 a2 a3
    · intro b hb ih J kJ fJ hJ
      obtain ⟨q1, q2, q3, q4⟩ := jT J kJ
      refine rg_X7_roundBy_126 hV J _ _ _ ?_
      rw [q1, j0, j1, tnN, q4, e31 b hb]
      refine ⟨⟨by omega, by omega⟩, fun h => by omega, fun _ => ⟨⟨by omega, by omega⟩, ?_⟩⟩
      have hst := step J (r * k + r + b) (csT r k te b) (r + b) (r + k + 1) kJ fJ hJ (by omega) (tg_3 hb).1 (tg_3 hb).2 (fil_3 te hb).symm
      rw [show ((r + k + 1 : Nat) : Int) = (r : Int) + (k : Int) + 1 by omega, show ((r + b : Nat) : Int) = (r : Int) + (b : Int) by omega] at hst
      refine ⟨_, hst, ?_⟩
      rintro _ K ⟨a1, a2, a3⟩
      exact ih K a1 a2 a3
  -- the rows
  have rows : ∀ J, kp flP J0 J → FR J (r + k + 2, r * k, tgU r k, tgV r k) → Has J (r * k) (TGl r k te) (TGh r k te) (fun _ => 0) → V 94 [(0, xr (0, 27)), (1, xr (0, 3)), (2, xi ((r : Int) + (k : Int))), (3, xi ((r : Int) + (k : Int) + 1)), (4, xi 0)] [] (J, xst c) 0 0 := by
    refine up_to0 (m := r) (W := fun a => ∀ J, kp flP J0 J → FR J (r + k + 2, r * k + a, tgU r k, tgV r k) → Has J (r * k + a) (TGl r k te) (TGh r k te) (fun _ => 0) → V 94 [(0, xr (0, 27)), (1, xr (0, 3)), (2, xi ((r : Int) + (k : Int))), (3, xi ((r : Int) + (k : Int) + 1)), (4, xi (a : Int))] [] (J, xst c) 0 0) ?_ ?_
    · intro J kJ fJ hJ
      obtain ⟨q1, q2, q3, q4⟩ := jT J kJ
      refine rg_X7_roundBy_94 hV J _ _ _ ?_
      rw [q1, j0]
      exact ⟨⟨by omega, by omega⟩, fun _ => cols J kJ fJ hJ, fun h => by omega⟩
    · intro a ha ih J kJ fJ hJ
      obtain ⟨q1, q2, q3, q4⟩ := jT J kJ
      refine rg_X7_roundBy_94 hV J _ _ _ ?_
      rw [q1, j0, tnN, q3, e30 a ha]
      refine ⟨⟨by omega, by omega⟩, fun h => by omega, fun _ => ⟨⟨by omega, by omega⟩, ?_⟩⟩
      have hst := step J (r * k + a) (rsT k te a) (r + k) a kJ fJ hJ (by omega) (tg_2 ha).1 (tg_2 ha).2 (fil_2 te ha).symm
      rw [show ((r + k : Nat) : Int) = (r : Int) + (k : Int) by omega] at hst
      refine ⟨_, hst, ?_⟩
      rintro _ K ⟨a1, a2, a3⟩
      exact ih K a1 a2 a3
  -- the cells
  refine up_to0 (m := r) (W := fun a => ∀ J, kp flP J0 J → FR J (r + k + 2, a * k, tgU r k, tgV r k) → Has J (a * k) (TGl r k te) (TGh r k te) (fun _ => 0) → V 32 [(0, xr (0, 27)), (1, xr (0, 3)), (2, xi ((r : Int) + (k : Int))), (3, xi ((r : Int) + (k : Int) + 1)), (4, xi (a : Int))] [] (J, xst c) 0 0) ?_ ?_ J1 q01 (by rw [Nat.zero_mul]; exact f1) (by rw [Nat.zero_mul]; exact h1)
  · intro J kJ fJ hJ
    obtain ⟨q1, q2, q3, q4⟩ := jT J kJ
    refine rg_X7_roundBy_32 hV J _ _ _ ?_
    rw [q1, j0]
    exact ⟨⟨by omega, by omega⟩, fun _ => rows J kJ fJ hJ, fun h => by omega⟩
  · intro a ha ih J kJ fJ hJ
    obtain ⟨q1, q2, q3, q4⟩ := jT J kJ
    refine rg_X7_roundBy_32 hV J _ _ _ ?_
    rw [q1, j0]
    refine ⟨⟨by omega, by omega⟩, fun h => by omega, fun _ => ?_⟩
    refine up_to0 (m := k) (W := fun b => ∀ J, kp flP J0 J → FR J (r + k + 2, a * k + b, tgU r k, tgV r k) → Has J (a * k + b) (TGl r k te) (TGh r k te) (fun _ => 0) → V 44 [(0, xr (0, 27)), (1, xr (0, 3)), (2, xi ((r : Int) + (k : Int))), (3, xi ((r : Int) + (k : Int) + 1)), (4, xi (a : Int)), (5, xi (b : Int))] [] (J, xst c) 0 0) ?_ ?_ J kJ fJ hJ
    · intro J kJ fJ hJ
      obtain ⟨q1, q2, q3, q4⟩ := jT J kJ
      refine rg_X7_roundBy_44 hV J _ _ _ _ ?_
      rw [q1, j1]
      refine ⟨⟨by omega, by omega⟩, fun _ => ih J kJ ?_ ?_, fun h => by omega⟩
      · rw [Nat.succ_mul]; exact fJ
      · rw [Nat.succ_mul]; exact hJ
    · intro b hb ih2 J kJ fJ hJ
      obtain ⟨q1, q2, q3, q4⟩ := jT J kJ
      have hcell := cell_lt ha hb
      refine rg_X7_roundBy_44 hV J _ _ _ _ ?_
      rw [q1, j0, j1]
      refine ⟨⟨by omega, by omega⟩, fun h => by omega, fun _ => ⟨_, tb_place (B := (r, k, fun _ => 0)) hX (d + 3) (by rw [q1]; exact j1), ?_⟩⟩
      rintro _ J ⟨rfl, rfl⟩
      have hcell9 : a * (TB.k (r, k, fun _ => 0)) + b < 16 := by show a * k + b < 16; omega
      refine ⟨⟨by omega, by omega⟩, ?_⟩
      rw [tnN, q2]
      have hst := step J (a * k + b) (te (a * k + b)) a (r + b) kJ fJ hJ (by omega) (tg_1 ha hb).1 (tg_1 ha hb).2 (fil_1 te hcell).symm
      rw [show ((r + b : Nat) : Int) = (r : Int) + (b : Int) by omega, ← hte9 _ hcell] at hst
      refine ⟨_, hst, ?_⟩
      rintro _ K ⟨a1, a2, a3⟩
      exact ih2 K a1 a2 a3
theorem kpT.C {I J : xIn} (h : kpT I J) : keepC I J := ⟨fun p hp h27 h32 => h.1 p (by
    intro hm
    simp only [flP, List.cons_append, List.nil_append, List.mem_cons, List.not_mem_nil, or_false] at hm
    rcases hm with rfl | rfl | rfl | rfl | rfl | rfl | rfl | rfl | rfl | rfl | rfl | rfl | rfl | rfl | rfl | rfl <;> first | exact absurd rfl h27 | exact hp (by decide)), h.2, fun j _ => by rw [h.1 _ (by simp [flP])]⟩
theorem cn_rounded (hX : xBase X) (d : Nat) (hB : TBok B) (hC : CTB I B) {a b : Int} (ha : xin a) (hb : xin b) : xRet rI X m_X9_rounded (d + 8) [xr (0, 0), xi a, xi b] c I 1 6 (fun v I9 => keepC I I9 ∧ (v, 0) = roundedA B a b) (fun x I9 => I9 = I ∧ exL [xIOB] x (roundedA B a b).2) := by
  obtain ⟨c0, c1, c2⟩ := id hC
  refine xRet_of hX pl_X9_rounded (LE1 rfl) fun V hV => rg_X9_rounded_0 hV I _ _ ⟨_, _, cn_needPlace hX d c0 c1 ha hb, ?_, ?_⟩
  · rintro x J ⟨rfl, rfl, h⟩
    unfold roundedA
    rw [h, if_neg (by decide)]
    exact ⟨rfl, 0, rfl, rfl⟩
  rintro _ J ⟨rfl, h⟩
  unfold roundedA
  rw [if_pos h]
  obtain ⟨x, y, rfl, rfl, hx, hy⟩ := plB_t h
  have hp16 := rk16 hB.1.2 hB.2.1.2
  have hcell := cell_lt hx hy
  have hpl : plP B (x : Int) (y : Int) = x * B.k + y := by unfold plP; rw [tnN, tnN]
  refine ⟨_, tb_roundBy hX (d + 3) hB hC, ?_⟩
  rintro _ K ⟨kK, hK⟩
  refine ⟨_, tb_place hX (d + 7) (by rw [kK.2 1 (by decide)]; exact c1), ?_⟩
  rintro _ K ⟨rfl, rfl⟩
  refine ⟨⟨by omega, by omega⟩, kK.C, ?_⟩
  rw [tnN, hK _ hcell, hpl]
end TBD
