/-! the class: passes, rings, cheapening -/
def sg2 (j : Nat) : Nat := if j % 2 = 0 then j / 2 else j / 2 + 32
theorem sg2_e (e : Nat) : sg2 (2 * e) = e := by unfold sg2; rw [if_pos (by omega)]; omega
theorem sg2_o (e : Nat) : sg2 (2 * e + 1) = e + 32 := by unfold sg2; rw [if_neg (by omega)]; omega
theorem sg2_ok {m : Nat} (hm : m ≤ 32) : SgOK m (2 * m) sg2 := by
  refine ⟨fun j hj => ?_, fun i j hi hj h => ?_, fun σ h1 h2 => ?_⟩
  · unfold sg2; split <;> omega
  · unfold sg2 at h
    split at h <;> split at h <;> omega
  · unfold eg at h2
    split at h2
    · exact ⟨2 * σ, by omega, sg2_e σ⟩
    · exact ⟨2 * (σ - 32) + 1, by omega, by rw [sg2_o]; omega⟩
def Enc (I : xIn) (n : Nat) (via τ : Nat → Nat) : Prop := ∀ x, x < n → 0 < τ x → I (0, 13) x = (sg2 (via x) : Int)
section CHE
variable {X : xX} {c : xCx} {I : xIn} {G : Gr} {lo hi co f : Nat → Int}
theorem ar_e {e : Nat} (he : e < 32) : (BAs G lo hi co f sg2).b (2 * e) = G.u e ∧ (BAs G lo hi co f sg2).e (2 * e) = G.v e ∧ (BAs G lo hi co f sg2).c (2 * e) = co e ∧ ((BAs G lo hi co f sg2).o (2 * e) = true ↔ e < G.m ∧ f e < hi e) := by
  show bgn G (sg2 (2 * e)) = _ ∧ edn G (sg2 (2 * e)) = _ ∧ sgn (sg2 (2 * e)) (co (eg (sg2 (2 * e)))) = _ ∧ (decide (eg (sg2 (2 * e)) < G.m ∧ 0 < rsp lo hi f (sg2 (2 * e))) = true ↔ _)
  rw [sg2_e]
  unfold bgn edn sgn eg rsp
  rw [if_pos he, if_pos he, if_pos he, if_pos he, if_pos he, decide_eq_true_iff]
  exact ⟨rfl, rfl, rfl, ⟨fun h => ⟨h.1, by omega⟩, fun h => ⟨h.1, by omega⟩⟩⟩
theorem ar_o {e : Nat} : (BAs G lo hi co f sg2).b (2 * e + 1) = G.v e ∧ (BAs G lo hi co f sg2).e (2 * e + 1) = G.u e ∧ (BAs G lo hi co f sg2).c (2 * e + 1) = -co e ∧ ((BAs G lo hi co f sg2).o (2 * e + 1) = true ↔ e < G.m ∧ lo e < f e) := by
  show bgn G (sg2 (2 * e + 1)) = _ ∧ edn G (sg2 (2 * e + 1)) = _ ∧ sgn (sg2 (2 * e + 1)) (co (eg (sg2 (2 * e + 1)))) = _ ∧ (decide (eg (sg2 (2 * e + 1)) < G.m ∧ 0 < rsp lo hi f (sg2 (2 * e + 1))) = true ↔ _)
  rw [sg2_o]
  have h1 : ¬ e + 32 < 32 := by omega
  unfold bgn edn sgn eg rsp
  rw [if_neg h1, if_neg h1, if_neg h1, if_neg h1, if_neg h1, decide_eq_true_iff, show e + 32 - 32 = e by omega]
  exact ⟨rfl, rfl, rfl, ⟨fun h => ⟨h.1, by omega⟩, fun h => ⟨h.1, by omega⟩⟩⟩
/-- what stands in a pass -/
def LstOK (n Q : Nat) (τ : Nat → Nat) (v : Int) : Prop := (v = -1 ∧ ∀ x, x < n → τ x ≤ Q) ∨ ∃ x : Nat, x < n ∧ v = (x : Int) ∧ Q < τ x
theorem fl_relax (hX : xBase X) (d : Nat) (hF : FR I G) (hne : ∀ e, e < G.m → G.u e ≠ G.v e) (e9 : I (0, 9) = lo) (e10 : I (0, 10) = hi) (e8 : I (0, 8) = co) (e11 : I (0, 11) = f) (hco : ∀ e, e < G.m → -20 ≤ co e ∧ co e ≤ 20) {S0 : Nat → Bool} {Q : Nat} {via τ : Nat → Nat} (hQ : Q = 0 ∨ 2 * G.m ≤ Q) (hQ9 : Q ≤ 4000) (h : BFI G.n (2 * G.m) (BAs G lo hi co f sg2) (GR G lo hi co f) FAR9 S0 Q 0 (I (0, 12)) via τ) (hv : Enc I G.n via τ) : xRet rI X m_X1_relax d [xr (0, 3)] c I 0 0 (fun v I9 => kp [(0, 12), (0, 13)] I I9 ∧ ∃ via9 τ9, BFI G.n (2 * G.m) (BAs G lo hi co f sg2) (GR G lo hi co f) FAR9 S0 Q (2 * G.m) (I9 (0, 12)) via9 τ9 ∧ Enc I9 G.n via9 τ9 ∧ LstOK G.n Q τ9 v) xNo := by
  obtain ⟨g1, g2, g3, g4, g5, g6⟩ := id hF
  have hA := BAs_ok (lo := lo) (hi := hi) (f := f) g5 hne hco (sg2_ok g4)
  have hFA : FAR9 = 1000000000 := rfl
  have hZ : 20 * (G.n : Int) + 20 < FAR9 := by omega
  refine xRet_of hX pl_X1_relax (LE1 rfl) fun V hV => rg_X1_relax_0 hV I ?_
  have h0 : LstOK G.n Q τ (-1) := Or.inl ⟨rfl, fun x hx => by have := (h.1 x hx).1; omega⟩
  refine up_to0 (m := G.m) (W := fun e => ∀ (J : xIn) (via τ : Nat → Nat) (v : Int), kp [(0, 12), (0, 13)] I J → BFI G.n (2 * G.m) (BAs G lo hi co f sg2) (GR G lo hi co f) FAR9 S0 Q (2 * e) (J (0, 12)) via τ → Enc J G.n via τ → LstOK G.n Q τ v → V 4 [(0, xr (0, 3)), (1, xi v), (2, xi (e : Int))] [] (J, xst c) 0 0) ?_ ?_ I via τ (-1) kp.rfl h hv h0
  · intro J via τ v hJ hB hE hL
    exact rg_X1_relax_4 hV J _ _ ⟨⟨by omega, by omega⟩, fun _ => ⟨hJ, via, τ, hB, hE, hL⟩, fun h => by rw [hJ _ (by simp), g2] at h; omega⟩
  · intro e he ih J via τ v hJ hB hE hL
    obtain ⟨hu, hv9⟩ := g6 e he
    obtain ⟨hun, hvn⟩ := g5 e he
    have hce := hco e he
    have k9 : J (0, 9) = lo := by rw [hJ _ (by simp), e9]
    have k10 : J (0, 10) = hi := by rw [hJ _ (by simp), e10]
    have k8 : J (0, 8) = co := by rw [hJ _ (by simp), e8]
    have k11 : J (0, 11) = f := by rw [hJ _ (by simp), e11]
    -- the second half
    have half2 : ∀ (J : xIn) (via τ : Nat → Nat) (v : Int), kp [(0, 12), (0, 13)] I J → BFI G.n (2 * G.m) (BAs G lo hi co f sg2) (GR G lo hi co f) FAR9 S0 Q (2 * e + 1) (J (0, 12)) via τ → Enc J G.n via τ → LstOK G.n Q τ v → V 107 [(0, xr (0, 3)), (1, xi v), (2, xi (e : Int)), (3, xi (G.u e : Int)), (4, xi (G.v e : Int))] [] (J, xst c) 0 0 := by
      intro J via τ v hJ hB hE hL
      obtain ⟨a1, a2, a3, a4⟩ := ar_o (G := G) (lo := lo) (hi := hi) (co := co) (f := f) (e := e)
      have k9 : J (0, 9) = lo := by rw [hJ _ (by simp), e9]
      have k8 : J (0, 8) = co := by rw [hJ _ (by simp), e8]
      have k11 : J (0, 11) = f := by rw [hJ _ (by simp), e11]
      have skip : (((BAs G lo hi co f sg2).o (2 * e + 1) = true → J (0, 12) (G.v e) ≠ FAR9 → J (0, 12) (G.u e) ≤ J (0, 12) (G.v e) + -co e)) → V 4 [(0, xr (0, 3)), (1, xi v), (2, xi ((e : Int) + 1))] [] (J, xst c) 0 0 := fun hs => ih J via τ v hJ (hB.skip (by rw [a1, a2, a3]; exact hs)) hE hL
      have hbv := hB.bd hvn
      refine rg_X1_relax_107 hV J _ _ _ _ ⟨⟨by omega, by omega⟩, fun h1 => skip fun ho => ?_, fun h1 => ⟨⟨by omega, by omega⟩, fun h2 => skip fun _ hz => ?_, fun h2 => ⟨⟨by omega, by omega⟩, ?_, fun h3 => skip fun _ _ => ?_, fun h3 => ?_⟩⟩⟩ <;> rw [tnN] at *
      · rw [k9, k11] at h1
        have := (a4.1 ho).2
        omega
      · omega
      · rw [tnN, k8]
        exact ⟨by omega, by omega⟩
      · rw [tnN, tnN, k8] at h3
        omega
      · rw [tnN, tnN, k8] at h3
        rw [k9, k11] at h1
        rintro _ rfl
        refine ⟨⟨by omega, by omega⟩, ?_⟩
        rintro _ rfl
        rw [tnN, tnN, k8]
        have hz : J (0, 12) (G.v e) ≠ FAR9 := by omega
        have hB9 := hB.put hA hZ hQ (by omega) (a4.2 ⟨he, h1⟩) (by rw [a1]; exact hz) (by rw [a1, a2, a3]; omega)
        rw [a1, a2, a3] at hB9
        refine ih _ (upN via (G.u e) (2 * e + 1)) (upN τ (G.u e) (Q + (2 * e + 1) + 1)) _ ((hJ.xu (by simp)).xu (by simp)) ?_ ?_ (Or.inr ⟨_, hun, rfl, ?_⟩)
        · rw [xu_p (by decide), xuL, show J (0, 12) (G.v e) - co e = J (0, 12) (G.v e) + -co e by omega]
          exact hB9
        · intro x hx ht
          rw [xuL]
          rcases upL_c (J (0, 13)) (G.u e) ((e : Int) + 32) x with ⟨q1, q2⟩ | ⟨q1, q2⟩
          · rw [xu_p (by decide), q2, q1, upN_s, sg2_o]; rfl
          · rw [xu_p (by decide), q2, upN_n q1]
            rw [upN_n q1] at ht
            exact hE x hx ht
        · rw [upN_s]; omega
    obtain ⟨a1, a2, a3, a4⟩ := ar_e (G := G) (lo := lo) (hi := hi) (co := co) (f := f) (e := e) (by omega)
    have skip : (((BAs G lo hi co f sg2).o (2 * e) = true → J (0, 12) (G.u e) ≠ FAR9 → J (0, 12) (G.v e) ≤ J (0, 12) (G.u e) + co e)) → V 107 [(0, xr (0, 3)), (1, xi v), (2, xi (e : Int)), (3, xi (G.u e : Int)), (4, xi (G.v e : Int))] [] (J, xst c) 0 0 := fun hs => half2 J via τ v hJ (hB.skip (by rw [a1, a2, a3]; exact hs)) hE hL
    have hbu := hB.bd hun
    refine rg_X1_relax_4 hV J _ _ ⟨⟨by omega, by omega⟩, fun h => by rw [hJ _ (by simp), g2] at h; omega, fun _ => ⟨⟨by omega, by omega⟩, ?_⟩⟩
    rintro x2 hx2 x4 hx4
    rw [tnN, hJ _ (by simp), hu] at hx2
    rw [tnN, hJ _ (by simp), hv9] at hx4
    subst hx2 hx4
    rw [tnN, tnN, tnN, k10, k11, k8]
    refine ⟨fun h1 => skip fun ho => ?_, fun h1 => ⟨⟨by omega, by omega⟩, fun h2 => skip fun _ hz => ?_, fun h2 => ⟨⟨by omega, by omega⟩, ⟨by omega, by omega⟩, fun h3 => skip fun _ _ => ?_, fun h3 => ?_⟩⟩⟩
    · have := (a4.1 ho).2
      omega
    · omega
    · omega
    · rintro _ rfl
      rintro _ rfl
      have hz : J (0, 12) (G.u e) ≠ FAR9 := by omega
      have hB9 := hB.put hA hZ hQ (by omega) (a4.2 ⟨he, h1⟩) (by rw [a1]; exact hz) (by rw [a1, a2, a3]; omega)
      rw [a1, a2, a3] at hB9
      refine half2 _ (upN via (G.v e) (2 * e)) (upN τ (G.v e) (Q + 2 * e + 1)) _ ((hJ.xu (by simp)).xu (by simp)) ?_ ?_ (Or.inr ⟨_, hvn, rfl, ?_⟩)
      · rw [xu_p (by decide), xuL]
        exact hB9
      · intro x hx ht
        rw [xuL]
        rcases upL_c (J (0, 13)) (G.v e) (e : Int) x with ⟨q1, q2⟩ | ⟨q1, q2⟩
        · rw [xu_p (by decide), q2, q1, upN_s, sg2_e]
        · rw [xu_p (by decide), q2, upN_n q1]
          rw [upN_n q1] at ht
          exact hE x hx ht
      · rw [upN_s]; omega
/-- passes that go on until nothing falls, or as many as there are corners -/
theorem fl_lowerAll (hX : xBase X) (d : Nat) (hF : FR I G) (hn : 1 ≤ G.n) (hne : ∀ e, e < G.m → G.u e ≠ G.v e) (e9 : I (0, 9) = lo) (e10 : I (0, 10) = hi) (e8 : I (0, 8) = co) (e11 : I (0, 11) = f) (hco : ∀ e, e < G.m → -20 ≤ co e ∧ co e ≤ 20) : xRet rI X m_X1_lowerAll (d + 1) [xr (0, 3)] c I 0 0 (fun v I9 => kp [(0, 12), (0, 13)] I I9 ∧ ((v = -1 ∧ PT G lo hi co f (I9 (0, 12)) ∧ ∀ x, x < G.n → -100000 ≤ I9 (0, 12) x ∧ I9 (0, 12) x ≤ 100000) ∨ ∃ (x Q : Nat) (via τ : Nat → Nat), x < G.n ∧ v = (x : Int) ∧ BFI G.n (2 * G.m) (BAs G lo hi co f sg2) (GR G lo hi co f) FAR9 (fun _ => true) Q (2 * G.m) (I9 (0, 12)) via τ ∧ Enc I9 G.n via τ ∧ (G.n - 1) * (2 * G.m) < τ x)) xNo := by
  obtain ⟨g1, g2, g3, g4, g5, g6⟩ := id hF
  have hA := BAs_ok (lo := lo) (hi := hi) (f := f) g5 hne hco (sg2_ok g4)
  have hFA : FAR9 = 1000000000 := rfl
  have hZ : 20 * (G.n : Int) + 20 < FAR9 := by omega
  refine xRet_of hX pl_X1_lowerAll (LE1 rfl) fun V hV => rg_X1_lowerAll_0 hV I ?_
  refine up_to0 (m := G.n) (W := fun x => ∀ J : xIn, kp [(0, 12), (0, 13)] I J → (∀ y, y < x → J (0, 12) y = 0) → V 2 [(0, xr (0, 3)), (1, xi (x : Int))] [] (J, xst c) 0 0) ?_ ?_ I kp.rfl (fun y hy => by omega)
  case refine_2 =>
    intro x hx ih J hJ hL
    refine rg_X1_lowerAll_2 hV J _ ⟨⟨by omega, by omega⟩, fun h => by rw [hJ _ (by simp), g1] at h; omega, fun h => ⟨⟨by omega, by omega⟩, ?_⟩⟩
    rintro _ rfl _ rfl
    refine ih _ ((hJ.xu (by simp)).xu (by simp)) fun y hy => ?_
    rw [xu_p (by decide), xuL, tnN]
    rcases upL_c (J (0, 12)) x 0 y with ⟨e1, e2⟩ | ⟨e1, e2⟩
    · exact e2
    · rw [e2]; exact hL y (by omega)
  intro J hJ hL
  have hbnd : ∀ p, p ≤ G.n → p * (2 * G.m) ≤ 1024 := fun p hp => Nat.mul_le_mul (show p ≤ 16 by omega) (show 2 * G.m ≤ 64 by omega)
  have h0 : BFI G.n (2 * G.m) (BAs G lo hi co f sg2) (GR G lo hi co f) FAR9 (fun _ => true) 0 0 (J (0, 12)) (fun _ => 0) (fun _ => 0) := by
    have := BFI.ini (n := G.n) (M := 2 * G.m) (A := BAs G lo hi co f sg2) (R := GR G lo hi co f) (S0 := fun _ => true) hZ (fun _ => 0)
    refine BFI_cong (fun x hx => ?_) (fun j hj ho => ⟨(hA j hj ho).1, (hA j hj ho).2.1⟩) this
    rw [hL x hx]; rfl
  refine rg_X1_lowerAll_2 hV J _ ⟨⟨by omega, by omega⟩, fun _ => ?_, fun h => by rw [hJ _ (by simp), g1] at h; omega⟩
  refine up_to0 (m := G.n) (W := fun p => ∀ (J : xIn) (via τ : Nat → Nat) (v : Int), kp [(0, 12), (0, 13)] I J → BFI G.n (2 * G.m) (BAs G lo hi co f sg2) (GR G lo hi co f) FAR9 (fun _ => true) (p * (2 * G.m)) 0 (J (0, 12)) via τ → Enc J G.n via τ → (0 < p → ∃ x : Nat, x < G.n ∧ v = (x : Int) ∧ (p - 1) * (2 * G.m) < τ x) → V 34 [(0, xr (0, 3)), (1, xi v), (2, xi (p : Int))] [] (J, xst c) 0 0) ?_ ?_ J (fun _ => 0) (fun _ => 0) (-1) hJ (by rw [Nat.zero_mul]; exact h0) (fun x _ h => absurd h (Nat.lt_irrefl 0)) (fun h => absurd h (Nat.lt_irrefl 0))
  · intro J via τ v hJ hB hE hv
    refine rg_X1_lowerAll_34 hV J _ _ ⟨⟨by omega, by omega⟩, fun _ => ⟨hJ, Or.inr ?_⟩, fun h => by rw [hJ _ (by simp), g1] at h; omega⟩
    obtain ⟨x, x1, x2, x3⟩ := hv (by omega)
    refine ⟨x, (G.n - 1) * (2 * G.m), via, τ, x1, x2, ?_, hE, x3⟩
    have e1 : G.n * (2 * G.m) = (G.n - 1) * (2 * G.m) + 2 * G.m := by
      rw [← Nat.succ_mul, Nat.succ_eq_add_one, Nat.sub_add_cancel hn]
    rw [e1] at hB
    exact hB.unturn
  · intro p hp ih J via τ v hJ hB hE hv
    have hFJ : FR J G := hF.kp hJ (by simp) (by simp) (by simp)
    have hb := hbnd p (by omega)
    refine rg_X1_lowerAll_34 hV J _ _ ⟨⟨by omega, by omega⟩, fun h => by rw [hJ _ (by simp), g1] at h; omega, fun _ => ⟨_, fl_relax hX d hFJ hne (by rw [hJ _ (by simp), e9]) (by rw [hJ _ (by simp), e10]) (by rw [hJ _ (by simp), e8]) (by rw [hJ _ (by simp), e11]) hco (by
      rcases Nat.eq_zero_or_pos p with h | h
      · left; rw [h, Nat.zero_mul]
      · right; have := Nat.mul_le_mul_right (2 * G.m) (show 1 ≤ p from h); omega) (by omega) hB hE, ?_⟩⟩
    rintro v9 K ⟨kK, via9, τ9, hB9, hE9, hl⟩
    have hK := hJ.tr kK
    rcases hl with ⟨q1, q2⟩ | ⟨x, q1, q2, q3⟩
    · refine ⟨⟨by omega, by omega⟩, fun h => absurd q1 h, fun _ => ⟨hK, Or.inl ⟨rfl, ?_, fun x hx => ?_⟩⟩⟩
      · refine PT_of g4 fun u x q hr => ?_
        obtain ⟨i, i1, i2, i3, i4, i5⟩ := BAs_all (sg2_ok g4) hr
        have := hB9.feas hA hZ q2 i1 i2 (hB9.2.2.2.2 _ (hA i i1 i2).1 rfl).1
        rw [i3, i4, i5] at this
        exact this.2
      · have a := (hB9.bd hx).resolve_left (hB9.2.2.2.2 x hx rfl).1
        omega
    · refine ⟨⟨by omega, by omega⟩, fun _ => ?_, fun h => by omega⟩
      refine ih K via9 τ9 v9 hK ?_ hE9 (fun _ => ⟨x, q1, q2, by rw [Nat.add_sub_cancel]; exact q3⟩)
      rw [show (p + 1) * (2 * G.m) = p * (2 * G.m) + 2 * G.m from Nat.succ_mul _ _]
      exact hB9.turn
end CHE
