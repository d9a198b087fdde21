/-! the reference: least costs from a corner, rings -/
theorem c32_ok {m : Nat} (hm : m ≤ 16) : SgOK m 32 c32 := by
  refine ⟨fun j hj => ?_, fun i j hi hj h => ?_, fun σ h1 h2 => ?_⟩
  · unfold c32; split <;> omega
  · unfold c32 at h
    split at h <;> split at h <;> omega
  · have := c32_s (τ := σ) (by omega)
    exact ⟨s16 σ, this.2.1, this.1⟩
def EncR (I : xIn) (n : Nat) (via τ : Nat → Nat) : Prop := ∀ x, x < n → 0 < τ x → I (1, 21) x = (via x : Int)
def MCo (I : xIn) (i m : Nat) (co : Nat → Int) : Prop := ∀ e, e < m → I (1, 7) (16 * i + e) = co e
def srcB (a : Int) (x : Nat) : Bool := decide (a < 0 ∨ (x : Int) = a)
section MCS
variable {X : xX} {c : xCx} {I : xIn} {i : Nat} {G : Gr} {lo hi co f : Nat → Int}
theorem MCo.k9 {J : xIn} {ps : List xP} {m : Nat} (h : MCo I i m co) (hk : kp ps I J) (h7 : (1, 7) ∉ ps) : MCo J i m co := fun e he => by rw [hk _ h7]; exact h e he
theorem ok_costAlong (hX : xBase X) (d : Nat) (hG : GrOK G) (hi4 : i < 4) (hC : MCo I i G.m co) {σ : Nat} (hs : σ < 32) (he : eg (c32 σ) < G.m) : xRet rI X m_X10_costAlong d [xr (1, 0), xi (i : Int), xi (σ : Int)] c I 0 0 (pv (sgn (c32 σ) (co (eg (c32 σ)))) I) xNo := by
  have hm := hG.2.2.1
  refine xRet_of hX pl_X10_costAlong (LE1 rfl) fun V hV => rg_X10_costAlong_0 hV I _ _ ⟨⟨by omega, by omega⟩, fun h => ⟨⟨by omega, by omega⟩, ?_⟩, fun h => ⟨⟨by omega, by omega⟩, ?_⟩⟩
  · obtain ⟨a, b⟩ := c32_b (show ¬ σ < 16 by omega)
    rw [show Int.toNat (16 * (i : Int) + (σ : Int) - 16) = 16 * i + (σ - 16) by omega, hC (σ - 16) (by omega), b, a]
    simp only [sgn, if_neg (show ¬ σ + 16 < 32 by omega)]
    exact pvI rfl
  · obtain ⟨a, b⟩ := c32_f (show σ < 16 by omega)
    rw [tn16, hC σ (by omega), b, a]
    simp only [sgn, if_pos (show σ < 32 by omega)]
    exact pvI rfl
theorem ok_costsFrom (hX : xBase X) (d : Nat) (hG : GrOK G) (hM : MG I i G) (hN : MN I i G.m lo hi) (hC : MCo I i G.m co) (hco : ∀ e, e < G.m → -20 ≤ co e ∧ co e ≤ 20) (e19 : I (1, 19) = f) {a : Int} (ha : xin a) : xRet rI X m_X10_costsFrom (d + 1) [xr (1, 0), xi (i : Int), xi a] c I 0 0 (fun v I9 => kp [(1, 20), (1, 21)] I I9 ∧ ∃ via τ, BFI G.n 32 (BAs G lo hi co f c32) (GR G lo hi co f) 9999 (srcB a) (G.n * 32) 32 (I9 (1, 20)) via τ ∧ EncR I9 G.n via τ ∧ LstOK G.n (G.n * 32) τ v) xNo := by
  obtain ⟨h4, hn9, hm9, hE⟩ := id hM
  have hn8 := hG.2.1
  have hm16 := hG.2.2.1
  have hne : ∀ e, e < G.m → G.u e ≠ G.v e := fun e he => (hG.2.2.2 e he).2.2
  have hA := BAs_ok (lo := lo) (hi := hi) (f := f) hG.in hne hco (c32_ok hm16)
  have hZ : 20 * (G.n : Int) + 20 < 9999 := by omega
  refine xRet_of hX pl_X10_costsFrom (LE1 rfl) fun V hV => rg_X10_costsFrom_0 hV I _ _ ?_
  refine up_to0 (m := G.n) (W := fun x => ∀ J : xIn, kp [(1, 20), (1, 21)] I J → (∀ y, y < x → J (1, 20) y = iniL 9999 (srcB a) y) → V 2 [(0, xr (1, 0)), (1, xi (i : Int)), (2, xi a), (3, xi (x : Int))] [] (J, xst c) 0 0) ?_ ?_ I kp.rfl (fun y hy => by omega)
  case refine_2 =>
    intro x hx ih J hJ hL
    have put : ∀ v : Int, v = iniL 9999 (srcB a) x → V 2 [(0, xr (1, 0)), (1, xi (i : Int)), (2, xi a), (3, xi ((x : Int) + 1))] [] (xu J (1, 20) (Int.toNat (x : Int)) v, xst c) 0 0 := fun v hv => by
      refine ih _ (hJ.xu (by simp)) fun y hy => ?_
      rw [xuL, tnN]
      rcases upL_c (J (1, 20)) x v y with ⟨e1, e2⟩ | ⟨e1, e2⟩
      · rw [e2, e1]; exact hv
      · rw [e2]; exact hL y (by omega)
    refine rg_X10_costsFrom_2 hV J _ _ _ ⟨⟨by omega, by omega⟩, ⟨by omega, by omega⟩, fun h => by rw [hJ _ (by simp), tnN, hn9] at h; omega, fun h => ⟨ha, fun h0 => ⟨⟨by omega, by omega⟩, ?_⟩, fun h0 => ⟨fun h1 => ⟨⟨by omega, by omega⟩, ?_⟩, fun h1 => ⟨⟨by omega, by omega⟩, ?_⟩⟩⟩⟩
    · rintro _ rfl
      exact put 0 (by unfold iniL srcB; rw [if_pos (decide_eq_true (Or.inl h0))])
    · rintro _ rfl
      exact put 9999 (by unfold iniL srcB; rw [if_neg (by rw [decide_eq_true_iff]; rintro (q | q) <;> omega)])
    · rintro _ rfl
      exact put 0 (by unfold iniL srcB; rw [if_pos (decide_eq_true (Or.inr h1))])
  intro J hJ hL
  have h0 : BFI G.n 32 (BAs G lo hi co f c32) (GR G lo hi co f) 9999 (srcB a) 0 0 (J (1, 20)) (fun _ => 0) (fun _ => 0) := BFI_cong hL (fun j hj ho => ⟨(hA j hj ho).1, (hA j hj ho).2.1⟩) (BFI.ini hZ (fun _ => 0))
  refine rg_X10_costsFrom_2 hV J _ _ _ ⟨⟨by omega, by omega⟩, ⟨by omega, by omega⟩, fun _ => ?_, fun h => by rw [hJ _ (by simp), tnN, hn9] at h; omega⟩
  refine up_to0 (m := G.n + 1) (W := fun p => ∀ (J : xIn) (via τ : Nat → Nat) (v : Int), kp [(1, 20), (1, 21)] I J → BFI G.n 32 (BAs G lo hi co f c32) (GR G lo hi co f) 9999 (srcB a) (p * 32) 0 (J (1, 20)) via τ → EncR J G.n via τ → (0 < p → LstOK G.n ((p - 1) * 32) τ v) → V 45 [(0, xr (1, 0)), (1, xi (i : Int)), (3, xi v), (4, xi (p : Int))] [] (J, xst c) 0 0) ?_ ?_ J (fun _ => 0) (fun _ => 0) (-1) hJ (by rw [Nat.zero_mul]; exact h0) (fun x _ h => absurd h (Nat.lt_irrefl 0)) (fun h => absurd h (Nat.lt_irrefl 0))
  · intro J via τ v hJ hB hE9 hv
    refine rg_X10_costsFrom_45 hV J _ _ _ ⟨⟨by omega, by omega⟩, ⟨by omega, by omega⟩, fun _ => ⟨hJ, via, τ, ?_, hE9, ?_⟩, fun h => by rw [hJ _ (by simp), tnN, hn9] at h; omega⟩
    · rw [show (G.n + 1) * 32 = G.n * 32 + 32 from Nat.succ_mul _ _] at hB
      exact hB.unturn
    · have := hv (by omega)
      rw [Nat.add_sub_cancel] at this
      exact this
  · intro p hp ih J via τ v hJ hB hE9 hv
    refine rg_X10_costsFrom_45 hV J _ _ _ ⟨⟨by omega, by omega⟩, ⟨by omega, by omega⟩, fun h => by rw [hJ _ (by simp), tnN, hn9] at h; omega, fun _ => ?_⟩
    refine up_to0 (m := 32) (W := fun j => ∀ (J : xIn) (via τ : Nat → Nat) (v : Int), kp [(1, 20), (1, 21)] I J → BFI G.n 32 (BAs G lo hi co f c32) (GR G lo hi co f) 9999 (srcB a) (p * 32) j (J (1, 20)) via τ → EncR J G.n via τ → LstOK G.n (p * 32) τ v → V 61 [(0, xr (1, 0)), (1, xi (i : Int)), (3, xi v), (4, xi (p : Int)), (5, xi (j : Int))] [] (J, xst c) 0 0) ?_ ?_ J via τ (-1) hJ hB hE9 (Or.inl ⟨rfl, fun x hx => by have := (hB.1 x hx).1; omega⟩)
    · intro J via τ v hJ hB hE9 hv
      refine rg_X10_costsFrom_61 hV J _ _ _ _ ⟨⟨by omega, by omega⟩, fun _ => ih J via τ v hJ ?_ hE9 (fun _ => by rw [Nat.add_sub_cancel]; exact hv), fun h => by omega⟩
      rw [show (p + 1) * 32 = p * 32 + 32 from Nat.succ_mul _ _]
      exact hB.turn
    · intro j hj ih2 J via τ v hJ hB hE9 hv
      have hMJ : MG J i G := hM.k9 hJ (by simp) (by simp) (by simp) (by simp)
      have hNJ : MN J i G.m lo hi := hN.k9 hJ (by simp) (by simp)
      have hCJ : MCo J i G.m co := hC.k9 hJ (by simp)
      have j19 : J (1, 19) = f := by rw [hJ _ (by simp), e19]
      refine rg_X10_costsFrom_61 hV J _ _ _ _ ⟨⟨by omega, by omega⟩, fun h => by omega, fun _ => ⟨_, ok_isOpen hX d hG hMJ hNJ (σ := j) (by omega), ?_⟩⟩
      rintro _ J ⟨rfl, rfl⟩
      rw [j19]
      have ho : opB G lo hi f j = (BAs G lo hi co f c32).o j := rfl
      refine ⟨fun h => ih2 J via τ v hJ (hB.skip fun h2 => by rw [← ho, h] at h2; cases h2) hE9 hv, fun h => ?_⟩
      rw [ho] at h
      obtain ⟨a1, a2, a3, a4, a5⟩ := hA j hj h
      have heg := (of_decide_eq_true h).1
      have hbb : bgn G (c32 j) = (BAs G lo hi co f c32).b j := rfl
      have hee : edn G (c32 j) = (BAs G lo hi co f c32).e j := rfl
      have hcc : sgn (c32 j) (co (eg (c32 j))) = (BAs G lo hi co f c32).c j := rfl
      have hbd := hB.bd a1
      have hp32 : p * 32 ≤ 256 := Nat.mul_le_mul (show p ≤ 8 by omega) (Nat.le_refl 32)
      refine ⟨_, ok_begin hX d hG hMJ (σ := j) (by omega) heg, ?_⟩
      rintro _ J ⟨rfl, rfl⟩
      rw [hbb, tnN]
      refine ⟨⟨by omega, by omega⟩, fun h9 => ih2 J via τ v hJ (hB.skip fun _ hz => by omega) hE9 hv, fun h9 => ⟨_, ok_begin hX d hG hMJ (σ := j) (by omega) heg, ?_⟩⟩
      rintro _ J ⟨rfl, rfl⟩
      rw [hbb]
      refine ⟨⟨by omega, by omega⟩, _, ok_costAlong hX d hG h4 hCJ (by omega) heg, ?_⟩
      rintro _ J ⟨rfl, rfl⟩
      rw [hcc]
      refine ⟨_, ok_end hX d hG hMJ (σ := j) (by omega) heg, ?_⟩
      rintro _ J ⟨rfl, rfl⟩
      rw [hee, tnN, tnN]
      refine ⟨⟨by omega, by omega⟩, ⟨by omega, by omega⟩, fun h8 => ih2 J via τ v hJ (hB.skip fun _ _ => h8) hE9 hv, fun h8 => ⟨_, ok_end hX d hG hMJ (σ := j) (by omega) heg, ?_⟩⟩
      have hz : J (1, 20) ((BAs G lo hi co f c32).b j) ≠ 9999 := by omega
      have hB9 := hB.put hA hZ (by omega) hj h hz h8
      rintro _ J ⟨rfl, rfl⟩
      rw [hee]
      refine ⟨_, ok_begin hX d hG hMJ (σ := j) (by omega) heg, ?_⟩
      rintro _ J ⟨rfl, rfl⟩
      rw [hbb]
      refine ⟨⟨by omega, by omega⟩, _, ok_costAlong hX d hG h4 hCJ (by omega) heg, ?_⟩
      rintro _ J ⟨rfl, rfl⟩
      rw [hcc, tnN, tnN]
      refine ⟨⟨by omega, by omega⟩, ⟨by omega, by omega⟩, ?_⟩
      rintro K rfl
      have hK1 : kp [(1, 20), (1, 21)] I (xu J (1, 20) ((BAs G lo hi co f c32).e j) (J (1, 20) ((BAs G lo hi co f c32).b j) + (BAs G lo hi co f c32).c j)) := hJ.xu (by simp)
      have k20 : (xu J (1, 20) ((BAs G lo hi co f c32).e j) (J (1, 20) ((BAs G lo hi co f c32).b j) + (BAs G lo hi co f c32).c j)) (1, 20) = upL (J (1, 20)) ((BAs G lo hi co f c32).e j) (J (1, 20) ((BAs G lo hi co f c32).b j) + (BAs G lo hi co f c32).c j) := xuL
      have k21 : (xu J (1, 20) ((BAs G lo hi co f c32).e j) (J (1, 20) ((BAs G lo hi co f c32).b j) + (BAs G lo hi co f c32).c j)) (1, 21) = J (1, 21) := xu_p (by decide)
      generalize xu J (1, 20) ((BAs G lo hi co f c32).e j) (J (1, 20) ((BAs G lo hi co f c32).b j) + (BAs G lo hi co f c32).c j) = K at hK1 k20 k21 ⊢
      refine ⟨_, ok_end hX d hG (hM.k9 hK1 (by simp) (by simp) (by simp) (by simp)) (σ := j) (by omega) heg, ?_⟩
      rintro _ K ⟨rfl, rfl⟩
      rw [hee]
      refine ⟨⟨by omega, by omega⟩, ?_⟩
      rintro N rfl
      rw [tnN]
      have hN1 : kp [(1, 20), (1, 21)] I (xu K (1, 21) ((BAs G lo hi co f c32).e j) (j : Int)) := hK1.xu (by simp)
      have n20 : (xu K (1, 21) ((BAs G lo hi co f c32).e j) (j : Int)) (1, 20) = K (1, 20) := xu_p (by decide)
      have n21 : (xu K (1, 21) ((BAs G lo hi co f c32).e j) (j : Int)) (1, 21) = upL (K (1, 21)) ((BAs G lo hi co f c32).e j) (j : Int) := xuL
      generalize xu K (1, 21) ((BAs G lo hi co f c32).e j) (j : Int) = N at hN1 n20 n21 ⊢
      refine ⟨_, ok_end hX d hG (hM.k9 hN1 (by simp) (by simp) (by simp) (by simp)) (σ := j) (by omega) heg, ?_⟩
      rintro _ N ⟨rfl, rfl⟩
      rw [hee]
      refine ih2 N (upN via ((BAs G lo hi co f c32).e j) j) (upN τ ((BAs G lo hi co f c32).e j) (p * 32 + j + 1)) _ hN1 (by rw [n20, k20]; exact hB9) ?_ (Or.inr ⟨_, a2, rfl, by rw [upN_s]; omega⟩)
      intro x hx ht
      rw [n21, k21]
      rcases upL_c (J (1, 21)) ((BAs G lo hi co f c32).e j) (j : Int) x with ⟨q1, q2⟩ | ⟨q1, q2⟩
      · rw [q2, q1, upN_s]
      · rw [q2, upN_n q1]
        rw [upN_n q1] at ht
        exact hE9 x hx ht
/-- a ring is turned by what it lets -/
theorem ok_turnsRound (hX : xBase X) (d : Nat) (hG : GrOK G) (hM : MG I i G) (hN : MN I i G.m lo hi) (hb : ∀ e, e < G.m → -200 ≤ lo e ∧ hi e ≤ 200) (hf : ∀ e, e < G.m → lo e ≤ I (1, 19) e ∧ I (1, 19) e ≤ hi e) {u sg : Nat → Nat} {l : Nat} (h1 : ∀ k, u k < G.n ∧ I (1, 21) (u k) = (sg k : Int) ∧ eg (c32 (sg k)) < G.m ∧ sg k < 32 ∧ u (k + 1) = bgn G (c32 (sg k))) (hl1 : 1 ≤ l) (hl2 : l ≤ G.n) (hl3 : u (G.n + l) = u G.n) (hl4 : ∀ k, 1 ≤ k → k < l → u (G.n + k) ≠ u G.n) (hap : ∀ k j, k < l → j < l → eg (c32 (sg (G.n + k))) = eg (c32 (sg (G.n + j))) → k = j) (hop : ∀ k, k < l → 0 < rsp lo hi (I (1, 19)) (c32 (sg (G.n + k)))) : xRet rU X m_X10_turnsRound (d + 1) [xr (1, 0), xi (i : Int), xi (u 0 : Int)] c I 0 0 (fun _ I9 => kp [(1, 19)] I I9 ∧ I9 (1, 19) = ap (I (1, 19)) (fun k => c32 (sg (G.n + k))) (mw 1000 (fun k => rsp lo hi (I (1, 19)) (c32 (sg (G.n + k)))) l) l) xNo := by
  obtain ⟨h4, hn9, hm9, hE⟩ := id hM
  have hn8 := hG.2.1
  have hm16 := hG.2.2.1
  generalize hR : mw 1000 (fun k => rsp lo hi (I (1, 19)) (c32 (sg (G.n + k)))) l = R
  have hR1 : 1 ≤ R := by rw [← hR]; exact mw_ge (by omega) fun k hk => hop k hk
  have hR2 : R ≤ 1000 := by rw [← hR]; exact mw_le.1
  have hrs : ∀ k, rsp lo hi (I (1, 19)) (c32 (sg (G.n + k))) ≤ 400 ∧ 0 ≤ rsp lo hi (I (1, 19)) (c32 (sg (G.n + k))) := fun k => by
    obtain ⟨-, -, a3, -, -⟩ := h1 (G.n + k)
    unfold eg at a3
    unfold rsp
    split at a3
    · rename_i c1; rw [if_pos c1]; have := hb _ a3; have := hf _ a3; omega
    · rename_i c1; rw [if_neg c1]; have := hb _ a3; have := hf _ a3; omega
  have hmw : ∀ k, -400 ≤ mw 1000 (fun k => rsp lo hi (I (1, 19)) (c32 (sg (G.n + k)))) k ∧ mw 1000 (fun k => rsp lo hi (I (1, 19)) (c32 (sg (G.n + k)))) k ≤ 1000 := fun k => ⟨mw_ge (by omega) fun j _ => by have := hrs j; omega, mw_le.1⟩
  have hun : ∀ k, u k < 8 := fun k => by have := (h1 k).1; omega
  refine xRet_of hX pl_X10_turnsRound (LE1 rfl) fun V hV => rg_X10_turnsRound_0 hV I _ _ ?_
  -- the second round
  have ring2 : ∀ fuel k, l ≤ k + fuel → ∀ J, kp [(1, 19)] I J → J (1, 19) = ap (I (1, 19)) (fun k => c32 (sg (G.n + k))) R k → k < l → V 149 [(0, xr (1, 0)), (1, xi (i : Int)), (3, xi (u (G.n + k) : Int)), (4, xi (u G.n : Int)), (5, xi R), (6, xi 1)] [] (J, xst c) 0 0 := by
    intro fuel
    induction fuel with
    | zero => intro k h1 J _ _ h2; omega
    | succ fuel ih =>
      intro k hk J kJ jq hlt
      obtain ⟨a1, a2, a3, a4, a5⟩ := h1 (G.n + k)
      have b1 := hun (G.n + k)
      have b2 := hun (G.n + k + 1)
      have b3 := hun G.n
      have hMJ : MG J i G := hM.k9 kJ (by simp) (by simp) (by simp) (by simp)
      have j21 : J (1, 21) (u (G.n + k)) = (sg (G.n + k) : Int) := by rw [kJ (1, 21) (by simp)]; exact a2
      have hold : J (1, 19) (eg (c32 (sg (G.n + k)))) = I (1, 19) (eg (c32 (sg (G.n + k)))) := by
        rw [jq]
        exact ap_off fun j hj he => by have := hap j k (by omega) hlt he; omega
      have hb1 := hb _ a3
      have hf1 := hf _ a3
      have hsg : (sg (G.n + k)) % 16 = eg (c32 (sg (G.n + k))) ∧ ∀ z, sgn (c32 (sg (G.n + k))) z = if sg (G.n + k) < 16 then z else -z := by
        by_cases hc : sg (G.n + k) < 16
        · obtain ⟨p, q⟩ := c32_f hc
          refine ⟨by rw [q]; omega, fun z => ?_⟩
          rw [if_pos hc, p]
          unfold sgn
          rw [if_pos (by omega)]
        · obtain ⟨p, q⟩ := c32_b hc
          refine ⟨by rw [q]; omega, fun z => ?_⟩
          rw [if_neg hc, p]
          unfold sgn
          rw [if_neg (by omega)]
      have hstep : ∀ z : Int, z = sgn (c32 (sg (G.n + k))) R → V 188 [(0, xr (1, 0)), (1, xi (i : Int)), (4, xi (u G.n : Int)), (5, xi R), (7, xi (sg (G.n + k) : Int))] [xi z, xi (J (1, 19) (eg (c32 (sg (G.n + k))))), xi (eg (c32 (sg (G.n + k))) : Int), xr (1, 19)] (J, xst c) 0 0 := by
        intro z hz
        have hzb : -1000 ≤ z ∧ z ≤ 1000 := by rw [hz, hsg.2]; split <;> omega
        refine rg_X10_turnsRound_188 hV J _ _ _ _ _ _ _ ⟨⟨by omega, by omega⟩, ⟨by omega, by omega⟩, ?_⟩
        rintro K rfl
        rw [tnN]
        have hK1 : kp [(1, 19)] I (xu J (1, 19) (eg (c32 (sg (G.n + k)))) (J (1, 19) (eg (c32 (sg (G.n + k)))) + z)) := kJ.xu (by simp)
        have k19 : (xu J (1, 19) (eg (c32 (sg (G.n + k)))) (J (1, 19) (eg (c32 (sg (G.n + k)))) + z)) (1, 19) = ap (I (1, 19)) (fun k => c32 (sg (G.n + k))) R (k + 1) := by
          rw [xuL, jq, hz]; rfl
        generalize xu J (1, 19) (eg (c32 (sg (G.n + k)))) (J (1, 19) (eg (c32 (sg (G.n + k)))) + z) = K at hK1 k19 ⊢
        refine ⟨_, ok_begin hX d hG (hM.k9 hK1 (by simp) (by simp) (by simp) (by simp)) a4 a3, ?_⟩
        rintro _ K ⟨rfl, rfl⟩
        rw [← a5]
        refine ⟨⟨by omega, by omega⟩, ⟨by omega, by omega⟩, fun heq => ?_, fun hne => ?_⟩
        · have hkl : k + 1 = l := by
            by_cases hc : k + 1 = l
            · exact hc
            · exact absurd (show u (G.n + (k + 1)) = u G.n by rw [show G.n + (k + 1) = G.n + k + 1 by omega]; omega) (hl4 (k + 1) (by omega) (by omega))
          refine rg_X10_turnsRound_149 hV K _ _ _ _ _ ⟨⟨by decide, by decide⟩, fun _ => ⟨hK1, by rw [k19, hkl]⟩, fun h => absurd rfl h⟩
        · have hkl : k + 1 < l := by
            by_cases hc : k + 1 = l
            · exfalso
              apply hne
              rw [show G.n + k + 1 = G.n + l by omega, hl3]
            · omega
          exact ih (k + 1) (by omega) K hK1 k19 hkl
      refine rg_X10_turnsRound_149 hV J _ _ _ _ _ ⟨⟨by decide, by decide⟩, fun h => absurd h (by decide), fun _ => ⟨⟨by omega, by omega⟩, ?_⟩⟩
      rintro _ rfl
      rw [tnN, j21]
      have hmod : ((sg (G.n + k) : Nat) : Int) % 16 = ((eg (c32 (sg (G.n + k))) : Nat) : Int) := by rw [← hsg.1]; omega
      rw [hmod, tnN]
      refine ⟨⟨by omega, by omega⟩, ⟨by omega, by omega⟩, fun h => hstep _ ?_, fun h => hstep _ ?_⟩
      · rw [hsg.2, if_neg (by omega)]
      · rw [hsg.2, if_pos (by omega)]
  -- the first round
  have ring1 : ∀ fuel k, l ≤ k + fuel → k < l → V 45 [(0, xr (1, 0)), (1, xi (i : Int)), (3, xi (u (G.n + k) : Int)), (4, xi (u G.n : Int)), (5, xi (mw 1000 (fun k => rsp lo hi (I (1, 19)) (c32 (sg (G.n + k)))) k)), (6, xi 1)] [] (I, xst c) 0 0 := by
    intro fuel
    induction fuel with
    | zero => intro k h1 h2; omega
    | succ fuel ih =>
      intro k hk hlt
      obtain ⟨a1, a2, a3, a4, a5⟩ := h1 (G.n + k)
      have b1 := hun (G.n + k)
      have b2 := hun (G.n + k + 1)
      have b3 := hun G.n
      have hrk := hrs k
      have hmk := hmw k
      have hstep : V 117 [(0, xr (1, 0)), (1, xi (i : Int)), (4, xi (u G.n : Int)), (7, xi (sg (G.n + k) : Int))] [xi (rsp lo hi (I (1, 19)) (c32 (sg (G.n + k)))), xi (mw 1000 (fun k => rsp lo hi (I (1, 19)) (c32 (sg (G.n + k)))) k)] (I, xst c) 0 0 := by
        refine rg_X10_turnsRound_117 hV I _ _ _ _ _ ⟨_, ok_min hX d ⟨by omega, by omega⟩ ⟨by omega, by omega⟩, ?_⟩
        rintro v3 K ⟨e3, rfl⟩
        have e3 : v3 = mw 1000 (fun k => rsp lo hi (K (1, 19)) (c32 (sg (G.n + k)))) (k + 1) := by
          rw [e3, mw]
          split <;> omega
        refine ⟨_, ok_begin hX d hG hM a4 a3, ?_⟩
        rintro _ K ⟨rfl, rfl⟩
        rw [← a5]
        refine ⟨⟨by omega, by omega⟩, ⟨by omega, by omega⟩, fun heq => ?_, fun hne => ?_⟩
        · have hkl : k + 1 = l := by
            by_cases hc : k + 1 = l
            · exact hc
            · exact absurd (show u (G.n + (k + 1)) = u G.n by rw [show G.n + (k + 1) = G.n + k + 1 by omega]; omega) (hl4 (k + 1) (by omega) (by omega))
          rw [hkl, hR] at e3
          refine rg_X10_turnsRound_45 hV K _ _ _ _ _ ⟨⟨by decide, by decide⟩, fun _ => ?_, fun h => absurd rfl h⟩
          rw [heq, e3]
          exact ring2 l 0 (by omega) K kp.rfl rfl (by omega)
        · have hkl : k + 1 < l := by
            by_cases hc : k + 1 = l
            · exfalso
              apply hne
              rw [show G.n + k + 1 = G.n + l by omega, hl3]
            · omega
          rw [e3]
          exact ih (k + 1) (by omega) hkl
      refine rg_X10_turnsRound_45 hV I _ _ _ _ _ ⟨⟨by decide, by decide⟩, fun h => absurd h (by decide), fun _ => ⟨⟨by omega, by omega⟩, ?_⟩⟩
      rintro _ rfl
      rw [tnN, a2]
      refine ⟨⟨by omega, by omega⟩, fun h => ?_, fun h => ?_⟩
      · obtain ⟨p, q⟩ := c32_b (show ¬ sg (G.n + k) < 16 by omega)
        rw [q] at a3
        have hmod : ((sg (G.n + k) : Nat) : Int) % 16 = ((sg (G.n + k) - 16 : Nat) : Int) := by omega
        rw [hmod, tn16, tnN, (hN _ a3).1]
        have e1 : I (1, 19) (sg (G.n + k) - 16) - lo (sg (G.n + k) - 16) = rsp lo hi (I (1, 19)) (c32 (sg (G.n + k))) := by
          rw [p]
          unfold rsp
          rw [if_neg (by omega), show sg (G.n + k) + 16 - 32 = sg (G.n + k) - 16 by omega]
        rw [e1]
        exact ⟨⟨by omega, by omega⟩, ⟨by omega, by omega⟩, hstep⟩
      · obtain ⟨p, q⟩ := c32_f (show sg (G.n + k) < 16 by omega)
        rw [q] at a3
        have hmod : ((sg (G.n + k) : Nat) : Int) % 16 = ((sg (G.n + k) : Nat) : Int) := by omega
        rw [hmod, tn16, tnN, (hN _ a3).2]
        have e1 : hi (sg (G.n + k)) - I (1, 19) (sg (G.n + k)) = rsp lo hi (I (1, 19)) (c32 (sg (G.n + k))) := by
          rw [p]
          unfold rsp
          rw [if_pos (by omega)]
        rw [e1]
        exact ⟨⟨by omega, by omega⟩, ⟨by omega, by omega⟩, hstep⟩
  -- the way back
  refine up_to0 (m := G.n) (W := fun k => V 5 [(0, xr (1, 0)), (1, xi (i : Int)), (3, xi (u k : Int)), (4, xi (k : Int))] [] (I, xst c) 0 0) ?_ ?_
  · refine rg_X10_turnsRound_5 hV I _ _ _ ⟨⟨by omega, by omega⟩, ⟨by omega, by omega⟩, fun _ => ?_, fun h => by rw [tnN, hn9] at h; omega⟩
    exact ring1 l 0 (by omega) (by omega)
  · intro k hk ih
    obtain ⟨a1, a2, a3, a4, a5⟩ := h1 k
    have b1 := hun k
    refine rg_X10_turnsRound_5 hV I _ _ _ ⟨⟨by omega, by omega⟩, ⟨by omega, by omega⟩, fun h => by rw [tnN, hn9] at h; omega, fun _ => ⟨⟨by omega, by omega⟩, ?_⟩⟩
    rw [tnN, a2]
    refine ⟨_, ok_begin hX d hG hM a4 a3, ?_⟩
    rintro _ K ⟨rfl, rfl⟩
    rw [← a5]
    exact ih
end MCS
