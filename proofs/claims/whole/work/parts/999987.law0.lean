/-! what both sides hold -/
abbrev St9 : Type := NT × (Nat → Nat) × LG × PJ × TB
abbrev St9.T (σ : St9) : NT := σ.1
abbrev St9.K (σ : St9) : Nat → Nat := σ.2.1
abbrev St9.L (σ : St9) : LG := σ.2.2.1
abbrev St9.P (σ : St9) : PJ := σ.2.2.2.1
abbrev St9.B (σ : St9) : TB := σ.2.2.2.2
def SK (σ : St9) : Prop := NTok σ.T ∧ LKok σ.K ∧ LGok σ.L ∧ PJok σ.P ∧ TBok σ.B
def CC (I : xIn) (c : xCx) (σ : St9) : Prop := CI I c σ.T ∧ CL I σ.K ∧ CLG I σ.L ∧ CPJ I σ.P ∧ CTB I σ.B
def MM (I : xIn) (σ : St9) : Prop := MI I σ.T ∧ ML I σ.K ∧ MLG I σ.L ∧ MPJ I σ.P ∧ MTB I σ.B
def sm1 (I J : xIn) : Prop := ∀ p : xP, p.1 = 1 → J p = I p
def smN (I J : xIn) : Prop := ∀ p : xP, p.1 ≠ 1 → J p = I p
section FRM
variable {I J : xIn} {c : xCx} {σ : St9}
theorem CI.fr {c9 : xCx} {T : NT} (h : CI I c T) (h0 : J (0, 0) = I (0, 0)) (h3 : ∀ i j, J (i + 3, j) = I (i + 3, j)) (hc : c9.1 = c.1) : CI J c9 T := by
  obtain ⟨a1, a2, a3⟩ := h
  refine ⟨hc.trans a1, by rw [h0]; exact a2, fun i hi => ?_⟩
  have := a3 i hi
  unfold CG at *
  simp only [h3, hc]
  exact this
theorem CL.fr {lk : Nat → Nat} (h : CL I lk) (h1 : J (0, 21) = I (0, 21)) : CL J lk := fun k hk => by rw [h1]; exact h k hk
theorem CLG.fr {L : LG} (h : CLG I L) (h1 : J (0, 24) = I (0, 24)) (h2 : J (0, 25) = I (0, 25)) (h3 : J (0, 26) = I (0, 26)) : CLG J L := by
  unfold CLG at *
  rw [h1, h2, h3]
  exact h
theorem CPJ.fr {P : PJ} (h : CPJ I P) (h0 : J (0, 32) 0 = I (0, 32) 0) (h1 : J (0, 33) = I (0, 33)) (h2 : J (0, 34) = I (0, 34)) (h3 : J (0, 35) = I (0, 35)) : CPJ J P := by
  unfold CPJ at *
  rw [h0, h1, h2, h3]
  exact h
theorem CTB.fr {B : TB} (h : CTB I B) (h0 : J (0, 27) 0 = I (0, 27) 0) (h1 : J (0, 27) 1 = I (0, 27) 1) (h2 : J (0, 28) = I (0, 28)) : CTB J B := by
  unfold CTB at *
  rw [h0, h1, h2]
  exact h
theorem CC.keep (h : CC I c σ) (hk : keepC I J) : CC J c σ := by
  have hp : ∀ p : xP, scrC.contains p = false → p ≠ (0, 27) → p ≠ (0, 32) → J p = I p := fun p h1 h2 h3 => hk.1 p (by intro z; rw [List.contains_iff_mem.mpr z] at h1; cases h1) h2 h3
  exact ⟨h.1.keep hk, h.2.1.fr (hp _ rfl (by decide) (by decide)), h.2.2.1.fr (hp _ rfl (by decide) (by decide)) (hp _ rfl (by decide) (by decide)) (hp _ rfl (by decide) (by decide)), h.2.2.2.1.keep hk, h.2.2.2.2.fr (hk.2.1 0 (by decide)) (hk.2.1 1 (by decide)) (hp _ rfl (by decide) (by decide))⟩
theorem CC.sm {c9 : xCx} (h : CC I c σ) (hs : smN I J) (hc : c9.1 = c.1) : CC J c9 σ :=
  ⟨h.1.fr (hs _ (by decide)) (fun i j => hs _ (by show i + 3 ≠ 1; omega)) hc, h.2.1.fr (hs _ (by decide)), h.2.2.1.fr (hs _ (by decide)) (hs _ (by decide)) (hs _ (by decide)), h.2.2.2.1.fr (by rw [hs _ (by decide)]) (hs _ (by decide)) (hs _ (by decide)) (hs _ (by decide)), h.2.2.2.2.fr (by rw [hs _ (by decide)]) (by rw [hs _ (by decide)]) (hs _ (by decide))⟩
theorem MI.fr {T : NT} (h : MI I T) (h0 : J (1, 0) 0 = I (1, 0) 0) (hr : ∀ j, 1 ≤ j → j ≤ 8 → J (1, j) = I (1, j)) : MI J T := by
  unfold MI MG MN at *
  rw [h0, hr 1 (by decide) (by decide), hr 2 (by decide) (by decide), hr 3 (by decide) (by decide), hr 4 (by decide) (by decide), hr 5 (by decide) (by decide), hr 6 (by decide) (by decide), hr 7 (by decide) (by decide), hr 8 (by decide) (by decide)]
  exact h
theorem ML.fr {lk : Nat → Nat} (h : ML I lk) (h1 : J (1, 9) = I (1, 9)) : ML J lk := fun k hk => by rw [h1]; exact h k hk
theorem MLG.fr {L : LG} (h : MLG I L) (h1 : J (1, 0) 10 = I (1, 0) 10) (h2 : J (1, 10) = I (1, 10)) (h3 : J (1, 11) = I (1, 11)) : MLG J L := by
  unfold MLG at *
  rw [h1, h2, h3]
  exact h
theorem MPJ.fr {P : PJ} (h : MPJ I P) (h0 : J (1, 0) 17 = I (1, 0) 17) (h1 : J (1, 14) = I (1, 14)) (h2 : J (1, 15) = I (1, 15)) (h3 : J (1, 16) = I (1, 16)) : MPJ J P := by
  unfold MPJ at *
  rw [h0, h1, h2, h3]
  exact h
theorem MTB.fr {B : TB} (h : MTB I B) (h0 : J (1, 0) 13 = I (1, 0) 13) (h1 : J (1, 0) 14 = I (1, 0) 14) (h2 : J (1, 12) = I (1, 12)) : MTB J B := by
  unfold MTB at *
  rw [h0, h1, h2]
  exact h
theorem MM.sm (h : MM I σ) (hs : sm1 I J) : MM J σ :=
  ⟨h.1.fr (by rw [hs _ rfl]) (fun j _ _ => hs _ rfl), h.2.1.fr (hs _ rfl), h.2.2.1.fr (by rw [hs _ rfl]) (hs _ rfl) (hs _ rfl), h.2.2.2.1.fr (by rw [hs _ rfl]) (hs _ rfl) (hs _ rfl) (hs _ rfl), h.2.2.2.2.fr (by rw [hs _ rfl]) (by rw [hs _ rfl]) (hs _ rfl)⟩
theorem MM.g (h : MM I σ) (hr : ∀ j, 1 ≤ j → j ≤ 16 → j ≠ 13 → J (1, j) = I (1, j)) (hf : ∀ k, k ≠ 27 → k ≠ 28 → k ≠ 32 → J (1, 0) k = I (1, 0) k) : MM J σ :=
  ⟨h.1.fr (hf _ (by decide) (by decide) (by decide)) (fun j h1 h2 => hr j h1 (by omega) (by omega)), h.2.1.fr (hr _ (by decide) (by decide) (by decide)), h.2.2.1.fr (hf _ (by decide) (by decide) (by decide)) (hr _ (by decide) (by decide) (by decide)) (hr _ (by decide) (by decide) (by decide)), h.2.2.2.1.fr (hf _ (by decide) (by decide) (by decide)) (hr _ (by decide) (by decide) (by decide)) (hr _ (by decide) (by decide) (by decide)) (hr _ (by decide) (by decide) (by decide)), h.2.2.2.2.fr (hf _ (by decide) (by decide) (by decide)) (hf _ (by decide) (by decide) (by decide)) (hr _ (by decide) (by decide) (by decide))⟩
theorem MM.keep (h : MM I σ) (hk : keepM I J) : MM J σ := h.g (fun j h1 h2 _ => hk.1 _ (Or.inr ⟨h1, h2⟩)) hk.2
theorem keepC.s1 (h : keepC I J) : sm1 I J := by
  intro p hp
  refine h.1 p ?_ ?_ ?_
  · intro z
    have : scrC.all (fun q => q.1 != 1) = true := by decide
    have := List.all_eq_true.mp this p z
    rw [hp] at this
    cases this
  · rintro rfl; cases hp
  · rintro rfl; cases hp
theorem keepM.sN (h : keepM I J) : smN I J := fun p hp => h.1 p (Or.inl hp)
theorem keepR.sN (h : keepR I J) : smN I J := fun p hp => h.1 p (Or.inl hp)
theorem kp.s1 {ps : List xP} (h : kp ps I J) (hs : (ps.all fun q => q.1 == 0) = true) : sm1 I J := by
  intro p hp
  refine h p (fun z => ?_)
  have := List.all_eq_true.mp hs p z
  rw [hp] at this
  cases this
theorem kp.sN {ps : List xP} (h : kp ps I J) (hs : (ps.all fun q => q.1 == 1) = true) : smN I J := by
  intro p hp
  refine h p (fun z => ?_)
  have := List.all_eq_true.mp hs p z
  exact hp (by simpa using this)
theorem kp.n3 {ps : List xP} (h : kp ps I J) (hs : (ps.all fun q => q.1 == 0) = true) (i j : Nat) : J (i + 3, j) = I (i + 3, j) := by
  refine h _ (fun z => ?_)
  have := List.all_eq_true.mp hs _ z
  simp at this
theorem kp.at {ps : List xP} (h : kp ps I J) (p : xP) (hp : ps.contains p = false) : J p = I p := h p (by intro z; rw [List.contains_iff_mem.mpr z] at hp; cases hp)
/-- the class's state after a call, the answer by F -/
def cN (I : xIn) (c : xCx) (σ : St9) (J : xIn) : Prop := sm1 I J ∧ CC J c σ
def mN9 (I : xIn) (σ : St9) (J : xIn) : Prop := smN I J ∧ MM J σ
theorem cN.k (h : CC I c σ) (hk : keepC I J) : cN I c σ J := ⟨hk.s1, h.keep hk⟩
theorem cN.e (h : CC I c σ) (hk : J = I) : cN I c σ J := by subst hk; exact ⟨fun _ _ => rfl, h⟩
theorem mN9.k (h : MM I σ) (hk : keepM I J) : mN9 I σ J := ⟨hk.sN, h.keep hk⟩
end FRM
theorem exN.L {e : String} {k : Int} (h : exN e k) : exL [xIOB, xIAE, xNSE] e k := by
  rcases h with ⟨rfl, rfl⟩ | ⟨rfl, rfl⟩ | ⟨rfl, rfl⟩
  · exact ⟨0, rfl, rfl⟩
  · exact ⟨1, rfl, rfl⟩
  · exact ⟨2, rfl, rfl⟩
theorem tableA_ok {B : TB} (h : TBok B) (m w : Int) : TBok (tableA B m w).2 := by
  unfold tableA
  split
  · rename_i hb
    exact ⟨⟨by show 1 ≤ Int.toNat m; omega, by show Int.toNat m ≤ 4; omega⟩, ⟨by show 1 ≤ Int.toNat w; omega, by show Int.toNat w ≤ 4; omega⟩, fun p _ => ⟨by show (0 : Int) ≤ 0; omega, by show (0 : Int) ≤ 999; omega⟩⟩
  · exact h
theorem tellA_ok {B : TB} (h : TBok B) (a b v : Int) : TBok (tellA B a b v).2 := by
  unfold tellA
  split
  · split
    · rename_i hv
      refine ⟨h.1, h.2.1, fun p hp => ?_⟩
      show 0 ≤ upL B.te (plP B a b) v p ∧ upL B.te (plP B a b) v p ≤ 999
      unfold upL
      split
      · exact hv
      · exact h.2.2 p hp
    · exact h
  · exact h
/-! what the law's own parts answer: a code, and the answer in its row -/
def wPost (c : xCx) (k : Int) (O : xCx → Prop) (C : xIn → xCx → Prop) : xO → xS → Prop := fun o h9 => ∃ (I9 : xIn) (c9 : xCx), h9 = (I9, xst c9) ∧ o = .inl (some (xi k)) ∧ (k = 0 → O c9) ∧ (∀ p : xP, p.1 < 3 → c9.2.2.2 p = c.2.2.2 p) ∧ C I9 c9
def blV : Bool → Int64
  | true => Int64.ofNat ((1 : Fin 2) : Nat)
  | false => Int64.ofNat ((0 : Fin 2) : Nat)
theorem ok_thrown {X : xX} {c : xCx} {I : xIn} (hX : xBase X) (d : Nat) : xRet rI X m_X10_thrown d [xr (1, 0)] c I 0 0 (fun v J => J = I ∧ v = I (1, 0) 32) xNo :=
  xRet_of hX pl_X10_thrown (LE1 rfl) fun V hV => rg_X10_thrown_0 hV I ⟨rfl, rfl⟩
/-! net(n) by the reference -/
theorem MI.add {I J : xIn} {T : NT} (h : MI I T) (hT : NTok T) (h4 : T.N ≠ 4) {n : Nat} (hn8 : n ≤ 8) (h0 : J (1, 0) 0 = (T.N : Int) + 1) (h1 : J (1, 1) T.N = (n : Int)) (h1b : ∀ k, k ≠ T.N → J (1, 1) k = I (1, 1) k) (hr : ∀ j, 2 ≤ j → j ≤ 8 → J (1, j) = I (1, j)) : MI J (T.add n) := by
  obtain ⟨a1, a2, a3⟩ := h
  have hN := hT.1
  have r2 := hr 2 (by decide) (by decide)
  have r3 := hr 3 (by decide) (by decide)
  have r4 := hr 4 (by decide) (by decide)
  have r5 := hr 5 (by decide) (by decide)
  have r6 := hr 6 (by decide) (by decide)
  have r7 := hr 7 (by decide) (by decide)
  have r8 := hr 8 (by decide) (by decide)
  refine ⟨by rw [h0]; show _ = ((T.N + 1 : Nat) : Int); omega, fun k hk hkN => ?_, fun j hj => ?_⟩
  · have hkN : T.N + 1 ≤ k := hkN
    rw [h1b k (by omega), r2, r8]
    exact a2 k hk (by omega)
  · have hj : j < T.N + 1 := hj
    by_cases hji : j = T.N
    · subst hji
      obtain ⟨z1, z2, z3⟩ := a2 T.N (by omega) (Nat.le_refl _)
      show MG J T.N (upN T.G T.N (n, 0, fun _ => 0, fun _ => 0) T.N) ∧ MN J T.N (upN T.G T.N (n, 0, fun _ => 0, fun _ => 0) T.N).m (upN T.lo T.N (fun _ => 0) T.N) (upN T.hi T.N (fun _ => 0) T.N) ∧ (∀ e, e < (upN T.G T.N (n, 0, fun _ => 0, fun _ => 0) T.N).m → J (1, 7) (16 * T.N + e) = upN T.co T.N (fun _ => 0) T.N e) ∧ ∀ x, x < (upN T.G T.N (n, 0, fun _ => 0, fun _ => 0) T.N).n → J (1, 8) (8 * T.N + x) = upN T.su T.N (fun _ => 0) T.N x
      rw [upN_s, upN_s, upN_s, upN_s, upN_s]
      refine ⟨⟨by omega, h1, by rw [r2, z2]; rfl, fun e he => absurd he (Nat.not_lt_zero _)⟩, fun e he => absurd he (Nat.not_lt_zero _), fun e he => absurd he (Nat.not_lt_zero _), fun x hx => ?_⟩
      rw [r8]
      exact z3 x (by have hx : x < n := hx; omega)
    · show MG J j (upN T.G T.N (n, 0, fun _ => 0, fun _ => 0) j) ∧ MN J j (upN T.G T.N (n, 0, fun _ => 0, fun _ => 0) j).m (upN T.lo T.N (fun _ => 0) j) (upN T.hi T.N (fun _ => 0) j) ∧ (∀ e, e < (upN T.G T.N (n, 0, fun _ => 0, fun _ => 0) j).m → J (1, 7) (16 * j + e) = upN T.co T.N (fun _ => 0) j e) ∧ ∀ x, x < (upN T.G T.N (n, 0, fun _ => 0, fun _ => 0) j).n → J (1, 8) (8 * j + x) = upN T.su T.N (fun _ => 0) j x
      rw [upN_n hji, upN_n hji, upN_n hji, upN_n hji, upN_n hji]
      have := a3 j (by omega)
      unfold MG MN at *
      rw [h1b j hji, r2, r3, r4, r5, r6, r7, r8]
      exact this
theorem ok_net {X : xX} {c : xCx} {I : xIn} {T : NT} (hX : xBase X) (d : Nat) (hT : NTok T) (hM : MI I T) {a : Int} (ha : xin a) : xRet rI X m_X10_net (d + 1) [xr (1, 0), xi a] c I 0 0 (fun v J => (∀ p : xP, p ≠ (1, 0) → p ≠ (1, 1) → J p = I p) ∧ (∀ k, k ≠ 0 → k ≠ 32 → J (1, 0) k = I (1, 0) k) ∧ MI J (netA T a).2 ∧ (v, J (1, 0) 32) = (netA T a).1) xNo := by
  have h4 := hT.1
  have hN : I (1, 0) 0 = (T.N : Int) := hM.1
  refine xRet_of hX pl_X10_net (LE1 rfl) fun V hV => rg_X10_net_0 hV I _ ⟨_, ok_in hX d ha (by decide) (by decide), ?_⟩
  rintro v3 I2 ⟨rfl, rfl⟩
  have bad : ∀ w : Int, 0 < w → w ≤ 2 → netA T a = ((0, w), T) → V 28 [(0, xr (1, 0)), (1, xi a)] [xi w, xr (1, 0)] (I2, xst c) 0 0 := by
    intro w h0 h2 hA
    refine rg_X10_net_28 hV I2 a w ⟨⟨by omega, by omega⟩, ?_⟩
    rintro I1 rfl
    rw [xu_same]
    refine ⟨fun h => absurd h (by omega), fun _ => ⟨fun p h1 _ => xu_p h1, fun k _ hk => xu_k hk, ?_, ?_⟩⟩
    · rw [hA]
      exact hM.fr (xu_k (by decide)) (fun j hj _ => xu_p (by intro z; have := (Prod.mk.inj z).2; omega))
    · exact (congrArg Prod.fst hA).symm
  refine ⟨fun hb => ?_, fun hb => bad 1 (by decide) (by decide) (by unfold netA; rw [if_neg (by simpa using hb)])⟩
  have hb : 2 ≤ a ∧ a ≤ 8 := by simpa using hb
  refine ⟨fun hn4 => ?_, fun hn4 => bad 2 (by decide) (by decide) (by unfold netA; rw [if_pos hb, if_pos (by omega)])⟩
  have hT4 : T.N ≠ 4 := by omega
  have hA : netA T a = (((T.N : Int), 0), T.add a.toNat) := by unfold netA; rw [if_pos hb, if_neg hT4]
  refine rg_X10_net_28 hV I2 a 0 ⟨by decide, ?_⟩
  rintro I1 rfl
  rw [xu_same]
  refine ⟨fun _ => ?_, fun h => absurd h (by decide)⟩
  have e0 : xu I2 (1, 0) 32 0 (1, 0) 0 = (T.N : Int) := by rw [xu_k (by decide), hN]
  rw [e0]
  refine ⟨⟨by omega, by omega⟩, ha, ?_⟩
  rintro I4 rfl
  have e1 : xu (xu I2 (1, 0) 32 0) (1, 1) (Int.toNat (T.N : Int)) a (1, 0) 0 = (T.N : Int) := by rw [xu_p (by decide), e0]
  rw [e1]
  refine ⟨⟨by omega, by omega⟩, ?_⟩
  rintro I6 rfl
  rw [xu_same, Int.toNat_natCast]
  refine ⟨fun p h1 h2 => ?_, fun k h1 h2 => ?_, ?_, ?_⟩
  · rw [xu_p h1, xu_p h2, xu_p h1]
  · rw [xu_k h1, xu_p (by decide), xu_k h2]
  · rw [hA]
    refine hM.add hT hT4 (n := a.toNat) (by omega) (by rw [xu_same]) ?_ ?_ ?_
    · rw [xu_p (by decide), xu_same]; omega
    · intro k hk
      rw [xu_p (by decide), xu_k hk, xu_p (by decide)]
    · intro j hj _
      have h1 : ((1, j) : xP) ≠ (1, 0) := by intro z; have := (Prod.mk.inj z).2; omega
      have h2 : ((1, j) : xP) ≠ (1, 1) := by intro z; have := (Prod.mk.inj z).2; omega
      rw [xu_p h1, xu_p h2, xu_p h1]
  · rw [hA, xu_k (by decide), xu_p (by decide), xu_same]
    show (_, _) = ((T.N : Int), (0 : Int))
    congr 1
    omega
