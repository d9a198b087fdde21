/-! what the law's methods leave as it is -/
def keepV (n : Int) (I J : xIn) : Prop := (∀ i j, J (i + 3, j) = I (i + 3, j)) ∧ (∀ j, (0, j) ∉ scrC → j ≠ 27 → j ≠ 32 → J (0, j) = I (0, j)) ∧ (∀ j, j ≠ 6 → J (0, 27) j = I (0, 27) j) ∧ (∀ j, j < 4 → J (0, 32) j = I (0, 32) j) ∧ J (2, 1) = I (2, 1) ∧ (∀ k, k < 11 → J (er k) = I (er k)) ∧ (∀ j, j ≠ 1 → j ≠ 2 → J (2, 0) j = I (2, 0) j) ∧ I (2, 0) 1 ≤ J (2, 0) 1 ∧ J (2, 0) 1 ≤ I (2, 0) 1 + n
theorem keepV.id9 {I : xIn} : keepV 0 I I := ⟨fun _ _ => Eq.refl _, fun _ _ _ _ => Eq.refl _, fun _ _ => Eq.refl _, fun _ _ => Eq.refl _, Eq.refl _, fun _ _ => Eq.refl _, fun _ _ _ => Eq.refl _, Int.le_refl _, by omega⟩
theorem keepV.tr {a b : Int} {I J K : xIn} (h : keepV a I J) (g : keepV b J K) : keepV (a + b) I K := by
  obtain ⟨h1, h2, h3, h4, h5, h6, h7, h8, h9⟩ := h
  obtain ⟨g1, g2, g3, g4, g5, g6, g7, g8, g9⟩ := g
  exact ⟨fun i j => (g1 i j).trans (h1 i j), fun j a b e => (g2 j a b e).trans (h2 j a b e), fun j a => (g3 j a).trans (h3 j a), fun j a => (g4 j a).trans (h4 j a), g5.trans h5, fun k a => (g6 k a).trans (h6 k a), fun j a b => (g7 j a b).trans (h7 j a b), by omega, by omega⟩
theorem keepV.le {a b : Int} {I J : xIn} (h : keepV a I J) (hab : a ≤ b) : keepV b I J := by
  obtain ⟨h1, h2, h3, h4, h5, h6, h7, h8, h9⟩ := h
  exact ⟨h1, h2, h3, h4, h5, h6, h7, h8, by omega⟩
theorem keepC.V {I J : xIn} (h : keepC I J) : keepV 0 I J := by
  obtain ⟨h1, h2, h3⟩ := h
  have n0 : ∀ p : xP, p.1 ≠ 0 → p ∉ scrC ∧ p ≠ (0, 27) ∧ p ≠ (0, 32) := by
    rintro ⟨a, b⟩ hp
    have hp : a ≠ 0 := hp
    exact ⟨by simp [scrC, hp], by simp [hp], by simp [hp]⟩
  have e : ∀ p : xP, p.1 ≠ 0 → J p = I p := fun p hp => h1 p (n0 p hp).1 (n0 p hp).2.1 (n0 p hp).2.2
  exact ⟨fun i j => e _ (Nat.succ_ne_zero _), fun j a b e9 => h1 _ a (fun z => b (congrArg Prod.snd z)) (fun z => e9 (congrArg Prod.snd z)), h2, h3, e _ (by decide), fun k _ => e _ (show (1 : Nat) ≠ 0 by omega), fun j _ _ => by rw [e _ (by decide)], by rw [e _ (by decide)]; omega, by rw [e _ (by decide)]; omega⟩
theorem keepC.q {I J : xIn} (h : keepC I J) {q : xP} (hq : q.1 ≠ 0) : J q = I q := by
  obtain ⟨a, b⟩ := q
  have hq : a ≠ 0 := hq
  exact h.1 _ (by simp [scrC, hq]) (by simp [hq]) (by simp [hq])
theorem kdr.V {I J : xIn} (h : kdr I J) : keepV 1 I J := by
  obtain ⟨h1, h2, h3⟩ := h
  exact ⟨fun i j => h1 _ (fun z => by have := congrArg Prod.fst z; simp at this), fun j _ _ _ => h1 _ (fun z => by cases z), fun j _ => by rw [h1 _ (fun z => by cases z)], fun j _ => by rw [h1 _ (fun z => by cases z)], h1 _ (fun z => by cases z), fun k _ => h1 _ (er_ne _ _), h2, by omega, by omega⟩
/-- a place that a method has made -/
def nwP (q : xP) : Prop := ((q.1 = 1 ∨ q.1 = 2) ∧ 832 ≤ q.2) ∨ q = (2, 2)
theorem nwP_I {c : xCx} {b n : Nat} (h : LD c b) : nwP (pI n b) := Or.inl ⟨Or.inl rfl, by have := h.2.2.2.2.1; show 832 ≤ n + 64 * b; omega⟩
theorem nwP_B {c : xCx} {b n : Nat} (h : LD c b) : nwP (pB n b) := Or.inl ⟨Or.inr rfl, by have := h.2.2.2.2.1; show 832 ≤ n + 64 * b; omega⟩
theorem nwP.ne {q p : xP} (h : nwP q) (hp : (p.1 ≠ 1 ∧ p.1 ≠ 2) ∨ (p.2 < 832 ∧ p ≠ (2, 2))) : p ≠ q := by
  rintro rfl
  rcases h with ⟨h, h9⟩ | rfl
  · rcases hp with ⟨a, b⟩ | ⟨a, b⟩
    · rcases h with h | h
      · exact a h
      · exact b h
    · omega
  · rcases hp with ⟨a, b⟩ | ⟨a, b⟩
    · exact b rfl
    · exact b rfl
theorem keepV.row {n : Int} {I J K : xIn} {q : xP} (hq : nwP q) (h : keepV n I J) (hK : ∀ p, p ≠ q → K p = J p) : keepV n I K := by
  obtain ⟨h1, h2, h3, h4, h5, h6, h7, h8⟩ := h
  have e0 : ∀ j, K (0, j) = J (0, j) := fun j => hK _ (hq.ne (Or.inl ⟨by show (0 : Nat) ≠ 1; omega, by show (0 : Nat) ≠ 2; omega⟩))
  have e2 : ∀ j, j < 2 → K (2, j) = J (2, j) := fun j hj => hK _ (hq.ne (Or.inr ⟨by show j < 832; omega, fun z => by have : j = 2 := congrArg Prod.snd z; omega⟩))
  exact ⟨fun i j => (hK _ (hq.ne (Or.inl ⟨by show i + 3 ≠ 1; omega, by show i + 3 ≠ 2; omega⟩))).trans (h1 i j), fun j a b e => (e0 j).trans (h2 j a b e), fun j a => by rw [e0]; exact h3 j a, fun j a => by rw [e0]; exact h4 j a, (e2 1 (by omega)).trans h5, fun k hk => (hK _ (hq.ne (Or.inr ⟨by show 5 + 64 * (k + 1) < 832; omega, er_ne _ _⟩))).trans (h6 k hk), fun j a b => by rw [e2 0 (by omega)]; exact h7 j a b, by rw [e2 0 (by omega)]; exact h8⟩
theorem keepV.rest {n : Int} {I J : xIn} {q : xP} (hq : nwP q) (h : keepV n I J) : keepV n I (fun p => if p = q then I q else J p) := h.row hq fun p hp => if_neg hp
theorem keepV.xu {n v : Int} {I J : xIn} {q : xP} {k : Nat} (h : keepV n I J) (hq : nwP q) : keepV n I (xu J q k v) := h.row hq fun p hp => xu_p hp
theorem keepV.zI {n : Int} {I J : xIn} {q : xP} (h : keepV n I J) (hq : nwP q) : keepV n I (zI J q) := h.row hq fun p hp => zI_n hp
theorem keepV.C {n : Int} {I J K : xIn} (h : keepV n I J) (hk : keepC J K) : keepV n I K := by
  have := h.tr hk.V
  rwa [Int.add_zero] at this
/-- what the law's methods live in -/
def WS (I : xIn) (c : xCx) (T : NT) (lk : Nat → Nat) (B : TB) (P : PJ) (m : Nat) (A : Int) : Prop := NTok T ∧ CI I c T ∧ EW I T m ∧ (LKok lk ∧ CL I lk) ∧ (TBok B ∧ CTB I B) ∧ (PJok P ∧ CPJ I P) ∧ AtB I A
theorem EW.m11 {I : xIn} {T : NT} {m : Nat} (h : EW I T m) : m ≤ 11 := h.2.2.2.2.2.1.2
theorem EW.keep {I J : xIn} {T : NT} {m : Nat} {n : Int} (h : EW I T m) (hk : keepV n I J) : EW J T m := by
  have h9 := h.m11
  obtain ⟨h1, h2, h3, h4, h5, h6, h7⟩ := h
  obtain ⟨k1, k2, k3, k4, k5, k6, k7, k8⟩ := hk
  exact ⟨h1, h2, by rw [k5]; exact h3, by rw [k7 4 (by decide) (by decide)]; exact h4, h5, h6, fun k hk => by rw [k6 k (by omega)]; exact h7 k hk⟩
theorem CI.keepV {I J : xIn} {c : xCx} {T : NT} {n : Int} (h : CI I c T) (hk : keepV n I J) : CI J c T := by
  have r0 : J (0, 0) = I (0, 0) := hk.2.1 _ (by decide) (by decide) (by decide)
  unfold CI CG
  simp only [hk.1, r0]
  exact h
theorem AtB.keep {I J : xIn} {n A : Int} (h : AtB I A) (hk : keepV n I J) (hA : A + n ≤ 1000000) : AtB J (A + n) := by
  obtain ⟨h1, h2, h3⟩ := h
  obtain ⟨-, -, -, -, -, -, -, h8, h9⟩ := hk
  exact ⟨by omega, by omega, hA⟩
theorem WS.keep {I J : xIn} {c : xCx} {T : NT} {lk : Nat → Nat} {B : TB} {P : PJ} {m : Nat} {A n : Int} (h : WS I c T lk B P m A) (hk : keepV n I J) (hA : A + n ≤ 1000000) : WS J c T lk B P m (A + n) := by
  obtain ⟨h1, h2, h3, ⟨h4, h5⟩, ⟨h6, h7⟩, ⟨h8, h9⟩, h10⟩ := h
  refine ⟨h1, h2.keepV hk, h3.keep hk, ⟨h4, fun k hk8 => by rw [hk.2.1 21 (by decide) (by decide) (by decide)]; exact h5 k hk8⟩, ⟨h6, ?_⟩, ⟨h8, ?_⟩, h10.keep hk hA⟩
  · obtain ⟨a1, a2, a3⟩ := h7
    exact ⟨by rw [hk.2.2.1 0 (by decide)]; exact a1, by rw [hk.2.2.1 1 (by decide)]; exact a2, fun p hp => by rw [hk.2.1 28 (by decide) (by decide) (by decide)]; exact a3 p hp⟩
  · obtain ⟨a1, a2⟩ := h9
    exact ⟨by rw [hk.2.2.2.1 0 (by decide)]; exact a1, fun k hk8 => by rw [hk.2.1 33 (by decide) (by decide) (by decide), hk.2.1 34 (by decide) (by decide) (by decide), hk.2.1 35 (by decide) (by decide) (by decide)]; exact a2 k hk8⟩
theorem WS.keepC {I J : xIn} {c : xCx} {T : NT} {lk : Nat → Nat} {B : TB} {P : PJ} {m : Nat} {A : Int} (h : WS I c T lk B P m A) (hk : keepC I J) : WS J c T lk B P m A := by
  have := h.keep hk.V (by have := h.2.2.2.2.2.2.2.2; omega)
  rwa [Int.add_zero] at this
theorem WS.k0 {I J : xIn} {c : xCx} {T : NT} {lk : Nat → Nat} {B : TB} {P : PJ} {m : Nat} {A : Int} (h : WS I c T lk B P m A) (hk : keepV 0 I J) : WS J c T lk B P m A := by
  have := h.keep hk (by have := h.2.2.2.2.2.2.2.2; omega)
  rwa [Int.add_zero] at this
/-- a state that holds what the law's methods need -/
def WW (I : xIn) (c : xCx) (m : Nat) (A : Int) : Prop := ∃ T lk B P, WS I c T lk B P m A
theorem WW.keep {I J : xIn} {c : xCx} {m : Nat} {A n : Int} (h : WW I c m A) (hk : keepV n I J) (hA : A + n ≤ 1000000) : WW J c m (A + n) := by
  obtain ⟨T, lk, B, P, h⟩ := h
  exact ⟨T, lk, B, P, h.keep hk hA⟩
theorem w_in {n a : Nat} (h : a < n) : inB (a : Int) (n : Int) = true := decide_eq_true (by omega)
theorem w_two {n s t : Nat} (hs : s < n) (ht : t < n) (hst : s ≠ t) : twoB (n : Int) (s : Int) (t : Int) = true := by
  unfold twoB
  rw [w_in hs, w_in ht, decide_eq_true (by omega)]
  rfl
section W0
variable {T : NT} {s t e : Nat}
theorem w0 (hN : T.N = 1) (hs : s < (T.G 0).n) (ht : t < (T.G 0).n) (hst : s ≠ t) : wrongT T 0 (s : Int) (t : Int) = 0 := by
  unfold wrongT
  rw [Int.toNat_zero, if_pos (by rw [hN]; decide), if_pos (w_two hs ht hst)]
theorem w0E (hN : T.N = 1) (hs : s < (T.G 0).n) (ht : t < (T.G 0).n) (hst : s ≠ t) (he : e < (T.G 0).m) : wrongET T 0 (s : Int) (t : Int) (e : Int) = 0 := by
  unfold wrongET
  rw [Int.toNat_zero, if_pos (by rw [hN]; decide), if_pos (w_in he), if_pos (w_two hs ht hst)]
theorem w0C (hN : T.N = 1) (hs : s < (T.G 0).n) (ht : t < (T.G 0).n) (hst : s ≠ t) (he : e < (T.G 0).n) : wrongCT T 0 (s : Int) (t : Int) (e : Int) = 0 := by
  unfold wrongCT
  rw [Int.toNat_zero, if_pos (by rw [hN]; decide), if_pos (w_in he), if_pos (w_two hs ht hst)]
end W0

theorem exN0 {e : String} (h : exN e 0) : False := by rcases h with ⟨-, h⟩ | ⟨-, h⟩ | ⟨-, h⟩ <;> omega
theorem exL0 {L : List String} {e : String} (h : exL L e 0) : False := by
  obtain ⟨j, -, h⟩ := h
  omega
theorem exN3 {e : String} (h : exN e 3) : e = xNSE := by
  rcases h with ⟨-, h⟩ | ⟨-, h⟩ | ⟨h, -⟩
  · omega
  · omega
  · exact h
theorem exL_at {L : List String} {e x : String} {k : Nat} (h : exL L e ((k : Int) + 1)) (hx : L[k]? = some x) : e = x := by
  obtain ⟨j, h1, h2⟩ := h
  have : j = k := by omega
  rw [this, hx] at h1
  exact (Option.some.inj h1).symm
theorem pr0 {α : Type} {v : α} {x : α × Int} (h : (v, 0) = x) : v = x.1 ∧ x.2 = 0 := by rw [← h]; exact ⟨rfl, rfl⟩
abbrev amt (T : NT) (s t : Nat) : Int := amountF (T.G 0) (T.lo 0) (T.hi 0) s t
section LW
variable {X : xX} {c : xCx} {I : xIn} {T : NT} {lk : Nat → Nat} {B : TB} {P : PJ} {m : Nat} {A : Int} {s t : Nat}
theorem WS.N (h : WS I c T lk B P m A) : T.N = 1 := h.2.2.1.1
theorem WS.m9 (h : WS I c T lk B P m A) : (T.G 0).m = m := h.2.2.1.2.1
theorem WS.g (h : WS I c T lk B P m A) : GrOK (T.G 0) := (h.1.2 0 (by have := h.N; omega)).1
theorem WS.bd (h : WS I c T lk B P m A) : BD (T.G 0) (T.lo 0) (T.hi 0) := fun e he => ((h.1.2 0 (by have := h.N; omega)).2.1 e he).1
theorem WS.co (h : WS I c T lk B P m A) : ∀ e, e < (T.G 0).m → -20 ≤ T.co 0 e ∧ T.co 0 e ≤ 20 := fun e he => ((h.1.2 0 (by have := h.N; omega)).2.1 e he).2
theorem WS.n6 (h : WS I c T lk B P m A) : 2 ≤ (T.G 0).n ∧ (T.G 0).n ≤ 6 := h.2.2.1.2.2.2.2.1
theorem WS.m11 (h : WS I c T lk B P m A) : 1 ≤ m ∧ m ≤ 11 := h.2.2.1.2.2.2.2.2.1
theorem WS.uv (h : WS I c T lk B P m A) : ∀ k, k < m → (T.G 0).u k < 32 ∧ (T.G 0).v k < 32 := fun k hk => by
  have h1 := h.g
  have h2 := h1.2.2.2 k (by rw [h.m9]; exact hk)
  have h3 := h1.2.1
  omega
theorem WS.am (h : WS I c T lk B P m A) (hs : s < (T.G 0).n) (ht : t < (T.G 0).n) (hst : s ≠ t) : amt T s t ≠ NONE9 → -3200 ≤ amt T s t ∧ amt T s t ≤ 3200 := fun z => by
  have := (amount_in h.1 (by have := h.N; omega) hs ht hst).resolve_left z
  exact ⟨this.1, this.2.1⟩
theorem xn {n : Nat} (h : n ≤ 2000000) : xin (n : Int) := ⟨by omega, by omega⟩
theorem x0 : xin 0 := ⟨by decide, by decide⟩
theorem lw_most (hX : xBase X) (d : Nat) (h : WS I c T lk B P m A) (hs : s < (T.G 0).n) (ht : t < (T.G 0).n) (hst : s ≠ t) : xRet rI X m_X9_most (d + 9) [xr (0, 0), xi 0, xi (s : Int), xi (t : Int)] c I 3 18 (fun v J => keepC I J ∧ v = amt T s t ∧ amt T s t ≠ NONE9) (fun e J => keepC I J ∧ e = xNSE ∧ amt T s t = NONE9) := by
  have h6 := h.n6
  have hw := w0 h.N hs ht hst
  have hA : mostV T 0 s t = if amt T s t = NONE9 then (0, 3) else (amt T s t, 0) := mostV_0 (i := 0) hw
  refine xRet_w (cn_most hX d h.1 h.2.1 x0 (xn (by omega)) (xn (by omega))) (fun v J => ?_) (fun e J => ?_)
  · rintro ⟨k, hv⟩
    rw [hA] at hv
    by_cases z : amt T s t = NONE9
    · rw [if_pos z] at hv; cases congrArg Prod.snd hv
    · rw [if_neg z] at hv; exact ⟨k.C, congrArg Prod.fst hv, z⟩
  · rintro ⟨k, hv, -⟩
    rw [hA] at hv
    by_cases z : amt T s t = NONE9
    · rw [if_pos z] at hv; exact ⟨k.C, exN3 hv, z⟩
    · rw [if_neg z] at hv; exact (exN0 hv).elim
theorem lw_crowd (hX : xBase X) (d : Nat) (h : WS I c T lk B P m A) (hs : s < (T.G 0).n) (ht : t < (T.G 0).n) (hst : s ≠ t) (hn : amt T s t = NONE9) : xRet rI X m_X9_crowd (d + 9) [xr (0, 0), xi 0, xi (s : Int), xi (t : Int)] c I 3 18 (fun v J => keepC I J ∧ ∃ S, v = ((S : Nat) : Int) ∧ S < 2 ^ (T.G 0).n ∧ crowdP (T.G 0) (T.lo 0) (T.hi 0) s t S = true) xNo := by
  have h6 := h.n6
  have hw := w0 h.N hs ht hst
  obtain ⟨S, s1, s2, s3⟩ := pf_crowd h.g hs ht hst h.bd hn
  have hA : crowdV T 0 s t = ((S : Int), 0) := by
    unfold crowdV
    rw [hw, if_neg (by decide), tnN, tnN, Int.toNat_zero, s3, if_neg (by omega)]
  refine xRet_w (cn_crowd hX d h.1 h.2.1 x0 (xn (by omega)) (xn (by omega))) (fun v J => ?_) (fun e J => ?_)
  · rintro ⟨k, hv⟩
    rw [hA] at hv
    exact ⟨k, S, congrArg Prod.fst hv, s1, s2⟩
  · rintro ⟨k, hv⟩
    rw [hA] at hv
    exact exN0 hv
theorem lw_cut (hX : xBase X) (d : Nat) (h : WS I c T lk B P m A) (hs : s < (T.G 0).n) (ht : t < (T.G 0).n) (hst : s ≠ t) (hn : amt T s t ≠ NONE9) (far : Bool) : xRet rI X m_X9_cut (d + 9) [xr (0, 0), xi 0, xi (s : Int), xi (t : Int), xi (xbi far)] c I 3 18 (fun v J => keepC I J ∧ v = ((if far then orF (cutQ (T.G 0) (T.lo 0) (T.hi 0) s t) (2 ^ (T.G 0).n) else andF (cutQ (T.G 0) (T.lo 0) (T.hi 0) s t) (2 ^ (T.G 0).n) : Nat) : Int)) xNo := by
  have h6 := h.n6
  have hA : cutA T 0 s t far = (((if far then orF (cutQ (T.G 0) (T.lo 0) (T.hi 0) s t) (2 ^ (T.G 0).n) else andF (cutQ (T.G 0) (T.lo 0) (T.hi 0) s t) (2 ^ (T.G 0).n) : Nat) : Int), 0) := by
    unfold cutA cutG
    rw [wE_0 (w0 h.N hs ht hst), tnN, tnN, Int.toNat_zero, if_neg hn]
  refine xRet_w (cn_cut hX d h.1 h.2.1 x0 (xn (by omega)) (xn (by omega)) far) (fun v J => ?_) (fun e J => ?_)
  · rintro ⟨k, hv⟩
    rw [hA] at hv
    exact ⟨k, congrArg Prod.fst hv⟩
  · rintro ⟨k, hv⟩
    rw [hA] at hv
    exact exN0 hv
theorem lw_cuts (hX : xBase X) (d : Nat) (h : WS I c T lk B P m A) (hs : s < (T.G 0).n) (ht : t < (T.G 0).n) (hst : s ≠ t) (hn : amt T s t ≠ NONE9) : xRet rI X m_X9_cuts (d + 9) [xr (0, 0), xi 0, xi (s : Int), xi (t : Int)] c I 3 18 (fun v J => keepC I J ∧ v = ((cntF (cutQ (T.G 0) (T.lo 0) (T.hi 0) s t) (2 ^ (T.G 0).n) : Nat) : Int)) xNo := by
  have h6 := h.n6
  have hA : cutsA T 0 s t = (((cntF (cutQ (T.G 0) (T.lo 0) (T.hi 0) s t) (2 ^ (T.G 0).n) : Nat) : Int), 0) := by
    unfold cutsA cutsG
    rw [wE_0 (w0 h.N hs ht hst), tnN, tnN, Int.toNat_zero, if_neg hn]
  refine xRet_w (cn_cuts hX d h.1 h.2.1 x0 (xn (by omega)) (xn (by omega))) (fun v J => ?_) (fun e J => ?_)
  · rintro ⟨k, hv⟩
    rw [hA] at hv
    exact ⟨k, congrArg Prod.fst hv⟩
  · rintro ⟨k, hv⟩
    rw [hA] at hv
    exact exN0 hv
theorem lw_cutSum (hX : xBase X) (d : Nat) (h : WS I c T lk B P m A) (hs : s < (T.G 0).n) (ht : t < (T.G 0).n) (hst : s ≠ t) {S : Nat} (hS : S < 2 ^ (T.G 0).n) (hb : btw s t S = true) : xRet rI X m_X9_cutSum (d + 9) [xr (0, 0), xi 0, xi (s : Int), xi (t : Int), xi (S : Int)] c I 3 18 (fun v J => keepC I J ∧ v = cutV (T.G 0) (T.lo 0) (T.hi 0) S) xNo := by
  have h6 := h.n6
  have hp := pow2_le8 h.g.2.1
  have hA : cutSumA T 0 s t S = (cutV (T.G 0) (T.lo 0) (T.hi 0) S, 0) := by
    unfold cutSumA cutSumG
    rw [wE_0 (w0 h.N hs ht hst), tnN, tnN, tnN, Int.toNat_zero, if_pos ⟨by omega, by omega, hb⟩]
  refine xRet_w (cn_cutSum hX d h.1 h.2.1 x0 (xn (by omega)) (xn (by omega)) (xn (by omega))) (fun v J => ?_) (fun e J => ?_)
  · rintro ⟨k, hv⟩
    rw [hA] at hv
    exact ⟨k, congrArg Prod.fst hv⟩
  · rintro ⟨k, hv⟩
    rw [hA] at hv
    exact exN0 hv
theorem lw_flow (hX : xBase X) (d : Nat) (h : WS I c T lk B P m A) (hs : s < (T.G 0).n) (ht : t < (T.G 0).n) (hst : s ≠ t) (hn : amt T s t ≠ NONE9) {e : Nat} (he : e < m) : xRet rI X m_X9_flow (d + 9) [xr (0, 0), xi 0, xi (s : Int), xi (t : Int), xi (e : Int)] c I 4 24 (fun v J => keepC I J ∧ v = (lxF (T.G 0) (T.lo 0) (T.hi 0) s t (amt T s t) (T.G 0).m).1 e) xNo := by
  have h6 := h.n6
  have h11 := h.m11
  have hA : flowV T 0 s t e = ((lxF (T.G 0) (T.lo 0) (T.hi 0) s t (amt T s t) (T.G 0).m).1 e, 0) := by
    unfold flowV
    rw [w0E h.N hs ht hst (by rw [h.m9]; exact he), if_neg (by decide), tnN, tnN, tnN, Int.toNat_zero, if_neg hn]
  refine xRet_w (cn_flow hX d h.1 h.2.1 x0 (xn (by omega)) (xn (by omega)) (xn (by omega))) (fun v J => ?_) (fun e J => ?_)
  · rintro ⟨k, hv⟩
    rw [hA] at hv
    exact ⟨k.C, congrArg Prod.fst hv⟩
  · rintro ⟨k, hv, -⟩
    rw [hA] at hv
    exact exN0 hv
theorem lw_isFull (hX : xBase X) (d : Nat) (h : WS I c T lk B P m A) (hs : s < (T.G 0).n) (ht : t < (T.G 0).n) (hst : s ≠ t) (hn : amt T s t ≠ NONE9) {e : Nat} (he : e < m) : xRet rB X m_X9_isFull (d + 9) [xr (0, 0), xi 0, xi (s : Int), xi (t : Int), xi (e : Int)] c I 4 24 (fun v J => keepC I J ∧ v = decide (leastF (T.G 0) (T.lo 0) (T.hi 0) s t (amt T s t) e = T.hi 0 e)) xNo := by
  have h6 := h.n6
  have h11 := h.m11
  have hA : isFullA T 0 s t e = (decide (leastF (T.G 0) (T.lo 0) (T.hi 0) s t (amt T s t) e = T.hi 0 e), 0) := by
    unfold isFullA isFullG
    rw [wE_0 (w0E h.N hs ht hst (by rw [h.m9]; exact he)), tnN, tnN, tnN, Int.toNat_zero, if_neg hn]
  refine xRet_w (cn_isFull hX d h.1 h.2.1 x0 (xn (by omega)) (xn (by omega)) (xn (by omega))) (fun v J => ?_) (fun e J => ?_)
  · rintro ⟨k, hv⟩
    rw [hA] at hv
    exact ⟨k, congrArg Prod.fst hv⟩
  · rintro ⟨k, hv⟩
    rw [hA] at hv
    exact exN0 hv
abbrev EXZ (T : NT) (s t : Nat) : Prop := EXz (T.G 0) (T.lo 0) (T.hi 0) (T.co 0) s t
abbrev EXD (T : NT) (s t : Nat) : Prop := EXd (T.G 0) (T.lo 0) (T.hi 0) (T.co 0) s t
theorem lw_cost (hX : xBase X) (d : Nat) (h : WS I c T lk B P m A) (hs : s < (T.G 0).n) (ht : t < (T.G 0).n) (hst : s ≠ t) (hn : amt T s t ≠ NONE9) : xRet rI X m_X9_cost (d + 9) [xr (0, 0), xi 0, xi (s : Int), xi (t : Int)] c I 3 18 (fun v J => keepC I J ∧ EXZ T s t ∧ v = costG (T.G 0) (T.lo 0) (T.hi 0) (T.co 0) s t) xNo := by
  have h6 := h.n6
  have hA : costA T 0 s t = (costG (T.G 0) (T.lo 0) (T.hi 0) (T.co 0) s t, 0) := by
    unfold costA
    rw [wE_0 (w0 h.N hs ht hst), tnN, tnN, Int.toNat_zero, if_neg hn]
  refine xRet_w (pn_cost hX d h.1 h.2.1 x0 (xn (by omega)) (xn (by omega))) (fun v J => ?_) (fun e J => ?_)
  · rintro ⟨⟨k, k2⟩, hv⟩
    rw [hA] at hv
    rw [tnN, tnN, Int.toNat_zero] at k2
    exact ⟨k, k2, congrArg Prod.fst hv⟩
  · rintro ⟨k, hv⟩
    rw [hA] at hv
    exact exL0 hv
theorem lw_cheapest (hX : xBase X) (d : Nat) (h : WS I c T lk B P m A) (hs : s < (T.G 0).n) (ht : t < (T.G 0).n) (hst : s ≠ t) (hn : amt T s t ≠ NONE9) {e : Nat} (he : e < m) : xRet rI X m_X9_cheapest (d + 9) [xr (0, 0), xi 0, xi (s : Int), xi (t : Int), xi (e : Int)] c I 4 24 (fun v J => keepC I J ∧ EXZ T s t ∧ v = cheapG (T.G 0) (T.lo 0) (T.hi 0) (T.co 0) s t e) xNo := by
  have h6 := h.n6
  have h11 := h.m11
  have hA : cheapestA T 0 s t e = (cheapG (T.G 0) (T.lo 0) (T.hi 0) (T.co 0) s t e, 0) := by
    unfold cheapestA
    rw [wE_0 (w0E h.N hs ht hst (by rw [h.m9]; exact he)), tnN, tnN, tnN, Int.toNat_zero, if_neg hn]
  refine xRet_w (pn_cheapest hX d h.1 h.2.1 x0 (xn (by omega)) (xn (by omega)) (xn (by omega))) (fun v J => ?_) (fun e J => ?_)
  · rintro ⟨⟨k, k2⟩, hv⟩
    rw [hA] at hv
    rw [tnN, tnN, Int.toNat_zero] at k2
    exact ⟨k, k2, congrArg Prod.fst hv⟩
  · rintro ⟨k, hv⟩
    rw [hA] at hv
    exact exL0 hv
theorem lw_price (hX : xBase X) (d : Nat) (h : WS I c T lk B P m A) (hs : s < (T.G 0).n) (ht : t < (T.G 0).n) (hst : s ≠ t) (hn : amt T s t ≠ NONE9) {x : Nat} (hx : x < (T.G 0).n) : xRet rI X m_X9_price (d + 9) [xr (0, 0), xi 0, xi (s : Int), xi (t : Int), xi (x : Int)] c I 5 30 (fun v J => keepC I J ∧ EXD T s t ∧ (-100000 ≤ v ∧ v ≤ 100000) ∧ (v, 0) = priceG (T.G 0) (T.lo 0) (T.hi 0) (T.co 0) s t x) (fun e J => keepC I J ∧ e = xNSE ∧ EXD T s t ∧ (priceG (T.G 0) (T.lo 0) (T.hi 0) (T.co 0) s t x).2 ≠ 0) := by
  have h6 := h.n6
  have hA : priceA T 0 s t x = priceG (T.G 0) (T.lo 0) (T.hi 0) (T.co 0) s t x := by
    unfold priceA
    rw [wE_0 (w0C h.N hs ht hst hx), tnN, tnN, tnN, Int.toNat_zero, if_neg hn]
  refine xRet_w (pn_price hX d h.1 h.2.1 x0 (xn (by omega)) (xn (by omega)) (xn (by omega))) (fun v J => ?_) (fun e J => ?_)
  · rintro ⟨⟨k, k2, k3⟩, hv⟩
    rw [hA] at hv
    rw [tnN, tnN, Int.toNat_zero] at k2
    exact ⟨k, k2, k3, hv⟩
  · rintro ⟨k, hv, hz⟩
    rw [hA] at hv
    rw [tnN, tnN, Int.toNat_zero] at hz
    have hne : (priceG (T.G 0) (T.lo 0) (T.hi 0) (T.co 0) s t x).2 ≠ 0 := fun z => by rw [z] at hv; exact exL0 hv
    have hE := hz (w0C h.N hs ht hst hx) hn
    have hy : e = xNSE := by
      obtain ⟨z, Z, D, π, h1, h2, h3⟩ := hE
      rw [priceG_eq h1 h3 hx] at hv hne
      by_cases z9 : D x = Z
      · rw [if_pos z9] at hv
        exact exL_at (k := 2) hv rfl
      · rw [if_neg z9] at hne
        exact absurd rfl hne
    exact ⟨k, hy, hE, hne⟩
end LW
