/-! the class: costs, cheapest rows, prices -/
theorem mul_bd {a b A B : Int} (hA : 0 ≤ A) (ha : -A ≤ a ∧ a ≤ A) (hb : -B ≤ b ∧ b ≤ B) : -(A * B) ≤ a * b ∧ a * b ≤ A * B := by
  have hB : 0 ≤ B := by omega
  have h3 := Int.mul_le_mul_of_nonneg_left hb.2 hA
  have h5 := Int.mul_le_mul_of_nonneg_left hb.1 hA
  rw [Int.mul_neg] at h5
  rcases Int.le_total 0 b with h | h
  · have h1 := Int.mul_le_mul_of_nonneg_right ha.2 h
    have h2 := Int.mul_le_mul_of_nonneg_right ha.1 h
    rw [Int.neg_mul] at h2
    omega
  · have h1 := Int.mul_le_mul_of_nonneg_right ha.2 (show 0 ≤ -b by omega)
    have h2 := Int.mul_le_mul_of_nonneg_right ha.1 (show 0 ≤ -b by omega)
    rw [Int.mul_neg, Int.mul_neg] at h1
    rw [Int.neg_mul, Int.mul_neg, Int.mul_neg] at h2
    omega
section COP
variable {G : Gr} {lo hi co f lo9 hi9 co9 f9 : Nat → Int} {s t : Nat}
theorem FS_cong4 {b b9 : Nat → Int} (h1 : ∀ e, e < G.m → lo e = lo9 e) (h2 : ∀ e, e < G.m → hi e = hi9 e) (h3 : ∀ x, x < G.n → b x = b9 x) (hf : FS G lo hi b f) : FS G lo9 hi9 b9 f := ⟨fun e he => by rw [← h1 e he, ← h2 e he]; exact hf.1 e he, fun x hx => by rw [← h3 x hx]; exact hf.2 x hx⟩
theorem CHR_cong {b z z9 : Nat → Int} (h1 : ∀ e, e < G.m → lo e = lo9 e) (h2 : ∀ e, e < G.m → hi e = hi9 e) (h3 : ∀ e, e < G.m → co e = co9 e) (hz : ∀ e, e < G.m → z e = z9 e) (h : CHR G lo hi co b z) : CHR G lo9 hi9 co9 b z9 := by
  have hb : ∀ x, x < G.n → b x = b x := fun _ _ => rfl
  have hc : ∀ g, costF G co g = costF G co9 g := fun g => costF_cong (fun _ _ => rfl) h3
  have hcz : costF G co z = costF G co9 z9 := costF_cong hz h3
  have back : ∀ g, FS G lo9 hi9 b g → FS G lo hi b g := fun g hg => FS_cong4 (fun e he => (h1 e he).symm) (fun e he => (h2 e he).symm) hb hg
  refine ⟨FS_cong hz (FS_cong4 h1 h2 hb h.1), fun g hg => ?_, fun g hg hq p hp hl => ?_⟩
  · rw [← hcz, ← hc]; exact h.2.1 g (back g hg)
  · rw [← hz p hp]
    exact h.2.2 g (back g hg) (by rw [hc, hq, hcz]) p hp fun q hqp => by rw [hl q hqp, hz q (by omega)]
theorem GR_cong (h1 : ∀ e, e < G.m → lo e = lo9 e) (h2 : ∀ e, e < G.m → hi e = hi9 e) (h3 : ∀ e, e < G.m → co e = co9 e) (h4 : ∀ e, e < G.m → f e = f9 e) {u x : Nat} {q : Int} (h : GR G lo hi co f u x q) : GR G lo9 hi9 co9 f9 u x q := by
  obtain ⟨σ, a1, a2, a3, a4, a5, a6⟩ := h
  exact ⟨σ, a1, a2, by rw [← rsp_cong h1 h2 h4 a2]; exact a3, a4, a5, by rw [← h3 _ a2]; exact a6⟩
theorem PT_cong {π : Nat → Int} (h1 : ∀ e, e < G.m → lo e = lo9 e) (h2 : ∀ e, e < G.m → hi e = hi9 e) (h3 : ∀ e, e < G.m → co e = co9 e) (h4 : ∀ e, e < G.m → f e = f9 e) (h : PT G lo hi co f π) : PT G lo9 hi9 co9 f9 π := fun e he => by
  rw [← h1 e he, ← h2 e he, ← h3 e he, ← h4 e he]; exact h e he
theorem PT_opt {b π z : Nat → Int} (hG : GrIn G) (hf : FS G lo hi b f) (hp : PT G lo hi co f π) (hz : FS G lo hi b z) (hc : costF G co z = costF G co f) : PT G lo hi co z π := by
  intro e he
  have a := ((opt hG hf hp hz).2).1 hc e he
  have p := hp e he
  refine ⟨fun h => ?_, fun h => ?_⟩
  · by_cases hr : π (G.u e) + co e - π (G.v e) = 0
    · omega
    · have := a hr; have := p.1 (by omega); omega
  · by_cases hr : π (G.u e) + co e - π (G.v e) = 0
    · omega
    · have := a hr; have := p.2 (by omega); omega
theorem nout_off (hG : GrIn G) (f : Nat → Int) {x : Nat} (hx : G.n ≤ x) : nout G f x = 0 := sumE_0 fun e he => by
  have := hG e he
  have h1 : ¬ G.u e = x := by omega
  have h2 : ¬ G.v e = x := by omega
  rw [if_neg h1, if_neg h2]; rfl
/-- a flow with the edge back fixed, as a flow of the net alone -/
theorem bk_flow {a0 p : Int} (hs : s < G.n) (ht : t < G.n) (hst : s ≠ t) (h : FS (bk G s t) lo hi (isB s t p) f) (hm : f G.m = a0) : FS G lo hi (isB s t (a0 + p)) f := by
  refine ⟨fun e he => h.1 e (Nat.lt_succ_of_lt he), fun x hx => ?_⟩
  have := h.2 x hx
  rw [bk_nout, hm] at this
  unfold isB at this ⊢
  by_cases h1 : x = s
  · subst h1
    rw [if_neg (Ne.symm hst), if_pos rfl, if_pos rfl] at this
    rw [if_pos rfl]
    omega
  · by_cases h2 : x = t
    · subst h2
      rw [if_pos rfl, if_neg (Ne.symm h1), if_neg h1, if_pos rfl] at this
      rw [if_neg h1, if_pos rfl]
      omega
    · rw [if_neg (Ne.symm h2), if_neg (Ne.symm h1), if_neg h1, if_neg h2] at this
      rw [if_neg h1, if_neg h2]
      omega
theorem bk_PT {π : Nat → Int} (h : PT (bk G s t) lo hi co f π) : PT G lo hi co f π := fun e he => by
  have := h e (Nat.lt_succ_of_lt he)
  rw [bk_u he, bk_v he] at this
  exact this
theorem fx_bk {π : Nat → Int} {e : Nat} (he : e < G.m) : fxl (bk G s t) lo hi co π e = fxl G lo hi co π e ∧ fxh (bk G s t) lo hi co π e = fxh G lo hi co π e := by
  unfold fxl fxh
  rw [bk_u he, bk_v he]
  exact ⟨rfl, rfl⟩
theorem fx_cong {π : Nat → Int} {e : Nat} (he : e < G.m) (h1 : ∀ e, e < G.m → lo e = lo9 e) (h2 : ∀ e, e < G.m → hi e = hi9 e) : fxl G lo hi co π e = fxl G lo9 hi9 co π e ∧ fxh G lo hi co π e = fxh G lo9 hi9 co π e := by
  unfold fxl fxh
  rw [h1 e he, h2 e he]
  exact ⟨rfl, rfl⟩
noncomputable def costG (G : Gr) (lo hi co : Nat → Int) (s t : Nat) : Int := Classical.epsilon fun r => ∃ z, CHR G lo hi co (isB s t (amountF G lo hi s t)) z ∧ r = costF G co z
noncomputable def cheapG (G : Gr) (lo hi co : Nat → Int) (s t e : Nat) : Int := Classical.epsilon fun r => ∃ z, CHR G lo hi co (isB s t (amountF G lo hi s t)) z ∧ r = z e
def DSX (G : Gr) (lo hi co z : Nat → Int) (s : Nat) (Z : Int) (D : Nat → Int) : Prop := DST G.n (GR G lo hi co z) (fun x => x == s) Z D
noncomputable def priceG (G : Gr) (lo hi co : Nat → Int) (s t x : Nat) : Int × Int := Classical.epsilon fun r => ∃ z Z D, CHR G lo hi co (isB s t (amountF G lo hi s t)) z ∧ DSX G lo hi co z s Z D ∧ r = if D x = Z then (0, 3) else (D x, 0)
theorem costG_eq {z : Nat → Int} (h : CHR G lo hi co (isB s t (amountF G lo hi s t)) z) : costG G lo hi co s t = costF G co z := by
  obtain ⟨y, y1, y2⟩ := Classical.epsilon_spec (p := fun r => ∃ z, CHR G lo hi co (isB s t (amountF G lo hi s t)) z ∧ r = costF G co z) ⟨_, z, h, rfl⟩
  have : costG G lo hi co s t = costF G co y := y2
  rw [this]
  exact costF_cong (y1.uniq h) fun _ _ => rfl
theorem cheapG_eq {z : Nat → Int} (h : CHR G lo hi co (isB s t (amountF G lo hi s t)) z) {e : Nat} (he : e < G.m) : cheapG G lo hi co s t e = z e := by
  obtain ⟨y, y1, y2⟩ := Classical.epsilon_spec (p := fun r => ∃ z, CHR G lo hi co (isB s t (amountF G lo hi s t)) z ∧ r = z e) ⟨_, z, h, rfl⟩
  have : cheapG G lo hi co s t e = y e := y2
  rw [this]
  exact y1.uniq h e he
theorem priceG_eq {z D : Nat → Int} {Z : Int} (h : CHR G lo hi co (isB s t (amountF G lo hi s t)) z) (hD : DSX G lo hi co z s Z D) {x : Nat} (hx : x < G.n) : priceG G lo hi co s t x = if D x = Z then (0, 3) else (D x, 0) := by
  obtain ⟨y, W, E, y1, y2, y3⟩ := Classical.epsilon_spec (p := fun r : Int × Int => ∃ z Z D, CHR G lo hi co (isB s t (amountF G lo hi s t)) z ∧ DSX G lo hi co z s Z D ∧ r = if D x = Z then (0, 3) else (D x, 0)) ⟨_, z, Z, D, h, hD, rfl⟩
  have e1 : priceG G lo hi co s t x = if E x = W then (0, 3) else (E x, 0) := y3
  rw [e1]
  have hr : ∀ e, e < G.m → y e = z e := y1.uniq h
  have y4 : DSX G lo hi co z s W E := DST_cong y2 fun u v q => ⟨fun g => GR_cong (fun _ _ => rfl) (fun _ _ => rfl) (fun _ _ => rfl) hr g, fun g => GR_cong (fun _ _ => rfl) (fun _ _ => rfl) (fun _ _ => rfl) (fun e he => (hr e he).symm) g⟩
  obtain ⟨u1, u2⟩ := DST.uniq y4 hD hx
  by_cases hc : E x = W
  · rw [if_pos hc, if_pos (u1.1 hc)]
  · rw [if_neg hc, if_neg (fun q => hc (u1.2 q)), u2 hc]
theorem cong_co (h1 : ∀ e, e < G.m → lo e = lo9 e) (h2 : ∀ e, e < G.m → hi e = hi9 e) (h3 : ∀ e, e < G.m → co e = co9 e) {z : Nat → Int} (h : CHR G lo hi co (isB s t (amountF G lo hi s t)) z) : CHR G lo9 hi9 co9 (isB s t (amountF G lo9 hi9 s t)) z := by
  rw [← amountF_cong h1 h2]
  exact CHR_cong h1 h2 h3 (fun _ _ => rfl) h
noncomputable def costA (T : NT) (a s t : Int) : Int × Int := wE 0 (wrongT T a s t) (if amountF (T.G (Int.toNat a)) (T.lo (Int.toNat a)) (T.hi (Int.toNat a)) (Int.toNat s) (Int.toNat t) = NONE9 then (0, 3) else (costG (T.G (Int.toNat a)) (T.lo (Int.toNat a)) (T.hi (Int.toNat a)) (T.co (Int.toNat a)) (Int.toNat s) (Int.toNat t), 0))
noncomputable def cheapestA (T : NT) (a s t e : Int) : Int × Int := wE 0 (wrongET T a s t e) (if amountF (T.G (Int.toNat a)) (T.lo (Int.toNat a)) (T.hi (Int.toNat a)) (Int.toNat s) (Int.toNat t) = NONE9 then (0, 3) else (cheapG (T.G (Int.toNat a)) (T.lo (Int.toNat a)) (T.hi (Int.toNat a)) (T.co (Int.toNat a)) (Int.toNat s) (Int.toNat t) (Int.toNat e), 0))
noncomputable def priceA (T : NT) (a s t x : Int) : Int × Int := wE 0 (wrongCT T a s t x) (if amountF (T.G (Int.toNat a)) (T.lo (Int.toNat a)) (T.hi (Int.toNat a)) (Int.toNat s) (Int.toNat t) = NONE9 then (0, 3) else priceG (T.G (Int.toNat a)) (T.lo (Int.toNat a)) (T.hi (Int.toNat a)) (T.co (Int.toNat a)) (Int.toNat s) (Int.toNat t) (Int.toNat x))
end COP
section COC
variable {X : xX} {c : xCx} {I : xIn} {G : Gr} {s t : Nat} {lo hi : Nat → Int} {a0 p : Int}
def kpY (I J : xIn) : Prop := kp [(0, 3), (0, 9), (0, 10), (0, 11), (0, 12), (0, 13), (0, 14)] I J ∧ ∀ j, j ≠ 13 → J (0, 3) j = I (0, 3) j
theorem kpY.fr {I J : xIn} {G : Gr} (h : kpY I J) (hF : FR I G) : FR J G := by
  obtain ⟨g1, g2, g3, g4, g5, g6⟩ := hF
  refine ⟨by rw [h.2 _ (by decide), g1], by rw [h.2 _ (by decide), g2], g3, g4, g5, fun e he => ?_⟩
  rw [h.1 _ (by simp), h.1 _ (by simp)]; exact g6 e he
theorem st_cheapen (hX : xBase X) (d : Nat) (hG : GrOK G) (hs : s < G.n) (ht : t < G.n) (hst : s ≠ t) (hF : FR I (bk G s t)) (hf : Filled I G s t lo hi a0 p) (hb : b100 G.m lo hi) (hco : ∀ e, e < G.m → -20 ≤ I (0, 8) e ∧ I (0, 8) e ≤ 20) (hcm : I (0, 8) G.m = 0) : xRet rU X m_X6_cheapen (d + 3) [xr (0, 2)] c I 0 0 (fun _ I9 => kpY I I9 ∧ ∃ π f, FS G lo hi (isB s t (a0 + p)) f ∧ PT G lo hi (I (0, 8)) f π ∧ Filled I9 G s t (fxl G lo hi (I (0, 8)) π) (fxh G lo hi (I (0, 8)) π) a0 p ∧ b100 G.m (fxl G lo hi (I (0, 8)) π) (fxh G lo hi (I (0, 8)) π)) xNo := by
  obtain ⟨f1, f2, f3, f4, f5, f6⟩ := id hf
  obtain ⟨w1, w2, w3⟩ := fill_pre hG hf hb
  have hn2 := hG.1
  have hm16 := hG.2.2.1
  have hmm : G.m < (bk G s t).m := Nat.lt_succ_self _
  have hcb : ∀ e, e < (bk G s t).m → -20 ≤ I (0, 8) e ∧ I (0, 8) e ≤ 20 := fun e he => by
    by_cases hem : e = G.m
    · rw [hem, hcm]; omega
    · exact hco e (by have : e < G.m + 1 := he; omega)
  have hFS : FS (bk G s t) (I (0, 9)) (I (0, 10)) (isB s t p) (I (0, 11)) := ⟨fun e he => f4 e he, fun x _ => f5 x⟩
  refine xRet_of hX pl_X6_cheapen (LE1 rfl) fun V hV => rg_X6_cheapen_0 hV I ⟨_, fl_cheapen hX d hF (show 1 ≤ G.n by omega) (bk_ne hG hst) hcb w1 hFS (fun g hg => ?_), ?_⟩
  · have h1 : costF (bk G s t) (I (0, 8)) g = sumE G.m (fun e => g e * I (0, 8) e) + g G.m * I (0, 8) G.m := rfl
    have h2 := sumE_bd (n := G.m) (f := fun e => g e * I (0, 8) e) (a := -2000) (b := 2000) fun e he => by
      have a := hg.1 e (Nat.lt_succ_of_lt he)
      have b := f1 e he
      have b9 := hb e he
      have := mul_bd (A := 100) (B := 20) (by omega) (show -100 ≤ g e ∧ g e ≤ 100 by omega) (hco e he)
      show -2000 ≤ g e * I (0, 8) e ∧ g e * I (0, 8) e ≤ 2000
      omega
    rw [h1, hcm, Int.mul_zero]
    omega
  rintro _ J ⟨kJ, j1, j2, j3⟩
  have e9 : J (0, 9) = I (0, 9) := kJ.1 _ (by simp)
  have e10 : J (0, 10) = I (0, 10) := kJ.1 _ (by simp)
  have e8 : J (0, 8) = I (0, 8) := kJ.1 _ (by simp)
  refine ⟨_, fl_keepCheap hX d (kJ.fr hF) (b := isB s t p) (by rw [e9, e10]; exact j1) (by rw [e9, e10, e8]; exact j2) j3 (by rw [e8]; exact hcb), ?_⟩
  rintro _ K ⟨kK, hK⟩
  rw [e9, e10, e8] at hK
  have hIlo : ∀ e, e < G.m → I (0, 9) e = lo e := fun e he => (f1 e he).1
  have hIhi : ∀ e, e < G.m → I (0, 10) e = hi e := fun e he => (f1 e he).2
  have jm := j1.1 G.m hmm
  have hfm : J (0, 11) G.m = a0 := by rw [f2, f3] at jm; omega
  have hFSG : FS G lo hi (isB s t (a0 + p)) (J (0, 11)) := FS_cong4 hIlo hIhi (fun _ _ => rfl) (bk_flow hs ht hst j1 hfm)
  have hPT : PT G lo hi (I (0, 8)) (J (0, 11)) (J (0, 12)) := PT_cong hIlo hIhi (fun _ _ => rfl) (fun _ _ => rfl) (bk_PT j2)
  have hfx := (fx_flow hG.in hFSG hPT).2 ⟨hFSG, rfl⟩
  have hKe : ∀ e, e < G.m → K (0, 9) e = fxl G lo hi (I (0, 8)) (J (0, 12)) e ∧ K (0, 10) e = fxh G lo hi (I (0, 8)) (J (0, 12)) e := fun e he => by
    have a := hK e (Nat.lt_succ_of_lt he)
    have b := fx_bk (s := s) (t := t) (lo := I (0, 9)) (hi := I (0, 10)) (co := I (0, 8)) (π := J (0, 12)) he
    have c := fx_cong (co := I (0, 8)) (π := J (0, 12)) he hIlo hIhi
    rw [a.1, a.2, b.1, b.2]
    exact c
  have hKm := hK G.m hmm
  unfold fxl fxh at hKm
  rw [f2, f3, ite_self, ite_self] at hKm
  refine ⟨⟨(kJ.1.mo (by simp)).tr (kK.mo (by simp)), fun j hj => by rw [kK _ (by simp)]; exact kJ.2 j hj⟩, J (0, 12), J (0, 11), hFSG, hPT, ⟨hKe, hKm.1, hKm.2, fun e he => ?_, fun x => ?_, f6⟩, fun e he => ?_⟩
  · rw [kK (0, 11) (by simp)]
    by_cases hem : e = G.m
    · rw [hem, hKm.1, hKm.2, hfm]; omega
    · have he9 : e < G.m := by omega
      rw [(hKe e he9).1, (hKe e he9).2]
      exact hfx.1 e he9
  · rw [kK (0, 11) (by simp)]
    by_cases hx : x < G.n
    · exact j1.2 x hx
    · rw [nout_off (bk_in9 hG.in hs ht) _ (show G.n ≤ x by omega)]
      unfold isB
      rw [if_neg (show ¬ x = s by omega), if_neg (show ¬ x = t by omega)]
  · have a := hb e he
    have b := hfx.1 e he
    have d := hFSG.1 e he
    unfold fxl fxh
    refine ⟨?_, ?_⟩ <;> split <;> omega
end COC
section COD
variable {X : xX} {c : xCx} {I : xIn} {i : Nat} {G : Gr} {s t : Nat}
theorem cn_tellCheapest (hX : xBase X) (d : Nat) (hC : CG I c i G) (hN : NB I i G.m) (hs : s < G.n) (ht : t < G.n) (hst : s ≠ t) : xRet rU X m_X9_tellCheapest (d + 8) [xr (0, 0), xr (i + 3, 0), xi (s : Int), xi (t : Int)] c I 1 6 (fun _ I9 => kp ((0, 2) :: flP) I I9 ∧ amountF G (I (i + 3, 3)) (I (i + 3, 4)) s t ≠ NONE9 ∧ FR I9 (bk G s t) ∧ CHR G (I (i + 3, 3)) (I (i + 3, 4)) (I (i + 3, 5)) (isB s t (amountF G (I (i + 3, 3)) (I (i + 3, 4)) s t)) (I9 (0, 11)) ∧ (∃ π, PT G (I (i + 3, 3)) (I (i + 3, 4)) (I (i + 3, 5)) (I9 (0, 11)) π) ∧ (∀ e, e < G.m → I9 (0, 6) e = I (i + 3, 3) e ∧ I9 (0, 7) e = I (i + 3, 4) e ∧ I9 (0, 8) e = I (i + 3, 5) e) ∧ I9 (0, 8) G.m = 0 ∧ I9 (0, 9) G.m = I9 (0, 11) G.m ∧ I9 (0, 10) G.m = I9 (0, 11) G.m) (fun e I9 => e = xNSE ∧ kp ((0, 2) :: flP) I I9 ∧ amountF G (I (i + 3, 3)) (I (i + 3, 4)) s t = NONE9) := by
  have hG := hC.2.2.2.1
  refine xRet_of hX pl_X9_tellCheapest (LE1 rfl) fun V hV => rg_X9_tellCheapest_0 hV I _ hC.1 _ _ ⟨_, st_lay hX (d + 3) hC hN hs ht, ?_⟩
  rintro _ I1 hL
  obtain ⟨p1, p2, p3, p4, p5⟩ := hL.pre hN
  obtain ⟨-, l2, l3, l4, l5, l6⟩ := hL
  have hamt : amountF G (I1 (0, 6)) (I1 (0, 7)) s t = amountF G (I (i + 3, 3)) (I (i + 3, 4)) s t := amountF_cong (fun e he => (p3 e he).1) (fun e he => (p3 e he).2.1)
  have hcm : I1 (0, 8) G.m = 0 := by rw [(l3 G.m (Nat.lt_succ_self _)).2.2.1, upL_s]
  refine ⟨_, st_fill hX (d + 3) hG hs ht hst l2 p2 (fun e he => ?_) p4 p5 l4 l5 l6, ?_⟩
  · have := hN e he
    rw [(p3 e he).1, (p3 e he).2.1]
    omega
  rintro v I2 ⟨k2, h2⟩
  have kX : kp ((0, 2) :: flP) I I2 := (kp.tr p1 (k2.1.mo (by simp))).mo (by simp [flP])
  refine ⟨_, _, cn_needFlow hX d v, ?_, ?_⟩
  · rintro e I3 ⟨rfl, rfl, rfl⟩
    rcases h2 with ⟨h2, -⟩ | ⟨-, h2⟩
    · cases h2
    · exact ⟨rfl, kX, by rw [← hamt]; exact h2⟩
  · rintro _ I3 ⟨rfl, rfl⟩
    rcases h2 with ⟨-, a0, p, f1, f2, f3, f4⟩ | ⟨h2, -⟩
    · have hF2 := k2.fr l2
      have e6 : I3 (0, 6) = I1 (0, 6) := k2.1 _ (by simp)
      have e7 : I3 (0, 7) = I1 (0, 7) := k2.1 _ (by simp)
      have e8 : I3 (0, 8) = I1 (0, 8) := k2.1 _ (by simp)
      have hb : b100 G.m (I1 (0, 6)) (I1 (0, 7)) := fun e he => by
        have := hN e he
        rw [(p3 e he).1, (p3 e he).2.1]
        omega
      refine ⟨_, st_cheapen hX (d + 4) hG hs ht hst hF2 f1 hb (fun e he => by
        have := hN e he
        rw [e8, (p3 e he).2.2]
        omega) (by rw [e8]; exact hcm), ?_⟩
      rintro _ I4 ⟨k4, π, f, q1, q2, q3, q4⟩
      have hF4 := k4.fr hF2
      have kX4 : kp ((0, 2) :: flP) I I4 := kX.tr (k4.1.mo (by simp [flP]))
      rw [show I4 (i + 3, 0) = I (i + 3, 0) from kX4 _ (by simp [flP]), hC.2.2.1]
      refine ⟨_, st_tellLeastRow hX (d + 3) hG hs ht hst hF4 q3 q4, ?_⟩
      rintro _ I5 ⟨k5, r1, r2⟩
      have kX5 : kp ((0, 2) :: flP) I I5 := kX4.tr (k5.1.mo (by simp [flP]))
      have z6 : I5 (0, 6) = I1 (0, 6) := by rw [k5.1 _ (by simp), k4.1 _ (by simp), e6]
      have z7 : I5 (0, 7) = I1 (0, 7) := by rw [k5.1 _ (by simp), k4.1 _ (by simp), e7]
      have z8 : I5 (0, 8) = I1 (0, 8) := by rw [k5.1 _ (by simp), k4.1 _ (by simp), e8]
      rw [e8] at q2 q3 q4 r2
      have hCH := CHR_of hG.in q1 q2
      have hz : ∀ e, e < G.m → (lxC G (fxl G (I1 (0, 6)) (I1 (0, 7)) (I1 (0, 8)) π) (fxh G (I1 (0, 6)) (I1 (0, 7)) (I1 (0, 8)) π) (isB s t (a0 + p)) G.m).1 e = I5 (0, 11) e := fun e he => by
        rw [r2 e he, lxF_C hs ht hst]
      have w1 : ∀ e, e < G.m → I1 (0, 6) e = I (i + 3, 3) e := fun e he => (p3 e he).1
      have w2 : ∀ e, e < G.m → I1 (0, 7) e = I (i + 3, 4) e := fun e he => (p3 e he).2.1
      have w3 : ∀ e, e < G.m → I1 (0, 8) e = I (i + 3, 5) e := fun e he => (p3 e he).2.2
      have hCH9 := CHR_cong w1 w2 w3 hz hCH
      have hamt9 := amountF_cong (s := s) (t := t) w1 w2
      rw [f2, hamt9] at hCH9
      rw [hamt9] at f3
      have hle : costF G (I1 (0, 8)) (lxC G (fxl G (I1 (0, 6)) (I1 (0, 7)) (I1 (0, 8)) π) (fxh G (I1 (0, 6)) (I1 (0, 7)) (I1 (0, 8)) π) (isB s t (a0 + p)) G.m).1 = costF G (I1 (0, 8)) f := by
        have a := hCH.2.1 f q1
        have b := (opt hG.in q1 q2 hCH.1).1
        omega
      obtain ⟨-, t2, t3, t4, -, -⟩ := r1
      have tm := t4 G.m (Nat.lt_succ_self _)
      exact ⟨kX5, f3, k5.fr hF4, hCH9, ⟨π, PT_cong w1 w2 w3 hz (PT_opt hG.in q1 q2 hCH.1 hle)⟩, fun e he => by rw [z6, z7, z8]; exact p3 e he, by rw [z8]; exact hcm, by omega, by omega⟩
    · cases h2
end COD
