/-! both sides' states behind a call -/
section GLU
variable {I J : xIn} {c : xCx} {σ : St9}
theorem cN.pT (hC : CC I c σ) {T9 : NT} (h : ∀ p : xP, p.1 < 3 → J p = I p) (h2 : CI J c T9) : cN I c (T9, σ.2) J :=
  ⟨fun p hp => h p (by omega), h2, hC.2.1.fr (h _ (by decide)), hC.2.2.1.fr (h _ (by decide)) (h _ (by decide)) (h _ (by decide)), hC.2.2.2.1.fr (by rw [h _ (by decide)]) (h _ (by decide)) (h _ (by decide)) (h _ (by decide)), hC.2.2.2.2.fr (by rw [h _ (by decide)]) (by rw [h _ (by decide)]) (h _ (by decide))⟩
theorem cN.pK (hC : CC I c σ) {K9 : Nat → Nat} (h : kp [(0, 21)] I J) (h2 : CL J K9) : cN I c (σ.T, K9, σ.2.2) J :=
  ⟨h.s1 rfl, hC.1.fr (h.at _ rfl) (h.n3 rfl) rfl, h2, hC.2.2.1.fr (h.at _ rfl) (h.at _ rfl) (h.at _ rfl), hC.2.2.2.1.fr (by rw [h.at _ rfl]) (h.at _ rfl) (h.at _ rfl) (h.at _ rfl), hC.2.2.2.2.fr (by rw [h.at _ rfl]) (by rw [h.at _ rfl]) (h.at _ rfl)⟩
theorem cN.pL (hC : CC I c σ) {L9 : LG} {ps : List xP} (h : kp ps I J) (hs : (ps.all fun q => [(0, 24), (0, 25), (0, 26)].contains q) = true) (h2 : CLG J L9) : cN I c (σ.T, σ.K, L9, σ.2.2.2) J := by
  have h : kp [(0, 24), (0, 25), (0, 26)] I J := fun p hp => h p (fun z => hp (List.contains_iff_mem.mp (List.all_eq_true.mp hs p z)))
  exact ⟨h.s1 rfl, hC.1.fr (h.at _ rfl) (h.n3 rfl) rfl, hC.2.1.fr (h.at _ rfl), h2, hC.2.2.2.1.fr (by rw [h.at _ rfl]) (h.at _ rfl) (h.at _ rfl) (h.at _ rfl), hC.2.2.2.2.fr (by rw [h.at _ rfl]) (by rw [h.at _ rfl]) (h.at _ rfl)⟩
theorem cN.pP (hC : CC I c σ) {P9 : PJ} {ps : List xP} (h : kp ps I J) (hs : (ps.all fun q => [(0, 32), (0, 33), (0, 34), (0, 35)].contains q) = true) (h2 : CPJ J P9) : cN I c (σ.T, σ.K, σ.L, P9, σ.B) J := by
  have h : kp [(0, 32), (0, 33), (0, 34), (0, 35)] I J := fun p hp => h p (fun z => hp (List.contains_iff_mem.mp (List.all_eq_true.mp hs p z)))
  exact ⟨h.s1 rfl, hC.1.fr (h.at _ rfl) (h.n3 rfl) rfl, hC.2.1.fr (h.at _ rfl), hC.2.2.1.fr (h.at _ rfl) (h.at _ rfl) (h.at _ rfl), h2, hC.2.2.2.2.fr (by rw [h.at _ rfl]) (by rw [h.at _ rfl]) (h.at _ rfl)⟩
theorem cN.pB (hC : CC I c σ) {B9 : TB} {ps : List xP} (h : kp ps I J) (hs : (ps.all fun q => [(0, 27), (0, 28)].contains q) = true) (h2 : CTB J B9) : cN I c (σ.T, σ.K, σ.L, σ.P, B9) J := by
  have h : kp [(0, 27), (0, 28)] I J := fun p hp => h p (fun z => hp (List.contains_iff_mem.mp (List.all_eq_true.mp hs p z)))
  exact ⟨h.s1 rfl, hC.1.fr (h.at _ rfl) (h.n3 rfl) rfl, hC.2.1.fr (h.at _ rfl), hC.2.2.1.fr (h.at _ rfl) (h.at _ rfl) (h.at _ rfl), hC.2.2.2.1.fr (by rw [h.at _ rfl]) (h.at _ rfl) (h.at _ rfl) (h.at _ rfl), h2⟩
theorem cN.eT (hC : CC I c σ) {T9 : NT} (hJ : J = I) (h : T9 = σ.T) : cN I c (T9, σ.2) J := by subst hJ; subst h; exact ⟨fun _ _ => rfl, hC⟩
theorem cN.eK (hC : CC I c σ) {K9 : Nat → Nat} (hJ : J = I) (h : K9 = σ.K) : cN I c (σ.T, K9, σ.2.2) J := by subst hJ; subst h; exact ⟨fun _ _ => rfl, hC⟩
theorem cN.eL (hC : CC I c σ) {L9 : LG} (hJ : J = I) (h : L9 = σ.L) : cN I c (σ.T, σ.K, L9, σ.2.2.2) J := by subst hJ; subst h; exact ⟨fun _ _ => rfl, hC⟩
theorem cN.eP (hC : CC I c σ) {P9 : PJ} (hJ : J = I) (h : P9 = σ.P) : cN I c (σ.T, σ.K, σ.L, P9, σ.B) J := by subst hJ; subst h; exact ⟨fun _ _ => rfl, hC⟩
theorem cN.eB (hC : CC I c σ) {B9 : TB} (hJ : J = I) (h : B9 = σ.B) : cN I c (σ.T, σ.K, σ.L, σ.P, B9) J := by subst hJ; subst h; exact ⟨fun _ _ => rfl, hC⟩
theorem mN9.pT (hM : MM I σ) {T9 : NT} (h : keepR I J) (h2 : MI J T9) : mN9 I (T9, σ.2) J := by
  have hr : ∀ j, 9 ≤ j → j ≤ 16 → J (1, j) = I (1, j) := fun j h1 h2 => h.1 _ (Or.inr ⟨h1, h2⟩)
  have hf : ∀ k, k ≠ 0 → k ≠ 27 → k ≠ 28 → k ≠ 32 → J (1, 0) k = I (1, 0) k := h.2
  exact ⟨h.sN, h2, hM.2.1.fr (hr _ (by decide) (by decide)), hM.2.2.1.fr (hf _ (by decide) (by decide) (by decide) (by decide)) (hr _ (by decide) (by decide)) (hr _ (by decide) (by decide)), hM.2.2.2.1.fr (hf _ (by decide) (by decide) (by decide) (by decide)) (hr _ (by decide) (by decide)) (hr _ (by decide) (by decide)) (hr _ (by decide) (by decide)), hM.2.2.2.2.fr (hf _ (by decide) (by decide) (by decide) (by decide)) (hf _ (by decide) (by decide) (by decide) (by decide)) (hr _ (by decide) (by decide))⟩
theorem mN9.nT (hM : MM I σ) {T9 : NT} (h : ∀ p : xP, p ≠ (1, 0) → p ≠ (1, 1) → J p = I p) (hf : ∀ k, k ≠ 0 → k ≠ 32 → J (1, 0) k = I (1, 0) k) (h2 : MI J T9) : mN9 I (T9, σ.2) J :=
  ⟨fun p hp => h p (fun z => hp (by rw [z])) (fun z => hp (by rw [z])), h2, hM.2.1.fr (h _ (by decide) (by decide)), hM.2.2.1.fr (hf _ (by decide) (by decide)) (h _ (by decide) (by decide)) (h _ (by decide) (by decide)), hM.2.2.2.1.fr (hf _ (by decide) (by decide)) (h _ (by decide) (by decide)) (h _ (by decide) (by decide)) (h _ (by decide) (by decide)), hM.2.2.2.2.fr (hf _ (by decide) (by decide)) (hf _ (by decide) (by decide)) (h _ (by decide) (by decide))⟩
theorem kp.row {ps : List xP} (h : kp ps I J) {a b : Nat} (hs : (ps.all fun q => !(decide (a ≤ q.2) && decide (q.2 ≤ b))) = true) (j : Nat) (h1 : a ≤ j) (h2 : j ≤ b) : J (1, j) = I (1, j) := by
  refine h _ (fun z => ?_)
  have := List.all_eq_true.mp hs _ z
  simp [h1, h2] at this
theorem mN9.pK (hM : MM I σ) {K9 : Nat → Nat} (h : kp [(1, 9), (1, 0)] I J) (hf : ∀ k, k ≠ 32 → J (1, 0) k = I (1, 0) k) (h2 : ML J K9) : mN9 I (σ.T, K9, σ.2.2) J :=
  ⟨h.sN rfl, hM.1.fr (hf _ (by decide)) (fun j h1 h8 => h.row (a := 1) (b := 8) rfl j h1 h8), h2, hM.2.2.1.fr (hf _ (by decide)) (h.at _ rfl) (h.at _ rfl), hM.2.2.2.1.fr (hf _ (by decide)) (h.at _ rfl) (h.at _ rfl) (h.at _ rfl), hM.2.2.2.2.fr (hf _ (by decide)) (hf _ (by decide)) (h.at _ rfl)⟩
theorem mN9.pL (hM : MM I σ) {L9 : LG} (h9 : kpLG I J) (h2 : MLG J L9) : mN9 I (σ.T, σ.K, L9, σ.2.2.2) J := by
  obtain ⟨h, hf⟩ := h9
  exact ⟨h.sN rfl, hM.1.fr (hf _ (by decide) (by decide)) (fun j h1 h8 => h.row (a := 1) (b := 8) rfl j h1 h8), hM.2.1.fr (h.at _ rfl), h2, hM.2.2.2.1.fr (hf _ (by decide) (by decide)) (h.at _ rfl) (h.at _ rfl) (h.at _ rfl), hM.2.2.2.2.fr (hf _ (by decide) (by decide)) (hf _ (by decide) (by decide)) (h.at _ rfl)⟩
theorem mN9.pP (hM : MM I σ) {P9 : PJ} (h9 : kpPJ I J) (h2 : MPJ J P9) : mN9 I (σ.T, σ.K, σ.L, P9, σ.B) J := by
  obtain ⟨h, hf⟩ := h9
  exact ⟨h.sN rfl, hM.1.fr (hf _ (by decide) (by decide)) (fun j h1 h8 => h.row (a := 1) (b := 8) rfl j h1 h8), hM.2.1.fr (h.at _ rfl), hM.2.2.1.fr (hf _ (by decide) (by decide)) (h.at _ rfl) (h.at _ rfl), h2, hM.2.2.2.2.fr (hf _ (by decide) (by decide)) (hf _ (by decide) (by decide)) (h.at _ rfl)⟩
theorem mN9.pB (hM : MM I σ) {B9 : TB} (h : kp [(1, 0), (1, 12)] I J) (hf : ∀ k, k ≠ 13 → k ≠ 14 → k ≠ 32 → J (1, 0) k = I (1, 0) k) (h2 : MTB J B9) : mN9 I (σ.T, σ.K, σ.L, σ.P, B9) J :=
  ⟨h.sN rfl, hM.1.fr (hf _ (by decide) (by decide) (by decide)) (fun j h1 h8 => h.row (a := 1) (b := 8) rfl j h1 h8), hM.2.1.fr (h.at _ rfl), hM.2.2.1.fr (hf _ (by decide) (by decide) (by decide)) (h.at _ rfl) (h.at _ rfl), hM.2.2.2.1.fr (hf _ (by decide) (by decide) (by decide)) (h.at _ rfl) (h.at _ rfl) (h.at _ rfl), h2⟩
theorem mN9.r (hM : MM I σ) (h : kp [(1, 0), (1, 13)] I J) (hf : ∀ k, k ≠ 32 → J (1, 0) k = I (1, 0) k) : mN9 I σ J :=
  ⟨h.sN rfl, hM.g (fun j h1 h2 h3 => h.at _ (by
    have : ((1, j) : xP) ≠ (1, 0) := fun z => by have := (Prod.mk.inj z).2; omega
    have h9 : ((1, j) : xP) ≠ (1, 13) := fun z => by have := (Prod.mk.inj z).2; omega
    rw [List.contains_eq_mem]
    simp [h3, show j ≠ 0 by omega])) (fun k _ _ h3 => hf k h3)⟩
/-- how the law's loop goes on -/
def Nxt (V : xT) (b i k n : Nat) : Prop := ∀ (J : xIn) (c9 : xCx) (σ9 : St9), SK σ9 → CC J c9 σ9 → MM J σ9 → c9.2.2.2 (2, 9) = b → ∀ k9 n9, k9 ≤ k + 10 → n9 ≤ n + 200 → V 3918 [(0, xr (2, 9)), (1, xr (0, 0)), (2, xr (1, 0)), (3, xr (2, 0)), (4, xr (2, 1)), (5, xi (i : Int))] [] (J, xst c9) k9 n9
theorem Nxt.go {V : xT} {b i k n mc9 ms9 : Nat} (h : Nxt V b i k n) {σ9 : St9} (hσ : SK σ9) (hA : c.2.2.2 (2, 9) = b) (h1 : mc9 ≤ 10) (h2 : ms9 ≤ 200) : ∀ (J : xIn) (c9 : xCx), (CC J c9 σ9 ∧ MM J σ9) → (∀ p : xP, p.1 < 3 → c9.2.2.2 p = c.2.2.2 p) → V 3918 [(0, xr (2, 9)), (1, xr (0, 0)), (2, xr (1, 0)), (3, xr (2, 0)), (4, xr (2, 1)), (5, xi (i : Int))] [] (J, xst c9) (k + mc9) (n + ms9) :=
  fun J c9 hD hA9 => h J c9 σ9 hσ hD.1 hD.2 ((hA9 _ (by decide)).trans hA) _ _ (by omega) (by omega)
/-- the reference's turn, after the class's -/
theorem refT {α : Type} {res : α → Option xV} {X : xX} {z : xM} {d : Nat} {av : List xV} {I9 : xIn} {c9 : xCx} {σ9 : St9} {F : α × Int} {mc9 ms9 : Nat} {P : α → xIn → Prop} (hC9 : cN I c σ9 I9 ∧ c9.1 = c.1) (hR : xRet res X z d av c9 I9 mc9 ms9 P xNo) (hP : ∀ v J, P v J → mN9 I9 σ9 J ∧ (v, J (1, 0) 32) = F) : xRet res X z d av c9 I9 mc9 ms9 (fun v J => (CC J c9 σ9 ∧ MM J σ9) ∧ (v, J (1, 0) 32) = F) xNo :=
  xRet_w hR (fun v J h => ⟨⟨hC9.1.2.sm (hP v J h).1.1 hC9.2, (hP v J h).1.2⟩, (hP v J h).2⟩) (fun _ _ h => h)
end GLU
theorem cutSum_2 (T : NT) (a s t S : Int) : (cutSumA T a s t S).2 ≤ 2 := by
  unfold cutSumA wE wrongT cutSumG
  repeat (split <;> try (first | decide | omega))
theorem netA_ok {T : NT} (hT : NTok T) (a : Int) : NTok (netA T a).2 := by
  unfold netA
  split
  · split
    · exact hT
    · rename_i h1 h2
      exact hT.add h2 (by omega)
  · exact hT
theorem cN.nT {I J : xIn} {c c9 : xCx} {σ : St9} (hC : CC I c σ) {T9 : NT} (h : ∀ p : xP, p.1 < 3 → p ≠ (0, 0) → J p = I p) (h2 : CI J c9 T9) : CC J c9 (T9, σ.2) :=
  ⟨h2, hC.2.1.fr (h _ (by decide) (by decide)), hC.2.2.1.fr (h _ (by decide) (by decide)) (h _ (by decide) (by decide)) (h _ (by decide) (by decide)), hC.2.2.2.1.fr (by rw [h _ (by decide) (by decide)]) (h _ (by decide) (by decide)) (h _ (by decide) (by decide)) (h _ (by decide) (by decide)), hC.2.2.2.2.fr (by rw [h _ (by decide) (by decide)]) (by rw [h _ (by decide) (by decide)]) (h _ (by decide) (by decide))⟩
theorem xMet_w {X : xX} {y : xM} {d : Nat} {av : List xV} {h : xS} {mc ms : Nat} {p1 p2 : xO → xS → Prop} (hM : xMet X y d av h mc ms p1) (hp : ∀ o h9, p1 o h9 → p2 o h9) : xMet X y d av h mc ms p2 := by
  refine MetFree.mono hM (fun _ _ q => q) (fun _ _ _ _ _ q => q) ?_
  rintro a s o t - (⟨⟨⟨r, h', h1, h2, h3⟩, h4⟩, h5⟩ | ⟨q, h1, h2⟩)
  · exact Or.inl ⟨⟨⟨r, h', h1, hp _ _ h2, h3⟩, h4⟩, h5⟩
  · obtain ⟨e9, ce, L, ⟨h', hp9, hw⟩, rest⟩ := h2
    exact Or.inr ⟨q, h1, e9, ce, L, ⟨h', hp _ _ hp9, hw⟩, rest⟩
set_option maxRecDepth 100000 in
theorem li_1 {X : xX} (hX : xBase X) {V : xT} {mc ms : Nat} (hE : xEng X m_L_law 12 mc ms V) {b L : Nat} {xs : Nat → Int32} (hs : LSc X b L xs) {c : xCx} {I : xIn} {σ : St9} (hσ : SK σ) (hC : CC I c σ) (hM : MM I σ) (hA : c.2.2.2 (2, 9) = b) {i : Nat} (hi : i + 7 ≤ L) {k n : Nat} (hk : k + 10 ≤ mc) (hn : n + 200 ≤ ms) (next : Nxt V b i k n) : V 316 [(0, xr (2, 9)), (1, xr (0, 0)), (2, xr (1, 0)), (3, xr (2, 0)), (4, xr (2, 1)), (5, xi (i : Int))] [] (I, xst c) k n := by
  refine lc_1 hX hE hs hA hi (mc9 := 4) (ms9 := 24) (by omega) (by omega) (F := (edgeA σ.T (sx xs (i + 1)) (sx xs (i + 2)) (sx xs (i + 3)) (sx xs (i + 4)) (sx xs (i + 5)) (sx xs (i + 6))).1) (C9 := fun J c9 => cN I c ((edgeA σ.T (sx xs (i + 1)) (sx xs (i + 2)) (sx xs (i + 3)) (sx xs (i + 4)) (sx xs (i + 5)) (sx xs (i + 6))).2, σ.2) J ∧ c9.1 = c.1) (D9 := fun J c9 => CC J c9 ((edgeA σ.T (sx xs (i + 1)) (sx xs (i + 2)) (sx xs (i + 3)) (sx xs (i + 4)) (sx xs (i + 5)) (sx xs (i + 6))).2, σ.2) ∧ MM J ((edgeA σ.T (sx xs (i + 1)) (sx xs (i + 2)) (sx xs (i + 3)) (sx xs (i + 4)) (sx xs (i + 5)) (sx xs (i + 6))).2, σ.2)) ?_ ?_ (next.go (σ9 := ((edgeA σ.T (sx xs (i + 1)) (sx xs (i + 2)) (sx xs (i + 3)) (sx xs (i + 4)) (sx xs (i + 5)) (sx xs (i + 6))).2, σ.2)) ⟨edgeA_ok hσ.1 _ _ _ _ _ _, hσ.2⟩ hA (by omega) (by omega))
  · exact wr_edge hX (xRet_w (cn_edge hX 2 hσ.1 hC.1 (xin_ti _) (xin_ti _) (xin_ti _) (xin_ti _) (xin_ti _) (xin_ti _)) (fun v J h => ⟨cN.pT hC h.1 h.2.1, h.2.2⟩) (fun x J h => ⟨cN.eT hC h.1 h.2.1, h.2.2⟩))
  · intro I9 c9 hC9
    have hM9 : MM I9 σ := hM.sm hC9.1.1
    exact refT hC9 (ok_edge hX 7 hσ.1 hM9.1 (xin_ti _) (xin_ti _) (xin_ti _) (xin_ti _) (xin_ti _) (xin_ti _)) (fun v J h => ⟨mN9.pT hM9 h.1 h.2.1, h.2.2⟩)

set_option maxRecDepth 100000 in
theorem li_2 {X : xX} (hX : xBase X) {V : xT} {mc ms : Nat} (hE : xEng X m_L_law 12 mc ms V) {b L : Nat} {xs : Nat → Int32} (hs : LSc X b L xs) {c : xCx} {I : xIn} {σ : St9} (hσ : SK σ) (hC : CC I c σ) (hM : MM I σ) (hA : c.2.2.2 (2, 9) = b) {i : Nat} (hi : i + 7 ≤ L) {k n : Nat} (hk : k + 10 ≤ mc) (hn : n + 200 ≤ ms) (next : Nxt V b i k n) : V 434 [(0, xr (2, 9)), (1, xr (0, 0)), (2, xr (1, 0)), (3, xr (2, 0)), (4, xr (2, 1)), (5, xi (i : Int))] [] (I, xst c) k n := by
  refine lc_2 hX hE hs hA hi (mc9 := 3) (ms9 := 18) (by omega) (by omega) (F := (changeA σ.T (sx xs (i + 1)) (sx xs (i + 2)) (sx xs (i + 3)) (sx xs (i + 4)) (sx xs (i + 5))).1) (C9 := fun J c9 => cN I c ((changeA σ.T (sx xs (i + 1)) (sx xs (i + 2)) (sx xs (i + 3)) (sx xs (i + 4)) (sx xs (i + 5))).2, σ.2) J ∧ c9.1 = c.1) (D9 := fun J c9 => CC J c9 ((changeA σ.T (sx xs (i + 1)) (sx xs (i + 2)) (sx xs (i + 3)) (sx xs (i + 4)) (sx xs (i + 5))).2, σ.2) ∧ MM J ((changeA σ.T (sx xs (i + 1)) (sx xs (i + 2)) (sx xs (i + 3)) (sx xs (i + 4)) (sx xs (i + 5))).2, σ.2)) ?_ ?_ (next.go (σ9 := ((changeA σ.T (sx xs (i + 1)) (sx xs (i + 2)) (sx xs (i + 3)) (sx xs (i + 4)) (sx xs (i + 5))).2, σ.2)) ⟨changeA_ok hσ.1 _ _ _ _ _, hσ.2⟩ hA (by omega) (by omega))
  · exact wr_change hX (xRet_w (cn_change hX 2 hσ.1 hC.1 (xin_ti _) (xin_ti _) (xin_ti _) (xin_ti _) (xin_ti _)) (fun v J h => ⟨cN.pT hC h.1 h.2.1, h.2.2⟩) (fun x J h => ⟨cN.eT hC h.1 h.2.1, h.2.2⟩))
  · intro I9 c9 hC9
    have hM9 : MM I9 σ := hM.sm hC9.1.1
    exact refT hC9 (ok_change hX 8 hσ.1 hM9.1 (xin_ti _) (xin_ti _) (xin_ti _) (xin_ti _) (xin_ti _)) (fun v J h => ⟨mN9.pT hM9 h.1 h.2.1, h.2.2⟩)

set_option maxRecDepth 100000 in
theorem li_3 {X : xX} (hX : xBase X) {V : xT} {mc ms : Nat} (hE : xEng X m_L_law 12 mc ms V) {b L : Nat} {xs : Nat → Int32} (hs : LSc X b L xs) {c : xCx} {I : xIn} {σ : St9} (hσ : SK σ) (hC : CC I c σ) (hM : MM I σ) (hA : c.2.2.2 (2, 9) = b) {i : Nat} (hi : i + 7 ≤ L) {k n : Nat} (hk : k + 10 ≤ mc) (hn : n + 200 ≤ ms) (next : Nxt V b i k n) : V 538 [(0, xr (2, 9)), (1, xr (0, 0)), (2, xr (1, 0)), (3, xr (2, 0)), (4, xr (2, 1)), (5, xi (i : Int))] [] (I, xst c) k n := by
  refine lc_3 hX hE hs hA hi (mc9 := 2) (ms9 := 12) (by omega) (by omega) (F := (dropA σ.T (sx xs (i + 1)) (sx xs (i + 2))).1) (C9 := fun J c9 => cN I c ((dropA σ.T (sx xs (i + 1)) (sx xs (i + 2))).2, σ.2) J ∧ c9.1 = c.1) (D9 := fun J c9 => CC J c9 ((dropA σ.T (sx xs (i + 1)) (sx xs (i + 2))).2, σ.2) ∧ MM J ((dropA σ.T (sx xs (i + 1)) (sx xs (i + 2))).2, σ.2)) ?_ ?_ (next.go (σ9 := ((dropA σ.T (sx xs (i + 1)) (sx xs (i + 2))).2, σ.2)) ⟨dropA_ok hσ.1 _ _, hσ.2⟩ hA (by omega) (by omega))
  · exact wr_drop hX (xRet_w (cn_drop hX 2 hσ.1 hC.1 (xin_ti _) (xin_ti _)) (fun v J h => ⟨cN.pT hC h.1 h.2.1, h.2.2⟩) (fun x J h => ⟨cN.eT hC h.1 h.2.1, h.2.2⟩))
  · intro I9 c9 hC9
    have hM9 : MM I9 σ := hM.sm hC9.1.1
    exact refT hC9 (ok_drop hX 9 hσ.1 hM9.1 (xin_ti _) (xin_ti _)) (fun v J h => ⟨mN9.pT hM9 h.1 h.2.1, h.2.2⟩)

set_option maxRecDepth 100000 in
theorem li_4 {X : xX} (hX : xBase X) {V : xT} {mc ms : Nat} (hE : xEng X m_L_law 12 mc ms V) {b L : Nat} {xs : Nat → Int32} (hs : LSc X b L xs) {c : xCx} {I : xIn} {σ : St9} (hσ : SK σ) (hC : CC I c σ) (hM : MM I σ) (hA : c.2.2.2 (2, 9) = b) {i : Nat} (hi : i + 7 ≤ L) {k n : Nat} (hk : k + 10 ≤ mc) (hn : n + 200 ≤ ms) (next : Nxt V b i k n) : V 606 [(0, xr (2, 9)), (1, xr (0, 0)), (2, xr (1, 0)), (3, xr (2, 0)), (4, xr (2, 1)), (5, xi (i : Int))] [] (I, xst c) k n := by
  refine lc_4 hX hE hs hA hi (mc9 := 1) (ms9 := 6) (by omega) (by omega) (F := edgesA σ.T (sx xs (i + 1))) (C9 := fun J c9 => cN I c σ J ∧ c9.1 = c.1) (D9 := fun J c9 => CC J c9 σ ∧ MM J σ) ?_ ?_ (next.go (σ9 := σ) hσ hA (by omega) (by omega))
  · exact wr_edges hX (xRet_w (cn_edges hX 2 hσ.1 hC.1 (xin_ti _)) (fun v J h => by first | exact ⟨cN.k hC h.1, h.2⟩ | exact ⟨cN.e hC h.1, h.2⟩ | exact ⟨cN.k hC (kpX.C h.1), h.2⟩) (fun x J h => by first | exact ⟨cN.k hC h.1, h.2⟩ | exact ⟨cN.e hC h.1, h.2⟩ | exact ⟨cN.k hC h.1, exN.L h.2⟩ | exact ⟨cN.k hC (kpX.C h.1), exN.L h.2.1⟩))
  · intro I9 c9 hC9
    have hM9 : MM I9 σ := hM.sm hC9.1.1
    exact refT hC9 (ok_edges hX 9 hσ.1 hM9.1 (xin_ti _)) (fun v J h => ⟨mN9.k hM9 h.1, h.2⟩)

set_option maxRecDepth 100000 in
theorem li_5 {X : xX} (hX : xBase X) {V : xT} {mc ms : Nat} (hE : xEng X m_L_law 12 mc ms V) {b L : Nat} {xs : Nat → Int32} (hs : LSc X b L xs) {c : xCx} {I : xIn} {σ : St9} (hσ : SK σ) (hC : CC I c σ) (hM : MM I σ) (hA : c.2.2.2 (2, 9) = b) {i : Nat} (hi : i + 7 ≤ L) {k n : Nat} (hk : k + 10 ≤ mc) (hn : n + 200 ≤ ms) (next : Nxt V b i k n) : V 662 [(0, xr (2, 9)), (1, xr (0, 0)), (2, xr (1, 0)), (3, xr (2, 0)), (4, xr (2, 1)), (5, xi (i : Int))] [] (I, xst c) k n := by
  refine lc_5 hX hE hs hA hi (mc9 := 3) (ms9 := 18) (by omega) (by omega) (F := (supplyA σ.T (sx xs (i + 1)) (sx xs (i + 2)) (sx xs (i + 3))).1) (C9 := fun J c9 => cN I c ((supplyA σ.T (sx xs (i + 1)) (sx xs (i + 2)) (sx xs (i + 3))).2, σ.2) J ∧ c9.1 = c.1) (D9 := fun J c9 => CC J c9 ((supplyA σ.T (sx xs (i + 1)) (sx xs (i + 2)) (sx xs (i + 3))).2, σ.2) ∧ MM J ((supplyA σ.T (sx xs (i + 1)) (sx xs (i + 2)) (sx xs (i + 3))).2, σ.2)) ?_ ?_ (next.go (σ9 := ((supplyA σ.T (sx xs (i + 1)) (sx xs (i + 2)) (sx xs (i + 3))).2, σ.2)) ⟨supplyA_ok hσ.1 _ _ _, hσ.2⟩ hA (by omega) (by omega))
  · exact wr_supply hX (xRet_w (cn_supply hX 2 hσ.1 hC.1 (xin_ti _) (xin_ti _) (xin_ti _)) (fun v J h => ⟨cN.pT hC h.1 h.2.1, h.2.2⟩) (fun x J h => ⟨cN.eT hC h.1 h.2.1, h.2.2⟩))
  · intro I9 c9 hC9
    have hM9 : MM I9 σ := hM.sm hC9.1.1
    exact refT hC9 (ok_supply hX 8 hσ.1 hM9.1 (xin_ti _) (xin_ti _) (xin_ti _)) (fun v J h => ⟨mN9.pT hM9 h.1 h.2.1, h.2.2⟩)

set_option maxRecDepth 100000 in
theorem li_6 {X : xX} (hX : xBase X) {V : xT} {mc ms : Nat} (hE : xEng X m_L_law 12 mc ms V) {b L : Nat} {xs : Nat → Int32} (hs : LSc X b L xs) {c : xCx} {I : xIn} {σ : St9} (hσ : SK σ) (hC : CC I c σ) (hM : MM I σ) (hA : c.2.2.2 (2, 9) = b) {i : Nat} (hi : i + 7 ≤ L) {k n : Nat} (hk : k + 10 ≤ mc) (hn : n + 200 ≤ ms) (next : Nxt V b i k n) : V 742 [(0, xr (2, 9)), (1, xr (0, 0)), (2, xr (1, 0)), (3, xr (2, 0)), (4, xr (2, 1)), (5, xi (i : Int))] [] (I, xst c) k n := by
  refine lc_6 hX hE hs hA hi (mc9 := 3) (ms9 := 18) (by omega) (by omega) (F := mostV σ.T (sx xs (i + 1)) (sx xs (i + 2)) (sx xs (i + 3))) (C9 := fun J c9 => cN I c σ J ∧ c9.1 = c.1) (D9 := fun J c9 => CC J c9 σ ∧ MM J σ) ?_ ?_ (next.go (σ9 := σ) hσ hA (by omega) (by omega))
  · exact wr_most hX (xRet_w (cn_most hX 1 hσ.1 hC.1 (xin_ti _) (xin_ti _) (xin_ti _)) (fun v J h => by first | exact ⟨cN.k hC h.1, h.2⟩ | exact ⟨cN.e hC h.1, h.2⟩ | exact ⟨cN.k hC (kpX.C h.1), h.2⟩) (fun x J h => by first | exact ⟨cN.k hC h.1, h.2⟩ | exact ⟨cN.e hC h.1, h.2⟩ | exact ⟨cN.k hC h.1, exN.L h.2⟩ | exact ⟨cN.k hC (kpX.C h.1), exN.L h.2.1⟩))
  · intro I9 c9 hC9
    have hM9 : MM I9 σ := hM.sm hC9.1.1
    exact refT hC9 (ok_most hX 6 hσ.1 hM9.1 (xin_ti _) (xin_ti _) (xin_ti _)) (fun v J h => ⟨mN9.k hM9 h.1, h.2.2⟩)

set_option maxRecDepth 100000 in
theorem li_7 {X : xX} (hX : xBase X) {V : xT} {mc ms : Nat} (hE : xEng X m_L_law 12 mc ms V) {b L : Nat} {xs : Nat → Int32} (hs : LSc X b L xs) {c : xCx} {I : xIn} {σ : St9} (hσ : SK σ) (hC : CC I c σ) (hM : MM I σ) (hA : c.2.2.2 (2, 9) = b) {i : Nat} (hi : i + 7 ≤ L) {k n : Nat} (hk : k + 10 ≤ mc) (hn : n + 200 ≤ ms) (next : Nxt V b i k n) : V 822 [(0, xr (2, 9)), (1, xr (0, 0)), (2, xr (1, 0)), (3, xr (2, 0)), (4, xr (2, 1)), (5, xi (i : Int))] [] (I, xst c) k n := by
  refine lc_7 hX hE hs hA hi (mc9 := 4) (ms9 := 24) (by omega) (by omega) (F := flowV σ.T (sx xs (i + 1)) (sx xs (i + 2)) (sx xs (i + 3)) (sx xs (i + 4))) (C9 := fun J c9 => cN I c σ J ∧ c9.1 = c.1) (D9 := fun J c9 => CC J c9 σ ∧ MM J σ) ?_ ?_ (next.go (σ9 := σ) hσ hA (by omega) (by omega))
  · exact wr_flow hX (xRet_w (cn_flow hX 1 hσ.1 hC.1 (xin_ti _) (xin_ti _) (xin_ti _) (xin_ti _)) (fun v J h => by first | exact ⟨cN.k hC h.1, h.2⟩ | exact ⟨cN.e hC h.1, h.2⟩ | exact ⟨cN.k hC (kpX.C h.1), h.2⟩) (fun x J h => by first | exact ⟨cN.k hC h.1, h.2⟩ | exact ⟨cN.e hC h.1, h.2⟩ | exact ⟨cN.k hC h.1, exN.L h.2⟩ | exact ⟨cN.k hC (kpX.C h.1), exN.L h.2.1⟩))
  · intro I9 c9 hC9
    have hM9 : MM I9 σ := hM.sm hC9.1.1
    exact refT hC9 (ok_flow hX 5 hσ.1 hM9.1 (xin_ti _) (xin_ti _) (xin_ti _) (xin_ti _)) (fun v J h => ⟨mN9.k hM9 h.1, h.2⟩)

set_option maxRecDepth 100000 in
theorem li_8 {X : xX} (hX : xBase X) {V : xT} {mc ms : Nat} (hE : xEng X m_L_law 12 mc ms V) {b L : Nat} {xs : Nat → Int32} (hs : LSc X b L xs) {c : xCx} {I : xIn} {σ : St9} (hσ : SK σ) (hC : CC I c σ) (hM : MM I σ) (hA : c.2.2.2 (2, 9) = b) {i : Nat} (hi : i + 7 ≤ L) {k n : Nat} (hk : k + 10 ≤ mc) (hn : n + 200 ≤ ms) (next : Nxt V b i k n) : V 914 [(0, xr (2, 9)), (1, xr (0, 0)), (2, xr (1, 0)), (3, xr (2, 0)), (4, xr (2, 1)), (5, xi (i : Int))] [] (I, xst c) k n := by
  refine lc_8 hX hE hs hA hi (mc9 := 3) (ms9 := 18) (by omega) (by omega) (F := crowdV σ.T (sx xs (i + 1)) (sx xs (i + 2)) (sx xs (i + 3))) (C9 := fun J c9 => cN I c σ J ∧ c9.1 = c.1) (D9 := fun J c9 => CC J c9 σ ∧ MM J σ) ?_ ?_ (next.go (σ9 := σ) hσ hA (by omega) (by omega))
  · exact wr_crowd hX (xRet_w (cn_crowd hX 1 hσ.1 hC.1 (xin_ti _) (xin_ti _) (xin_ti _)) (fun v J h => by first | exact ⟨cN.k hC h.1, h.2⟩ | exact ⟨cN.e hC h.1, h.2⟩ | exact ⟨cN.k hC (kpX.C h.1), h.2⟩) (fun x J h => by first | exact ⟨cN.k hC h.1, h.2⟩ | exact ⟨cN.e hC h.1, h.2⟩ | exact ⟨cN.k hC h.1, exN.L h.2⟩ | exact ⟨cN.k hC (kpX.C h.1), exN.L h.2.1⟩))
  · intro I9 c9 hC9
    have hM9 : MM I9 σ := hM.sm hC9.1.1
    exact refT hC9 (ok_crowd hX 7 hσ.1 hM9.1 (xin_ti _) (xin_ti _) (xin_ti _)) (fun v J h => ⟨mN9.k hM9 h.1, h.2⟩)

set_option maxRecDepth 100000 in
theorem li_9 {X : xX} (hX : xBase X) {V : xT} {mc ms : Nat} (hE : xEng X m_L_law 12 mc ms V) {b L : Nat} {xs : Nat → Int32} (hs : LSc X b L xs) {c : xCx} {I : xIn} {σ : St9} (hσ : SK σ) (hC : CC I c σ) (hM : MM I σ) (hA : c.2.2.2 (2, 9) = b) {i : Nat} (hi : i + 7 ≤ L) {k n : Nat} (hk : k + 10 ≤ mc) (hn : n + 200 ≤ ms) (next : Nxt V b i k n) : V 994 [(0, xr (2, 9)), (1, xr (0, 0)), (2, xr (1, 0)), (3, xr (2, 0)), (4, xr (2, 1)), (5, xi (i : Int))] [] (I, xst c) k n := by
  obtain ⟨bz, hbz⟩ : ∃ bz, bz = decide ((sx xs (i + 4)) ≠ 0) := ⟨_, rfl⟩
  refine lc_9 hX hE hs hA hi (mc9 := 3) (ms9 := 18) (by omega) (by omega) hbz (F := cutA σ.T (sx xs (i + 1)) (sx xs (i + 2)) (sx xs (i + 3)) bz) (C9 := fun J c9 => cN I c σ J ∧ c9.1 = c.1) (D9 := fun J c9 => CC J c9 σ ∧ MM J σ) ?_ ?_ (next.go (σ9 := σ) hσ hA (by omega) (by omega))
  · exact wr_cut hX (xRet_w (cn_cut hX 1 hσ.1 hC.1 (xin_ti _) (xin_ti _) (xin_ti _) bz) (fun v J h => by first | exact ⟨cN.k hC h.1, h.2⟩ | exact ⟨cN.e hC h.1, h.2⟩ | exact ⟨cN.k hC (kpX.C h.1), h.2⟩) (fun x J h => by first | exact ⟨cN.k hC h.1, h.2⟩ | exact ⟨cN.e hC h.1, h.2⟩ | exact ⟨cN.k hC h.1, exN.L h.2⟩ | exact ⟨cN.k hC (kpX.C h.1), exN.L h.2.1⟩))
  · intro I9 c9 hC9
    have hM9 : MM I9 σ := hM.sm hC9.1.1
    exact refT hC9 (ok_cut hX 5 hσ.1 hM9.1 (xin_ti _) (xin_ti _) (xin_ti _) bz) (fun v J h => ⟨mN9.k hM9 h.1, h.2⟩)

set_option maxRecDepth 100000 in
theorem li_10 {X : xX} (hX : xBase X) {V : xT} {mc ms : Nat} (hE : xEng X m_L_law 12 mc ms V) {b L : Nat} {xs : Nat → Int32} (hs : LSc X b L xs) {c : xCx} {I : xIn} {σ : St9} (hσ : SK σ) (hC : CC I c σ) (hM : MM I σ) (hA : c.2.2.2 (2, 9) = b) {i : Nat} (hi : i + 7 ≤ L) {k n : Nat} (hk : k + 10 ≤ mc) (hn : n + 200 ≤ ms) (next : Nxt V b i k n) : V 1102 [(0, xr (2, 9)), (1, xr (0, 0)), (2, xr (1, 0)), (3, xr (2, 0)), (4, xr (2, 1)), (5, xi (i : Int))] [] (I, xst c) k n := by
  refine lc_10 hX hE hs hA hi (mc9 := 3) (ms9 := 18) (by omega) (by omega) (F := cutSumA σ.T (sx xs (i + 1)) (sx xs (i + 2)) (sx xs (i + 3)) (sx xs (i + 4))) (C9 := fun J c9 => cN I c σ J ∧ c9.1 = c.1) (D9 := fun J c9 => CC J c9 σ ∧ MM J σ) ?_ ?_ (next.go (σ9 := σ) hσ hA (by omega) (by omega))
  · exact wr_cutSum hX (xRet_w (cn_cutSum hX 1 hσ.1 hC.1 (xin_ti _) (xin_ti _) (xin_ti _) (xin_ti _)) (fun v J h => by first | exact ⟨cN.k hC h.1, h.2⟩ | exact ⟨cN.e hC h.1, h.2⟩ | exact ⟨cN.k hC (kpX.C h.1), h.2⟩) (fun x J h => ⟨cN.k hC h.1, h.2.l (cutSum_2 _ _ _ _ _)⟩))
  · intro I9 c9 hC9
    have hM9 : MM I9 σ := hM.sm hC9.1.1
    exact refT hC9 (ok_cutSum hX 7 hσ.1 hM9.1 (xin_ti _) (xin_ti _) (xin_ti _) (xin_ti _)) (fun v J h => ⟨mN9.k hM9 h.1, h.2⟩)

set_option maxRecDepth 100000 in
theorem li_11 {X : xX} (hX : xBase X) {V : xT} {mc ms : Nat} (hE : xEng X m_L_law 12 mc ms V) {b L : Nat} {xs : Nat → Int32} (hs : LSc X b L xs) {c : xCx} {I : xIn} {σ : St9} (hσ : SK σ) (hC : CC I c σ) (hM : MM I σ) (hA : c.2.2.2 (2, 9) = b) {i : Nat} (hi : i + 7 ≤ L) {k n : Nat} (hk : k + 10 ≤ mc) (hn : n + 200 ≤ ms) (next : Nxt V b i k n) : V 1194 [(0, xr (2, 9)), (1, xr (0, 0)), (2, xr (1, 0)), (3, xr (2, 0)), (4, xr (2, 1)), (5, xi (i : Int))] [] (I, xst c) k n := by
  refine lc_11 hX hE hs hA hi (mc9 := 3) (ms9 := 18) (by omega) (by omega) (F := cutsA σ.T (sx xs (i + 1)) (sx xs (i + 2)) (sx xs (i + 3))) (C9 := fun J c9 => cN I c σ J ∧ c9.1 = c.1) (D9 := fun J c9 => CC J c9 σ ∧ MM J σ) ?_ ?_ (next.go (σ9 := σ) hσ hA (by omega) (by omega))
  · exact wr_cuts hX (xRet_w (cn_cuts hX 1 hσ.1 hC.1 (xin_ti _) (xin_ti _) (xin_ti _)) (fun v J h => by first | exact ⟨cN.k hC h.1, h.2⟩ | exact ⟨cN.e hC h.1, h.2⟩ | exact ⟨cN.k hC (kpX.C h.1), h.2⟩) (fun x J h => by first | exact ⟨cN.k hC h.1, h.2⟩ | exact ⟨cN.e hC h.1, h.2⟩ | exact ⟨cN.k hC h.1, exN.L h.2⟩ | exact ⟨cN.k hC (kpX.C h.1), exN.L h.2.1⟩))
  · intro I9 c9 hC9
    have hM9 : MM I9 σ := hM.sm hC9.1.1
    exact refT hC9 (ok_cuts hX 5 hσ.1 hM9.1 (xin_ti _) (xin_ti _) (xin_ti _)) (fun v J h => ⟨mN9.k hM9 h.1, h.2⟩)

set_option maxRecDepth 100000 in
theorem li_12 {X : xX} (hX : xBase X) {V : xT} {mc ms : Nat} (hE : xEng X m_L_law 12 mc ms V) {b L : Nat} {xs : Nat → Int32} (hs : LSc X b L xs) {c : xCx} {I : xIn} {σ : St9} (hσ : SK σ) (hC : CC I c σ) (hM : MM I σ) (hA : c.2.2.2 (2, 9) = b) {i : Nat} (hi : i + 7 ≤ L) {k n : Nat} (hk : k + 10 ≤ mc) (hn : n + 200 ≤ ms) (next : Nxt V b i k n) : V 1274 [(0, xr (2, 9)), (1, xr (0, 0)), (2, xr (1, 0)), (3, xr (2, 0)), (4, xr (2, 1)), (5, xi (i : Int))] [] (I, xst c) k n := by
  refine lc_12 hX hE hs hA hi (mc9 := 4) (ms9 := 24) (by omega) (by omega) (F := isFullA σ.T (sx xs (i + 1)) (sx xs (i + 2)) (sx xs (i + 3)) (sx xs (i + 4))) (C9 := fun J c9 => cN I c σ J ∧ c9.1 = c.1) (D9 := fun J c9 => CC J c9 σ ∧ MM J σ) ?_ ?_ (next.go (σ9 := σ) hσ hA (by omega) (by omega))
  · exact wr_isFull hX (xRet_w (cn_isFull hX 1 hσ.1 hC.1 (xin_ti _) (xin_ti _) (xin_ti _) (xin_ti _)) (fun v J h => by first | exact ⟨cN.k hC h.1, h.2⟩ | exact ⟨cN.e hC h.1, h.2⟩ | exact ⟨cN.k hC (kpX.C h.1), h.2⟩) (fun x J h => by first | exact ⟨cN.k hC h.1, h.2⟩ | exact ⟨cN.e hC h.1, h.2⟩ | exact ⟨cN.k hC h.1, exN.L h.2⟩ | exact ⟨cN.k hC (kpX.C h.1), exN.L h.2.1⟩))
  · intro I9 c9 hC9
    have hM9 : MM I9 σ := hM.sm hC9.1.1
    exact refT hC9 (ok_isFull hX 5 hσ.1 hM9.1 (xin_ti _) (xin_ti _) (xin_ti _) (xin_ti _)) (fun v J h => ⟨mN9.k hM9 h.1, h.2⟩)

set_option maxRecDepth 100000 in
theorem li_13 {X : xX} (hX : xBase X) {V : xT} {mc ms : Nat} (hE : xEng X m_L_law 12 mc ms V) {b L : Nat} {xs : Nat → Int32} (hs : LSc X b L xs) {c : xCx} {I : xIn} {σ : St9} (hσ : SK σ) (hC : CC I c σ) (hM : MM I σ) (hA : c.2.2.2 (2, 9) = b) {i : Nat} (hi : i + 7 ≤ L) {k n : Nat} (hk : k + 10 ≤ mc) (hn : n + 200 ≤ ms) (next : Nxt V b i k n) : V 1373 [(0, xr (2, 9)), (1, xr (0, 0)), (2, xr (1, 0)), (3, xr (2, 0)), (4, xr (2, 1)), (5, xi (i : Int))] [] (I, xst c) k n := by
  refine lc_13 hX hE hs hA hi (mc9 := 3) (ms9 := 18) (by omega) (by omega) (F := roundsA σ.T (sx xs (i + 1)) (sx xs (i + 2)) (sx xs (i + 3))) (C9 := fun J c9 => cN I c σ J ∧ c9.1 = c.1) (D9 := fun J c9 => CC J c9 σ ∧ MM J σ) ?_ ?_ (next.go (σ9 := σ) hσ hA (by omega) (by omega))
  · exact wr_rounds hX (xRet_w (cn_rounds hX 2 hσ.1 hC.1 (xin_ti _) (xin_ti _) (xin_ti _)) (fun v J h => by first | exact ⟨cN.k hC h.1, h.2⟩ | exact ⟨cN.e hC h.1, h.2⟩ | exact ⟨cN.k hC (kpX.C h.1), h.2⟩) (fun x J h => by first | exact ⟨cN.k hC h.1, h.2⟩ | exact ⟨cN.e hC h.1, h.2⟩ | exact ⟨cN.k hC h.1, exN.L h.2⟩ | exact ⟨cN.k hC (kpX.C h.1), exN.L h.2.1⟩))
  · intro I9 c9 hC9
    have hM9 : MM I9 σ := hM.sm hC9.1.1
    exact refT hC9 (ok_rounds hX 6 hσ.1 hM9.1 (xin_ti _) (xin_ti _) (xin_ti _)) (fun v J h => ⟨mN9.k hM9 h.1, h.2⟩)

set_option maxRecDepth 100000 in
theorem li_14 {X : xX} (hX : xBase X) {V : xT} {mc ms : Nat} (hE : xEng X m_L_law 12 mc ms V) {b L : Nat} {xs : Nat → Int32} (hs : LSc X b L xs) {c : xCx} {I : xIn} {σ : St9} (hσ : SK σ) (hC : CC I c σ) (hM : MM I σ) (hA : c.2.2.2 (2, 9) = b) {i : Nat} (hi : i + 7 ≤ L) {k n : Nat} (hk : k + 10 ≤ mc) (hn : n + 200 ≤ ms) (next : Nxt V b i k n) : V 1453 [(0, xr (2, 9)), (1, xr (0, 0)), (2, xr (1, 0)), (3, xr (2, 0)), (4, xr (2, 1)), (5, xi (i : Int))] [] (I, xst c) k n := by
  refine lc_14 hX hE hs hA hi (mc9 := 4) (ms9 := 24) (by omega) (by omega) (F := roundAmountA σ.T (sx xs (i + 1)) (sx xs (i + 2)) (sx xs (i + 3)) (sx xs (i + 4))) (C9 := fun J c9 => cN I c σ J ∧ c9.1 = c.1) (D9 := fun J c9 => CC J c9 σ ∧ MM J σ) ?_ ?_ (next.go (σ9 := σ) hσ hA (by omega) (by omega))
  · exact wr_roundAmount hX (xRet_w (cn_roundAmount8 hX 2 hσ.1 hC.1 (xin_ti _) (xin_ti _) (xin_ti _) (xin_ti _)) (fun v J h => by first | exact ⟨cN.k hC h.1, h.2⟩ | exact ⟨cN.e hC h.1, h.2⟩ | exact ⟨cN.k hC (kpX.C h.1), h.2⟩) (fun x J h => by first | exact ⟨cN.k hC h.1, h.2⟩ | exact ⟨cN.e hC h.1, h.2⟩ | exact ⟨cN.k hC h.1, exN.L h.2⟩ | exact ⟨cN.k hC (kpX.C h.1), exN.L h.2.1⟩))
  · intro I9 c9 hC9
    have hM9 : MM I9 σ := hM.sm hC9.1.1
    exact refT hC9 (ok_roundAmount hX 5 hσ.1 hM9.1 (xin_ti _) (xin_ti _) (xin_ti _) (xin_ti _)) (fun v J h => ⟨mN9.k hM9 h.1, h.2⟩)

set_option maxRecDepth 100000 in
theorem li_15 {X : xX} (hX : xBase X) {V : xT} {mc ms : Nat} (hE : xEng X m_L_law 12 mc ms V) {b L : Nat} {xs : Nat → Int32} (hs : LSc X b L xs) {c : xCx} {I : xIn} {σ : St9} (hσ : SK σ) (hC : CC I c σ) (hM : MM I σ) (hA : c.2.2.2 (2, 9) = b) {i : Nat} (hi : i + 7 ≤ L) {k n : Nat} (hk : k + 10 ≤ mc) (hn : n + 200 ≤ ms) (next : Nxt V b i k n) : V 1545 [(0, xr (2, 9)), (1, xr (0, 0)), (2, xr (1, 0)), (3, xr (2, 0)), (4, xr (2, 1)), (5, xi (i : Int))] [] (I, xst c) k n := by
  refine lc_15 hX hE hs hA hi (mc9 := 5) (ms9 := 30) (by omega) (by omega) (F := roundSignA σ.T (sx xs (i + 1)) (sx xs (i + 2)) (sx xs (i + 3)) (sx xs (i + 4)) (sx xs (i + 5))) (C9 := fun J c9 => cN I c σ J ∧ c9.1 = c.1) (D9 := fun J c9 => CC J c9 σ ∧ MM J σ) ?_ ?_ (next.go (σ9 := σ) hσ hA (by omega) (by omega))
  · exact wr_roundSign hX (xRet_w (cn_roundSign8 hX 2 hσ.1 hC.1 (xin_ti _) (xin_ti _) (xin_ti _) (xin_ti _) (xin_ti _)) (fun v J h => by first | exact ⟨cN.k hC h.1, h.2⟩ | exact ⟨cN.e hC h.1, h.2⟩ | exact ⟨cN.k hC (kpX.C h.1), h.2⟩) (fun x J h => by first | exact ⟨cN.k hC h.1, h.2⟩ | exact ⟨cN.e hC h.1, h.2⟩ | exact ⟨cN.k hC h.1, exN.L h.2⟩ | exact ⟨cN.k hC (kpX.C h.1), exN.L h.2.1⟩))
  · intro I9 c9 hC9
    have hM9 : MM I9 σ := hM.sm hC9.1.1
    exact refT hC9 (ok_roundSign hX 5 hσ.1 hM9.1 (xin_ti _) (xin_ti _) (xin_ti _) (xin_ti _) (xin_ti _)) (fun v J h => ⟨mN9.k hM9 h.1, h.2⟩)

set_option maxRecDepth 100000 in
theorem li_16 {X : xX} (hX : xBase X) {V : xT} {mc ms : Nat} (hE : xEng X m_L_law 12 mc ms V) {b L : Nat} {xs : Nat → Int32} (hs : LSc X b L xs) {c : xCx} {I : xIn} {σ : St9} (hσ : SK σ) (hC : CC I c σ) (hM : MM I σ) (hA : c.2.2.2 (2, 9) = b) {i : Nat} (hi : i + 7 ≤ L) {k n : Nat} (hk : k + 10 ≤ mc) (hn : n + 200 ≤ ms) (next : Nxt V b i k n) : V 1649 [(0, xr (2, 9)), (1, xr (0, 0)), (2, xr (1, 0)), (3, xr (2, 0)), (4, xr (2, 1)), (5, xi (i : Int))] [] (I, xst c) k n := by
  refine lc_16 hX hE hs hA hi (mc9 := 3) (ms9 := 18) (by omega) (by omega) (F := costA σ.T (sx xs (i + 1)) (sx xs (i + 2)) (sx xs (i + 3))) (C9 := fun J c9 => cN I c σ J ∧ c9.1 = c.1) (D9 := fun J c9 => CC J c9 σ ∧ MM J σ) ?_ ?_ (next.go (σ9 := σ) hσ hA (by omega) (by omega))
  · exact wr_cost hX (xRet_w (cn_cost hX 1 hσ.1 hC.1 (xin_ti _) (xin_ti _) (xin_ti _)) (fun v J h => by first | exact ⟨cN.k hC h.1, h.2⟩ | exact ⟨cN.e hC h.1, h.2⟩ | exact ⟨cN.k hC (kpX.C h.1), h.2⟩) (fun x J h => by first | exact ⟨cN.k hC h.1, h.2⟩ | exact ⟨cN.e hC h.1, h.2⟩ | exact ⟨cN.k hC h.1, exN.L h.2⟩ | exact ⟨cN.k hC (kpX.C h.1), exN.L h.2.1⟩))
  · intro I9 c9 hC9
    have hM9 : MM I9 σ := hM.sm hC9.1.1
    exact refT hC9 (ok_cost hX 4 hσ.1 hM9.1 (xin_ti _) (xin_ti _) (xin_ti _)) (fun v J h => ⟨mN9.k hM9 h.1, h.2⟩)

set_option maxRecDepth 100000 in
theorem li_17 {X : xX} (hX : xBase X) {V : xT} {mc ms : Nat} (hE : xEng X m_L_law 12 mc ms V) {b L : Nat} {xs : Nat → Int32} (hs : LSc X b L xs) {c : xCx} {I : xIn} {σ : St9} (hσ : SK σ) (hC : CC I c σ) (hM : MM I σ) (hA : c.2.2.2 (2, 9) = b) {i : Nat} (hi : i + 7 ≤ L) {k n : Nat} (hk : k + 10 ≤ mc) (hn : n + 200 ≤ ms) (next : Nxt V b i k n) : V 1729 [(0, xr (2, 9)), (1, xr (0, 0)), (2, xr (1, 0)), (3, xr (2, 0)), (4, xr (2, 1)), (5, xi (i : Int))] [] (I, xst c) k n := by
  refine lc_17 hX hE hs hA hi (mc9 := 4) (ms9 := 24) (by omega) (by omega) (F := cheapestA σ.T (sx xs (i + 1)) (sx xs (i + 2)) (sx xs (i + 3)) (sx xs (i + 4))) (C9 := fun J c9 => cN I c σ J ∧ c9.1 = c.1) (D9 := fun J c9 => CC J c9 σ ∧ MM J σ) ?_ ?_ (next.go (σ9 := σ) hσ hA (by omega) (by omega))
  · exact wr_cheapest hX (xRet_w (cn_cheapest hX 1 hσ.1 hC.1 (xin_ti _) (xin_ti _) (xin_ti _) (xin_ti _)) (fun v J h => by first | exact ⟨cN.k hC h.1, h.2⟩ | exact ⟨cN.e hC h.1, h.2⟩ | exact ⟨cN.k hC (kpX.C h.1), h.2⟩) (fun x J h => by first | exact ⟨cN.k hC h.1, h.2⟩ | exact ⟨cN.e hC h.1, h.2⟩ | exact ⟨cN.k hC h.1, exN.L h.2⟩ | exact ⟨cN.k hC (kpX.C h.1), exN.L h.2.1⟩))
  · intro I9 c9 hC9
    have hM9 : MM I9 σ := hM.sm hC9.1.1
    exact refT hC9 (ok_cheapest hX 4 hσ.1 hM9.1 (xin_ti _) (xin_ti _) (xin_ti _) (xin_ti _)) (fun v J h => ⟨mN9.k hM9 h.1, h.2⟩)

set_option maxRecDepth 100000 in
theorem li_18 {X : xX} (hX : xBase X) {V : xT} {mc ms : Nat} (hE : xEng X m_L_law 12 mc ms V) {b L : Nat} {xs : Nat → Int32} (hs : LSc X b L xs) {c : xCx} {I : xIn} {σ : St9} (hσ : SK σ) (hC : CC I c σ) (hM : MM I σ) (hA : c.2.2.2 (2, 9) = b) {i : Nat} (hi : i + 7 ≤ L) {k n : Nat} (hk : k + 10 ≤ mc) (hn : n + 200 ≤ ms) (next : Nxt V b i k n) : V 1821 [(0, xr (2, 9)), (1, xr (0, 0)), (2, xr (1, 0)), (3, xr (2, 0)), (4, xr (2, 1)), (5, xi (i : Int))] [] (I, xst c) k n := by
  refine lc_18 hX hE hs hA hi (mc9 := 5) (ms9 := 30) (by omega) (by omega) (F := priceA σ.T (sx xs (i + 1)) (sx xs (i + 2)) (sx xs (i + 3)) (sx xs (i + 4))) (C9 := fun J c9 => cN I c σ J ∧ c9.1 = c.1) (D9 := fun J c9 => CC J c9 σ ∧ MM J σ) ?_ ?_ (next.go (σ9 := σ) hσ hA (by omega) (by omega))
  · exact wr_price hX (xRet_w (cn_price hX 1 hσ.1 hC.1 (xin_ti _) (xin_ti _) (xin_ti _) (xin_ti _)) (fun v J h => by first | exact ⟨cN.k hC h.1, h.2⟩ | exact ⟨cN.e hC h.1, h.2⟩ | exact ⟨cN.k hC (kpX.C h.1), h.2⟩) (fun x J h => by first | exact ⟨cN.k hC h.1, h.2⟩ | exact ⟨cN.e hC h.1, h.2⟩ | exact ⟨cN.k hC h.1, exN.L h.2⟩ | exact ⟨cN.k hC (kpX.C h.1), exN.L h.2.1⟩))
  · intro I9 c9 hC9
    have hM9 : MM I9 σ := hM.sm hC9.1.1
    exact refT hC9 (ok_price hX 4 hσ.1 hM9.1 (xin_ti _) (xin_ti _) (xin_ti _) (xin_ti _)) (fun v J h => ⟨mN9.k hM9 h.1, h.2⟩)

set_option maxRecDepth 100000 in
theorem li_19 {X : xX} (hX : xBase X) {V : xT} {mc ms : Nat} (hE : xEng X m_L_law 12 mc ms V) {b L : Nat} {xs : Nat → Int32} (hs : LSc X b L xs) {c : xCx} {I : xIn} {σ : St9} (hσ : SK σ) (hC : CC I c σ) (hM : MM I σ) (hA : c.2.2.2 (2, 9) = b) {i : Nat} (hi : i + 7 ≤ L) {k n : Nat} (hk : k + 10 ≤ mc) (hn : n + 200 ≤ ms) (next : Nxt V b i k n) : V 1913 [(0, xr (2, 9)), (1, xr (0, 0)), (2, xr (1, 0)), (3, xr (2, 0)), (4, xr (2, 1)), (5, xi (i : Int))] [] (I, xst c) k n := by
  refine lc_19 hX hE hs hA hi (mc9 := 2) (ms9 := 12) (by omega) (by omega) (F := edgeWaysA σ.T (sx xs (i + 1)) (sx xs (i + 2)) (sx xs (i + 3))) (C9 := fun J c9 => cN I c σ J ∧ c9.1 = c.1) (D9 := fun J c9 => CC J c9 σ ∧ MM J σ) ?_ ?_ (next.go (σ9 := σ) hσ hA (by omega) (by omega))
  · exact wr_edgeWays hX (xRet_w (cn_edgeWays hX 2 hσ.1 hC.1 (xin_ti _) (xin_ti _) (xin_ti _)) (fun v J h => by first | exact ⟨cN.k hC h.1, h.2⟩ | exact ⟨cN.e hC h.1, h.2⟩ | exact ⟨cN.k hC (kpX.C h.1), h.2⟩) (fun x J h => by first | exact ⟨cN.k hC h.1, h.2⟩ | exact ⟨cN.e hC h.1, h.2⟩ | exact ⟨cN.k hC h.1, exN.L h.2⟩ | exact ⟨cN.k hC (kpX.C h.1), exN.L h.2.1⟩))
  · intro I9 c9 hC9
    have hM9 : MM I9 σ := hM.sm hC9.1.1
    exact refT hC9 (ok_edgeWays hX 7 hσ.1 hM9.1 (xin_ti _) (xin_ti _) (xin_ti _)) (fun v J h => ⟨mN9.k hM9 h.1, h.2⟩)

set_option maxRecDepth 100000 in
theorem li_20 {X : xX} (hX : xBase X) {V : xT} {mc ms : Nat} (hE : xEng X m_L_law 12 mc ms V) {b L : Nat} {xs : Nat → Int32} (hs : LSc X b L xs) {c : xCx} {I : xIn} {σ : St9} (hσ : SK σ) (hC : CC I c σ) (hM : MM I σ) (hA : c.2.2.2 (2, 9) = b) {i : Nat} (hi : i + 7 ≤ L) {k n : Nat} (hk : k + 10 ≤ mc) (hn : n + 200 ≤ ms) (next : Nxt V b i k n) : V 1993 [(0, xr (2, 9)), (1, xr (0, 0)), (2, xr (1, 0)), (3, xr (2, 0)), (4, xr (2, 1)), (5, xi (i : Int))] [] (I, xst c) k n := by
  refine lc_20 hX hE hs hA hi (mc9 := 2) (ms9 := 12) (by omega) (by omega) (F := cornerWaysA σ.T (sx xs (i + 1)) (sx xs (i + 2)) (sx xs (i + 3))) (C9 := fun J c9 => cN I c σ J ∧ c9.1 = c.1) (D9 := fun J c9 => CC J c9 σ ∧ MM J σ) ?_ ?_ (next.go (σ9 := σ) hσ hA (by omega) (by omega))
  · exact wr_cornerWays hX (xRet_w (cn_cornerWays hX 2 hσ.1 hC.1 (xin_ti _) (xin_ti _) (xin_ti _)) (fun v J h => by first | exact ⟨cN.k hC h.1, h.2⟩ | exact ⟨cN.e hC h.1, h.2⟩ | exact ⟨cN.k hC (kpX.C h.1), h.2⟩) (fun x J h => by first | exact ⟨cN.k hC h.1, h.2⟩ | exact ⟨cN.e hC h.1, h.2⟩ | exact ⟨cN.k hC h.1, exN.L h.2⟩ | exact ⟨cN.k hC (kpX.C h.1), exN.L h.2.1⟩))
  · intro I9 c9 hC9
    have hM9 : MM I9 σ := hM.sm hC9.1.1
    exact refT hC9 (ok_cornerWays hX 7 hσ.1 hM9.1 (xin_ti _) (xin_ti _) (xin_ti _)) (fun v J h => ⟨mN9.k hM9 h.1, h.2⟩)

set_option maxRecDepth 100000 in
theorem li_21 {X : xX} (hX : xBase X) {V : xT} {mc ms : Nat} (hE : xEng X m_L_law 12 mc ms V) {b L : Nat} {xs : Nat → Int32} (hs : LSc X b L xs) {c : xCx} {I : xIn} {σ : St9} (hσ : SK σ) (hC : CC I c σ) (hM : MM I σ) (hA : c.2.2.2 (2, 9) = b) {i : Nat} (hi : i + 7 ≤ L) {k n : Nat} (hk : k + 10 ≤ mc) (hn : n + 200 ≤ ms) (next : Nxt V b i k n) : V 2073 [(0, xr (2, 9)), (1, xr (0, 0)), (2, xr (1, 0)), (3, xr (2, 0)), (4, xr (2, 1)), (5, xi (i : Int))] [] (I, xst c) k n := by
  refine lc_21 hX hE hs hA hi (mc9 := 3) (ms9 := 18) (by omega) (by omega) (F := apartA σ.T (sx xs (i + 1)) (sx xs (i + 2)) (sx xs (i + 3))) (C9 := fun J c9 => cN I c σ J ∧ c9.1 = c.1) (D9 := fun J c9 => CC J c9 σ ∧ MM J σ) ?_ ?_ (next.go (σ9 := σ) hσ hA (by omega) (by omega))
  · exact wr_apart hX (xRet_w (cn_apart hX 2 hσ.1 hC.1 (xin_ti _) (xin_ti _) (xin_ti _)) (fun v J h => by first | exact ⟨cN.k hC h.1, h.2⟩ | exact ⟨cN.e hC h.1, h.2⟩ | exact ⟨cN.k hC (kpX.C h.1), h.2⟩) (fun x J h => by first | exact ⟨cN.k hC h.1, h.2⟩ | exact ⟨cN.e hC h.1, h.2⟩ | exact ⟨cN.k hC h.1, exN.L h.2⟩ | exact ⟨cN.k hC (kpX.C h.1), exN.L h.2.1⟩))
  · intro I9 c9 hC9
    have hM9 : MM I9 σ := hM.sm hC9.1.1
    exact refT hC9 (ok_apart hX 7 hσ.1 hM9.1 (xin_ti _) (xin_ti _) (xin_ti _)) (fun v J h => ⟨mN9.k hM9 h.1, h.2⟩)

set_option maxRecDepth 100000 in
theorem li_22 {X : xX} (hX : xBase X) {V : xT} {mc ms : Nat} (hE : xEng X m_L_law 12 mc ms V) {b L : Nat} {xs : Nat → Int32} (hs : LSc X b L xs) {c : xCx} {I : xIn} {σ : St9} (hσ : SK σ) (hC : CC I c σ) (hM : MM I σ) (hA : c.2.2.2 (2, 9) = b) {i : Nat} (hi : i + 7 ≤ L) {k n : Nat} (hk : k + 10 ≤ mc) (hn : n + 200 ≤ ms) (next : Nxt V b i k n) : V 2153 [(0, xr (2, 9)), (1, xr (0, 0)), (2, xr (1, 0)), (3, xr (2, 0)), (4, xr (2, 1)), (5, xi (i : Int))] [] (I, xst c) k n := by
  refine lc_22 hX hE hs hA hi (mc9 := 4) (ms9 := 24) (by omega) (by omega) (F := widerA σ.T (sx xs (i + 1)) (sx xs (i + 2)) (sx xs (i + 3)) (sx xs (i + 4))) (C9 := fun J c9 => cN I c σ J ∧ c9.1 = c.1) (D9 := fun J c9 => CC J c9 σ ∧ MM J σ) ?_ ?_ (next.go (σ9 := σ) hσ hA (by omega) (by omega))
  · exact wr_wider hX (xRet_w (cn_wider hX 2 hσ.1 hC.1 (xin_ti _) (xin_ti _) (xin_ti _) (xin_ti _)) (fun v J h => by first | exact ⟨cN.k hC h.1, h.2⟩ | exact ⟨cN.e hC h.1, h.2⟩ | exact ⟨cN.k hC (kpX.C h.1), h.2⟩) (fun x J h => by first | exact ⟨cN.k hC h.1, h.2⟩ | exact ⟨cN.e hC h.1, h.2⟩ | exact ⟨cN.k hC h.1, exN.L h.2⟩ | exact ⟨cN.k hC (kpX.C h.1), exN.L h.2.1⟩))
  · intro I9 c9 hC9
    have hM9 : MM I9 σ := hM.sm hC9.1.1
    exact refT hC9 (ok_wider hX 6 hσ.1 hM9.1 (xin_ti _) (xin_ti _) (xin_ti _) (xin_ti _)) (fun v J h => ⟨mN9.k hM9 h.1, h.2⟩)

set_option maxRecDepth 100000 in
theorem li_23 {X : xX} (hX : xBase X) {V : xT} {mc ms : Nat} (hE : xEng X m_L_law 12 mc ms V) {b L : Nat} {xs : Nat → Int32} (hs : LSc X b L xs) {c : xCx} {I : xIn} {σ : St9} (hσ : SK σ) (hC : CC I c σ) (hM : MM I σ) (hA : c.2.2.2 (2, 9) = b) {i : Nat} (hi : i + 7 ≤ L) {k n : Nat} (hk : k + 10 ≤ mc) (hn : n + 200 ≤ ms) (next : Nxt V b i k n) : V 2245 [(0, xr (2, 9)), (1, xr (0, 0)), (2, xr (1, 0)), (3, xr (2, 0)), (4, xr (2, 1)), (5, xi (i : Int))] [] (I, xst c) k n := by
  refine lc_23 hX hE hs hA hi (mc9 := 4) (ms9 := 24) (by omega) (by omega) (F := withoutA σ.T (sx xs (i + 1)) (sx xs (i + 2)) (sx xs (i + 3)) (sx xs (i + 4))) (C9 := fun J c9 => cN I c σ J ∧ c9.1 = c.1) (D9 := fun J c9 => CC J c9 σ ∧ MM J σ) ?_ ?_ (next.go (σ9 := σ) hσ hA (by omega) (by omega))
  · exact wr_without hX (xRet_w (cn_without hX 2 hσ.1 hC.1 (xin_ti _) (xin_ti _) (xin_ti _) (xin_ti _)) (fun v J h => by first | exact ⟨cN.k hC h.1, h.2⟩ | exact ⟨cN.e hC h.1, h.2⟩ | exact ⟨cN.k hC (kpX.C h.1), h.2⟩) (fun x J h => by first | exact ⟨cN.k hC h.1, h.2⟩ | exact ⟨cN.e hC h.1, h.2⟩ | exact ⟨cN.k hC h.1, exN.L h.2⟩ | exact ⟨cN.k hC (kpX.C h.1), exN.L h.2.1⟩))
  · intro I9 c9 hC9
    have hM9 : MM I9 σ := hM.sm hC9.1.1
    exact refT hC9 (ok_without hX 6 hσ.1 hM9.1 (xin_ti _) (xin_ti _) (xin_ti _) (xin_ti _)) (fun v J h => ⟨mN9.k hM9 h.1, h.2⟩)

set_option maxRecDepth 100000 in
theorem li_24 {X : xX} (hX : xBase X) {V : xT} {mc ms : Nat} (hE : xEng X m_L_law 12 mc ms V) {b L : Nat} {xs : Nat → Int32} (hs : LSc X b L xs) {c : xCx} {I : xIn} {σ : St9} (hσ : SK σ) (hC : CC I c σ) (hM : MM I σ) (hA : c.2.2.2 (2, 9) = b) {i : Nat} (hi : i + 7 ≤ L) {k n : Nat} (hk : k + 10 ≤ mc) (hn : n + 200 ≤ ms) (next : Nxt V b i k n) : V 2337 [(0, xr (2, 9)), (1, xr (0, 0)), (2, xr (1, 0)), (3, xr (2, 0)), (4, xr (2, 1)), (5, xi (i : Int))] [] (I, xst c) k n := by
  refine lc_24 hX hE hs hA hi (mc9 := 1) (ms9 := 6) (by omega) (by omega) (F := holdsA σ.T (sx xs (i + 1))) (C9 := fun J c9 => cN I c σ J ∧ c9.1 = c.1) (D9 := fun J c9 => CC J c9 σ ∧ MM J σ) ?_ ?_ (next.go (σ9 := σ) hσ hA (by omega) (by omega))
  · exact wr_holds hX (xRet_w (cn_holds hX 2 hσ.1 hC.1 (xin_ti _)) (fun v J h => by first | exact ⟨cN.k hC h.1, h.2⟩ | exact ⟨cN.e hC h.1, h.2⟩ | exact ⟨cN.k hC (kpX.C h.1), h.2⟩) (fun x J h => by first | exact ⟨cN.k hC h.1, h.2⟩ | exact ⟨cN.e hC h.1, h.2⟩ | exact ⟨cN.k hC h.1, exN.L h.2⟩ | exact ⟨cN.k hC (kpX.C h.1), exN.L h.2.1⟩))
  · intro I9 c9 hC9
    have hM9 : MM I9 σ := hM.sm hC9.1.1
    exact refT hC9 (ok_holds hX 6 hσ.1 hM9.1 (xin_ti _)) (fun v J h => ⟨mN9.k hM9 h.1, h.2⟩)

set_option maxRecDepth 100000 in
theorem li_25 {X : xX} (hX : xBase X) {V : xT} {mc ms : Nat} (hE : xEng X m_L_law 12 mc ms V) {b L : Nat} {xs : Nat → Int32} (hs : LSc X b L xs) {c : xCx} {I : xIn} {σ : St9} (hσ : SK σ) (hC : CC I c σ) (hM : MM I σ) (hA : c.2.2.2 (2, 9) = b) {i : Nat} (hi : i + 7 ≤ L) {k n : Nat} (hk : k + 10 ≤ mc) (hn : n + 200 ≤ ms) (next : Nxt V b i k n) : V 2400 [(0, xr (2, 9)), (1, xr (0, 0)), (2, xr (1, 0)), (3, xr (2, 0)), (4, xr (2, 1)), (5, xi (i : Int))] [] (I, xst c) k n := by
  refine lc_25 hX hE hs hA hi (mc9 := 3) (ms9 := 18) (by omega) (by omega) (F := meetsA σ.T (sx xs (i + 1)) (sx xs (i + 2))) (C9 := fun J c9 => cN I c σ J ∧ c9.1 = c.1) (D9 := fun J c9 => CC J c9 σ ∧ MM J σ) ?_ ?_ (next.go (σ9 := σ) hσ hA (by omega) (by omega))
  · exact wr_meets hX (xRet_w (cn_meets hX 2 hσ.1 hC.1 (xin_ti _) (xin_ti _)) (fun v J h => by first | exact ⟨cN.k hC h.1, h.2⟩ | exact ⟨cN.e hC h.1, h.2⟩ | exact ⟨cN.k hC (kpX.C h.1), h.2⟩) (fun x J h => by first | exact ⟨cN.k hC h.1, h.2⟩ | exact ⟨cN.e hC h.1, h.2⟩ | exact ⟨cN.k hC h.1, exN.L h.2⟩ | exact ⟨cN.k hC (kpX.C h.1), exN.L h.2.1⟩))
  · intro I9 c9 hC9
    have hM9 : MM I9 σ := hM.sm hC9.1.1
    exact refT hC9 (ok_meets hX 6 hσ.1 hM9.1 (xin_ti _) (xin_ti _)) (fun v J h => ⟨mN9.k hM9 h.1, h.2⟩)

set_option maxRecDepth 100000 in
theorem li_26 {X : xX} (hX : xBase X) {V : xT} {mc ms : Nat} (hE : xEng X m_L_law 12 mc ms V) {b L : Nat} {xs : Nat → Int32} (hs : LSc X b L xs) {c : xCx} {I : xIn} {σ : St9} (hσ : SK σ) (hC : CC I c σ) (hM : MM I σ) (hA : c.2.2.2 (2, 9) = b) {i : Nat} (hi : i + 7 ≤ L) {k n : Nat} (hk : k + 10 ≤ mc) (hn : n + 200 ≤ ms) (next : Nxt V b i k n) : V 2468 [(0, xr (2, 9)), (1, xr (0, 0)), (2, xr (1, 0)), (3, xr (2, 0)), (4, xr (2, 1)), (5, xi (i : Int))] [] (I, xst c) k n := by
  refine lc_26 hX hE hs hA hi (mc9 := 2) (ms9 := 12) (by omega) (by omega) (F := breaksA σ.T (sx xs (i + 1))) (C9 := fun J c9 => cN I c σ J ∧ c9.1 = c.1) (D9 := fun J c9 => CC J c9 σ ∧ MM J σ) ?_ ?_ (next.go (σ9 := σ) hσ hA (by omega) (by omega))
  · exact wr_breaks hX (xRet_w (cn_breaks hX 2 hσ.1 hC.1 (xin_ti _)) (fun v J h => by first | exact ⟨cN.k hC h.1, h.2⟩ | exact ⟨cN.e hC h.1, h.2⟩ | exact ⟨cN.k hC (kpX.C h.1), h.2⟩) (fun x J h => by first | exact ⟨cN.k hC h.1, h.2⟩ | exact ⟨cN.e hC h.1, h.2⟩ | exact ⟨cN.k hC h.1, exN.L h.2⟩ | exact ⟨cN.k hC (kpX.C h.1), exN.L h.2.1⟩))
  · intro I9 c9 hC9
    have hM9 : MM I9 σ := hM.sm hC9.1.1
    exact refT hC9 (ok_breaks hX 6 hσ.1 hM9.1 (xin_ti _)) (fun v J h => ⟨mN9.k hM9 h.1, h.2⟩)

set_option maxRecDepth 100000 in
theorem li_27 {X : xX} (hX : xBase X) {V : xT} {mc ms : Nat} (hE : xEng X m_L_law 12 mc ms V) {b L : Nat} {xs : Nat → Int32} (hs : LSc X b L xs) {c : xCx} {I : xIn} {σ : St9} (hσ : SK σ) (hC : CC I c σ) (hM : MM I σ) (hA : c.2.2.2 (2, 9) = b) {i : Nat} (hi : i + 7 ≤ L) {k n : Nat} (hk : k + 10 ≤ mc) (hn : n + 200 ≤ ms) (next : Nxt V b i k n) : V 2524 [(0, xr (2, 9)), (1, xr (0, 0)), (2, xr (1, 0)), (3, xr (2, 0)), (4, xr (2, 1)), (5, xi (i : Int))] [] (I, xst c) k n := by
  refine lc_27 hX hE hs hA hi (mc9 := 3) (ms9 := 18) (by omega) (by omega) (F := parentA σ.T (sx xs (i + 1)) (sx xs (i + 2))) (C9 := fun J c9 => cN I c σ J ∧ c9.1 = c.1) (D9 := fun J c9 => CC J c9 σ ∧ MM J σ) ?_ ?_ (next.go (σ9 := σ) hσ hA (by omega) (by omega))
  · exact wr_parent hX (xRet_w (cn_parent hX 2 hσ.1 hC.1 (xin_ti _) (xin_ti _)) (fun v J h => by first | exact ⟨cN.k hC h.1, h.2⟩ | exact ⟨cN.e hC h.1, h.2⟩ | exact ⟨cN.k hC (kpX.C h.1), h.2⟩) (fun x J h => by first | exact ⟨cN.k hC h.1, h.2⟩ | exact ⟨cN.e hC h.1, h.2⟩ | exact ⟨cN.k hC h.1, exN.L h.2⟩ | exact ⟨cN.k hC (kpX.C h.1), exN.L h.2.1⟩))
  · intro I9 c9 hC9
    have hM9 : MM I9 σ := hM.sm hC9.1.1
    exact refT hC9 (ok_parent hX 5 hσ.1 hM9.1 (xin_ti _) (xin_ti _)) (fun v J h => ⟨mN9.k hM9 h.1, h.2⟩)

set_option maxRecDepth 100000 in
theorem li_28 {X : xX} (hX : xBase X) {V : xT} {mc ms : Nat} (hE : xEng X m_L_law 12 mc ms V) {b L : Nat} {xs : Nat → Int32} (hs : LSc X b L xs) {c : xCx} {I : xIn} {σ : St9} (hσ : SK σ) (hC : CC I c σ) (hM : MM I σ) (hA : c.2.2.2 (2, 9) = b) {i : Nat} (hi : i + 7 ≤ L) {k n : Nat} (hk : k + 10 ≤ mc) (hn : n + 200 ≤ ms) (next : Nxt V b i k n) : V 2592 [(0, xr (2, 9)), (1, xr (0, 0)), (2, xr (1, 0)), (3, xr (2, 0)), (4, xr (2, 1)), (5, xi (i : Int))] [] (I, xst c) k n := by
  refine lc_28 hX hE hs hA hi (mc9 := 2) (ms9 := 12) (by omega) (by omega) (F := betweenA σ.T (sx xs (i + 1)) (sx xs (i + 2)) (sx xs (i + 3))) (C9 := fun J c9 => cN I c σ J ∧ c9.1 = c.1) (D9 := fun J c9 => CC J c9 σ ∧ MM J σ) ?_ ?_ (next.go (σ9 := σ) hσ hA (by omega) (by omega))
  · exact wr_between hX (xRet_w (cn_between hX 2 hσ.1 hC.1 (xin_ti _) (xin_ti _) (xin_ti _)) (fun v J h => by first | exact ⟨cN.k hC h.1, h.2⟩ | exact ⟨cN.e hC h.1, h.2⟩ | exact ⟨cN.k hC (kpX.C h.1), h.2⟩) (fun x J h => by first | exact ⟨cN.k hC h.1, h.2⟩ | exact ⟨cN.e hC h.1, h.2⟩ | exact ⟨cN.k hC h.1, exN.L h.2⟩ | exact ⟨cN.k hC (kpX.C h.1), exN.L h.2.1⟩))
  · intro I9 c9 hC9
    have hM9 : MM I9 σ := hM.sm hC9.1.1
    exact refT hC9 (ok_between hX 6 hσ.1 hM9.1 (xin_ti _) (xin_ti _) (xin_ti _)) (fun v J h => ⟨mN9.k hM9 h.1, h.2⟩)

set_option maxRecDepth 100000 in
theorem li_29 {X : xX} (hX : xBase X) {V : xT} {mc ms : Nat} (hE : xEng X m_L_law 12 mc ms V) {b L : Nat} {xs : Nat → Int32} (hs : LSc X b L xs) {c : xCx} {I : xIn} {σ : St9} (hσ : SK σ) (hC : CC I c σ) (hM : MM I σ) (hA : c.2.2.2 (2, 9) = b) {i : Nat} (hi : i + 7 ≤ L) {k n : Nat} (hk : k + 10 ≤ mc) (hn : n + 200 ≤ ms) (next : Nxt V b i k n) : V 2672 [(0, xr (2, 9)), (1, xr (0, 0)), (2, xr (1, 0)), (3, xr (2, 0)), (4, xr (2, 1)), (5, xi (i : Int))] [] (I, xst c) k n := by
  refine lc_29 hX hE hs hA hi (mc9 := 3) (ms9 := 18) (by omega) (by omega) (F := inStepsA σ.T (sx xs (i + 1)) (sx xs (i + 2)) (sx xs (i + 3)) (sx xs (i + 4))) (C9 := fun J c9 => cN I c σ J ∧ c9.1 = c.1) (D9 := fun J c9 => CC J c9 σ ∧ MM J σ) ?_ ?_ (next.go (σ9 := σ) hσ hA (by omega) (by omega))
  · exact wr_inSteps hX (xRet_w (cn_inSteps hX 2 hσ.1 hC.1 (xin_ti _) (xin_ti _) (xin_ti _) (xin_ti _)) (fun v J h => by first | exact ⟨cN.k hC h.1, h.2⟩ | exact ⟨cN.e hC h.1, h.2⟩ | exact ⟨cN.k hC (kpX.C h.1), h.2⟩) (fun x J h => by first | exact ⟨cN.k hC h.1, h.2⟩ | exact ⟨cN.e hC h.1, h.2⟩ | exact ⟨cN.k hC h.1, exN.L h.2⟩ | exact ⟨cN.k hC (kpX.C h.1), exN.L h.2.1⟩))
  · intro I9 c9 hC9
    have hM9 : MM I9 σ := hM.sm hC9.1.1
    exact refT hC9 (ok_inSteps hX 7 hσ.1 hM9.1 (xin_ti _) (xin_ti _) (xin_ti _) (xin_ti _)) (fun v J h => ⟨mN9.k hM9 h.1, h.2⟩)

set_option maxRecDepth 100000 in
theorem li_30 {X : xX} (hX : xBase X) {V : xT} {mc ms : Nat} (hE : xEng X m_L_law 12 mc ms V) {b L : Nat} {xs : Nat → Int32} (hs : LSc X b L xs) {c : xCx} {I : xIn} {σ : St9} (hσ : SK σ) (hC : CC I c σ) (hM : MM I σ) (hA : c.2.2.2 (2, 9) = b) {i : Nat} (hi : i + 7 ≤ L) {k n : Nat} (hk : k + 10 ≤ mc) (hn : n + 200 ≤ ms) (next : Nxt V b i k n) : V 2764 [(0, xr (2, 9)), (1, xr (0, 0)), (2, xr (1, 0)), (3, xr (2, 0)), (4, xr (2, 1)), (5, xi (i : Int))] [] (I, xst c) k n := by
  refine lc_30 hX hE hs hA hi (mc9 := 2) (ms9 := 12) (by omega) (by omega) (F := (likesA σ.K (sx xs (i + 1)) (sx xs (i + 2))).1) (C9 := fun J c9 => cN I c (σ.T, (likesA σ.K (sx xs (i + 1)) (sx xs (i + 2))).2, σ.2.2) J ∧ c9.1 = c.1) (D9 := fun J c9 => CC J c9 (σ.T, (likesA σ.K (sx xs (i + 1)) (sx xs (i + 2))).2, σ.2.2) ∧ MM J (σ.T, (likesA σ.K (sx xs (i + 1)) (sx xs (i + 2))).2, σ.2.2)) ?_ ?_ (next.go (σ9 := (σ.T, (likesA σ.K (sx xs (i + 1)) (sx xs (i + 2))).2, σ.2.2)) ⟨hσ.1, likesA_ok hσ.2.1 _ _, hσ.2.2⟩ hA (by omega) (by omega))
  · exact wr_likes hX (xRet_w (cn_likes hX 2 hC.2.1 (xin_ti _) (xin_ti _)) (fun v J h => ⟨cN.pK hC h.1 h.2.1, h.2.2⟩) (fun x J h => ⟨cN.eK hC h.1 h.2.1, h.2.2⟩))
  · intro I9 c9 hC9
    have hM9 : MM I9 σ := hM.sm hC9.1.1
    exact refT hC9 (ok_likes hX 10 hM9.2.1 (xin_ti _) (xin_ti _)) (fun v J h => ⟨mN9.pK hM9 h.1 h.2.1 h.2.2.1, h.2.2.2⟩)

set_option maxRecDepth 100000 in
theorem li_31 {X : xX} (hX : xBase X) {V : xT} {mc ms : Nat} (hE : xEng X m_L_law 12 mc ms V) {b L : Nat} {xs : Nat → Int32} (hs : LSc X b L xs) {c : xCx} {I : xIn} {σ : St9} (hσ : SK σ) (hC : CC I c σ) (hM : MM I σ) (hA : c.2.2.2 (2, 9) = b) {i : Nat} (hi : i + 7 ≤ L) {k n : Nat} (hk : k + 10 ≤ mc) (hn : n + 200 ≤ ms) (next : Nxt V b i k n) : V 2832 [(0, xr (2, 9)), (1, xr (0, 0)), (2, xr (1, 0)), (3, xr (2, 0)), (4, xr (2, 1)), (5, xi (i : Int))] [] (I, xst c) k n := by
  refine lc_31 hX hE hs hA hi (mc9 := 0) (ms9 := 0) (by omega) (by omega) (F := prs σ.K 255 255) (C9 := fun J => cN I c σ J ∧ c.1 = c.1) (D9 := fun J => CC J c σ ∧ MM J σ) ?_ ?_ ?_
  · exact xRet_w (cn_pairs hX 9 hσ.2.1 hC.2.1 ) (fun v J h => ⟨⟨cN.k hC h.1, rfl⟩, h.2⟩) (fun _ _ h => h)
  · intro I9 hC9
    have hM9 : MM I9 σ := hM.sm hC9.1.1
    exact xRet_w (ok_pairs hX 8 hσ.2.1 hM9.2.1 ) (fun v J h => ⟨⟨hC9.1.2.sm h.1.sN rfl, hM9.keep h.1⟩, h.2⟩) (fun _ _ h => h)
  · exact fun J hD => next J c σ hσ hD.1 hD.2 hA _ _ (by omega) (by omega)

set_option maxRecDepth 100000 in
theorem li_32 {X : xX} (hX : xBase X) {V : xT} {mc ms : Nat} (hE : xEng X m_L_law 12 mc ms V) {b L : Nat} {xs : Nat → Int32} (hs : LSc X b L xs) {c : xCx} {I : xIn} {σ : St9} (hσ : SK σ) (hC : CC I c σ) (hM : MM I σ) (hA : c.2.2.2 (2, 9) = b) {i : Nat} (hi : i + 7 ≤ L) {k n : Nat} (hk : k + 10 ≤ mc) (hn : n + 200 ≤ ms) (next : Nxt V b i k n) : V 2845 [(0, xr (2, 9)), (1, xr (0, 0)), (2, xr (1, 0)), (3, xr (2, 0)), (4, xr (2, 1)), (5, xi (i : Int))] [] (I, xst c) k n := by
  refine lc_32 hX hE hs hA hi (mc9 := 2) (ms9 := 12) (by omega) (by omega) (F := pairOfA σ.K (sx xs (i + 1))) (C9 := fun J c9 => cN I c σ J ∧ c9.1 = c.1) (D9 := fun J c9 => CC J c9 σ ∧ MM J σ) ?_ ?_ (next.go (σ9 := σ) hσ hA (by omega) (by omega))
  · exact wr_pairOf hX (xRet_w (cn_pairOf hX 2 hσ.2.1 hC.2.1 (xin_ti _)) (fun v J h => by first | exact ⟨cN.k hC h.1, h.2⟩ | exact ⟨cN.e hC h.1, h.2⟩ | exact ⟨cN.k hC (kpX.C h.1), h.2⟩) (fun x J h => by first | exact ⟨cN.k hC h.1, h.2⟩ | exact ⟨cN.e hC h.1, h.2⟩ | exact ⟨cN.k hC h.1, exN.L h.2⟩ | exact ⟨cN.k hC (kpX.C h.1), exN.L h.2.1⟩))
  · intro I9 c9 hC9
    have hM9 : MM I9 σ := hM.sm hC9.1.1
    exact refT hC9 (ok_pairOf hX 8 hσ.2.1 hM9.2.1 (xin_ti _)) (fun v J h => ⟨mN9.k hM9 h.1, h.2⟩)

set_option maxRecDepth 100000 in
theorem li_33 {X : xX} (hX : xBase X) {V : xT} {mc ms : Nat} (hE : xEng X m_L_law 12 mc ms V) {b L : Nat} {xs : Nat → Int32} (hs : LSc X b L xs) {c : xCx} {I : xIn} {σ : St9} (hσ : SK σ) (hC : CC I c σ) (hM : MM I σ) (hA : c.2.2.2 (2, 9) = b) {i : Nat} (hi : i + 7 ≤ L) {k n : Nat} (hk : k + 10 ≤ mc) (hn : n + 200 ≤ ms) (next : Nxt V b i k n) : V 2901 [(0, xr (2, 9)), (1, xr (0, 0)), (2, xr (1, 0)), (3, xr (2, 0)), (4, xr (2, 1)), (5, xi (i : Int))] [] (I, xst c) k n := by
  obtain ⟨bz, hbz⟩ : ∃ bz, bz = decide ((sx xs (i + 1)) ≠ 0) := ⟨_, rfl⟩
  refine lc_33 hX hE hs hA hi (mc9 := 0) (ms9 := 0) (by omega) (by omega) hbz (F := coverA σ.K bz) (C9 := fun J => cN I c σ J ∧ c.1 = c.1) (D9 := fun J => CC J c σ ∧ MM J σ) ?_ ?_ ?_
  · exact xRet_w (cn_cover hX 9 hσ.2.1 hC.2.1 bz) (fun v J h => ⟨⟨cN.k hC h.1, rfl⟩, h.2⟩) (fun _ _ h => h)
  · intro I9 hC9
    have hM9 : MM I9 σ := hM.sm hC9.1.1
    exact xRet_w (ok_cover hX 8 hσ.2.1 hM9.2.1 bz) (fun v J h => ⟨⟨hC9.1.2.sm h.1.sN rfl, hM9.keep h.1⟩, h.2⟩) (fun _ _ h => h)
  · exact fun J hD => next J c σ hσ hD.1 hD.2 hA _ _ (by omega) (by omega)

set_option maxRecDepth 100000 in
theorem li_34 {X : xX} (hX : xBase X) {V : xT} {mc ms : Nat} (hE : xEng X m_L_law 12 mc ms V) {b L : Nat} {xs : Nat → Int32} (hs : LSc X b L xs) {c : xCx} {I : xIn} {σ : St9} (hσ : SK σ) (hC : CC I c σ) (hM : MM I σ) (hA : c.2.2.2 (2, 9) = b) {i : Nat} (hi : i + 7 ≤ L) {k n : Nat} (hk : k + 10 ≤ mc) (hn : n + 200 ≤ ms) (next : Nxt V b i k n) : V 2942 [(0, xr (2, 9)), (1, xr (0, 0)), (2, xr (1, 0)), (3, xr (2, 0)), (4, xr (2, 1)), (5, xi (i : Int))] [] (I, xst c) k n := by
  refine lc_34 hX hE hs hA hi (mc9 := 1) (ms9 := 6) (by omega) (by omega) (F := crowdLA σ.K) (C9 := fun J c9 => cN I c σ J ∧ c9.1 = c.1) (D9 := fun J c9 => CC J c9 σ ∧ MM J σ) ?_ ?_ (next.go (σ9 := σ) hσ hA (by omega) (by omega))
  · exact wr_crowdOfLeft hX (xRet_w (cn_crowdOfLeft hX 3 hσ.2.1 hC.2.1 ) (fun v J h => by first | exact ⟨cN.k hC h.1, h.2⟩ | exact ⟨cN.e hC h.1, h.2⟩ | exact ⟨cN.k hC (kpX.C h.1), h.2⟩) (fun x J h => by first | exact ⟨cN.k hC h.1, h.2⟩ | exact ⟨cN.e hC h.1, h.2⟩ | exact ⟨cN.k hC h.1, exN.L h.2⟩ | exact ⟨cN.k hC (kpX.C h.1), exN.L h.2.1⟩))
  · intro I9 c9 hC9
    have hM9 : MM I9 σ := hM.sm hC9.1.1
    exact refT hC9 (ok_crowdOfLeft hX 8 hσ.2.1 hM9.2.1 ) (fun v J h => ⟨mN9.k hM9 h.1, h.2⟩)

set_option maxRecDepth 100000 in
theorem li_35 {X : xX} (hX : xBase X) {V : xT} {mc ms : Nat} (hE : xEng X m_L_law 12 mc ms V) {b L : Nat} {xs : Nat → Int32} (hs : LSc X b L xs) {c : xCx} {I : xIn} {σ : St9} (hσ : SK σ) (hC : CC I c σ) (hM : MM I σ) (hA : c.2.2.2 (2, 9) = b) {i : Nat} (hi : i + 7 ≤ L) {k n : Nat} (hk : k + 10 ≤ mc) (hn : n + 200 ≤ ms) (next : Nxt V b i k n) : V 2986 [(0, xr (2, 9)), (1, xr (0, 0)), (2, xr (1, 0)), (3, xr (2, 0)), (4, xr (2, 1)), (5, xi (i : Int))] [] (I, xst c) k n := by
  refine lc_35 hX hE hs hA hi (mc9 := 1) (ms9 := 6) (by omega) (by omega) (F := (teamA σ.L (sx xs (i + 1))).1) (C9 := fun J c9 => cN I c (σ.T, σ.K, (teamA σ.L (sx xs (i + 1))).2, σ.2.2.2) J ∧ c9.1 = c.1) (D9 := fun J c9 => CC J c9 (σ.T, σ.K, (teamA σ.L (sx xs (i + 1))).2, σ.2.2.2) ∧ MM J (σ.T, σ.K, (teamA σ.L (sx xs (i + 1))).2, σ.2.2.2)) ?_ ?_ (next.go (σ9 := (σ.T, σ.K, (teamA σ.L (sx xs (i + 1))).2, σ.2.2.2)) ⟨hσ.1, hσ.2.1, teamA_ok hσ.2.2.1 _, hσ.2.2.2⟩ hA (by omega) (by omega))
  · exact wr_team hX (xRet_w (cn_team hX 3 hσ.2.2.1 hC.2.2.1 (xin_ti _)) (fun v J h => ⟨cN.pL hC h.1 rfl h.2.2.1, h.2.2.2⟩) (fun x J h => ⟨cN.eL hC h.1 h.2.1, h.2.2⟩))
  · intro I9 c9 hC9
    have hM9 : MM I9 σ := hM.sm hC9.1.1
    exact refT hC9 (ok_team hX 10 hσ.2.2.1 hM9.2.2.1 (xin_ti _)) (fun v J h => ⟨mN9.pL hM9 h.1 h.2.1, h.2.2⟩)

set_option maxRecDepth 100000 in
theorem li_36 {X : xX} (hX : xBase X) {V : xT} {mc ms : Nat} (hE : xEng X m_L_law 12 mc ms V) {b L : Nat} {xs : Nat → Int32} (hs : LSc X b L xs) {c : xCx} {I : xIn} {σ : St9} (hσ : SK σ) (hC : CC I c σ) (hM : MM I σ) (hA : c.2.2.2 (2, 9) = b) {i : Nat} (hi : i + 7 ≤ L) {k n : Nat} (hk : k + 10 ≤ mc) (hn : n + 200 ≤ ms) (next : Nxt V b i k n) : V 3042 [(0, xr (2, 9)), (1, xr (0, 0)), (2, xr (1, 0)), (3, xr (2, 0)), (4, xr (2, 1)), (5, xi (i : Int))] [] (I, xst c) k n := by
  refine lc_36 hX hE hs hA hi (mc9 := 3) (ms9 := 18) (by omega) (by omega) (F := (gamesA σ.L (sx xs (i + 1)) (sx xs (i + 2)) (sx xs (i + 3))).1) (C9 := fun J c9 => cN I c (σ.T, σ.K, (gamesA σ.L (sx xs (i + 1)) (sx xs (i + 2)) (sx xs (i + 3))).2, σ.2.2.2) J ∧ c9.1 = c.1) (D9 := fun J c9 => CC J c9 (σ.T, σ.K, (gamesA σ.L (sx xs (i + 1)) (sx xs (i + 2)) (sx xs (i + 3))).2, σ.2.2.2) ∧ MM J (σ.T, σ.K, (gamesA σ.L (sx xs (i + 1)) (sx xs (i + 2)) (sx xs (i + 3))).2, σ.2.2.2)) ?_ ?_ (next.go (σ9 := (σ.T, σ.K, (gamesA σ.L (sx xs (i + 1)) (sx xs (i + 2)) (sx xs (i + 3))).2, σ.2.2.2)) ⟨hσ.1, hσ.2.1, gamesA_ok hσ.2.2.1 _ _ _, hσ.2.2.2⟩ hA (by omega) (by omega))
  · exact wr_games hX (xRet_w (cn_games hX 2 hσ.2.2.1 hC.2.2.1 (xin_ti _) (xin_ti _) (xin_ti _)) (fun v J h => ⟨cN.pL hC h.1 rfl h.2.1, h.2.2⟩) (fun x J h => ⟨cN.eL hC h.1 h.2.1, h.2.2⟩))
  · intro I9 c9 hC9
    have hM9 : MM I9 σ := hM.sm hC9.1.1
    exact refT hC9 (ok_games hX 10 hσ.2.2.1 hM9.2.2.1 (xin_ti _) (xin_ti _) (xin_ti _)) (fun v J h => ⟨mN9.pL hM9 h.1 h.2.1, h.2.2⟩)

set_option maxRecDepth 100000 in
theorem li_37 {X : xX} (hX : xBase X) {V : xT} {mc ms : Nat} (hE : xEng X m_L_law 12 mc ms V) {b L : Nat} {xs : Nat → Int32} (hs : LSc X b L xs) {c : xCx} {I : xIn} {σ : St9} (hσ : SK σ) (hC : CC I c σ) (hM : MM I σ) (hA : c.2.2.2 (2, 9) = b) {i : Nat} (hi : i + 7 ≤ L) {k n : Nat} (hk : k + 10 ≤ mc) (hn : n + 200 ≤ ms) (next : Nxt V b i k n) : V 3122 [(0, xr (2, 9)), (1, xr (0, 0)), (2, xr (1, 0)), (3, xr (2, 0)), (4, xr (2, 1)), (5, xi (i : Int))] [] (I, xst c) k n := by
  refine lc_37 hX hE hs hA hi (mc9 := 1) (ms9 := 6) (by omega) (by omega) (F := canWinA σ.L (sx xs (i + 1))) (C9 := fun J c9 => cN I c σ J ∧ c9.1 = c.1) (D9 := fun J c9 => CC J c9 σ ∧ MM J σ) ?_ ?_ (next.go (σ9 := σ) hσ hA (by omega) (by omega))
  · exact wr_canWin hX (xRet_w (cn_canWin hX 2 hσ.2.2.1 hC.2.2.1 (xin_ti _)) (fun v J h => by first | exact ⟨cN.k hC h.1, h.2⟩ | exact ⟨cN.e hC h.1, h.2⟩ | exact ⟨cN.k hC (kpX.C h.1), h.2⟩) (fun x J h => by first | exact ⟨cN.k hC h.1, h.2⟩ | exact ⟨cN.e hC h.1, h.2⟩ | exact ⟨cN.k hC h.1, exN.L h.2⟩ | exact ⟨cN.k hC (kpX.C h.1), exN.L h.2.1⟩))
  · intro I9 c9 hC9
    have hM9 : MM I9 σ := hM.sm hC9.1.1
    exact refT hC9 (ok_canWin hX 7 hσ.2.2.1 hM9.2.2.1 (xin_ti _)) (fun v J h => ⟨mN9.k hM9 h.1, h.2⟩)

set_option maxRecDepth 100000 in
theorem li_38 {X : xX} (hX : xBase X) {V : xT} {mc ms : Nat} (hE : xEng X m_L_law 12 mc ms V) {b L : Nat} {xs : Nat → Int32} (hs : LSc X b L xs) {c : xCx} {I : xIn} {σ : St9} (hσ : SK σ) (hC : CC I c σ) (hM : MM I σ) (hA : c.2.2.2 (2, 9) = b) {i : Nat} (hi : i + 7 ≤ L) {k n : Nat} (hk : k + 10 ≤ mc) (hn : n + 200 ≤ ms) (next : Nxt V b i k n) : V 3185 [(0, xr (2, 9)), (1, xr (0, 0)), (2, xr (1, 0)), (3, xr (2, 0)), (4, xr (2, 1)), (5, xi (i : Int))] [] (I, xst c) k n := by
  refine lc_38 hX hE hs hA hi (mc9 := 2) (ms9 := 12) (by omega) (by omega) (F := againstA σ.L (sx xs (i + 1))) (C9 := fun J c9 => cN I c σ J ∧ c9.1 = c.1) (D9 := fun J c9 => CC J c9 σ ∧ MM J σ) ?_ ?_ (next.go (σ9 := σ) hσ hA (by omega) (by omega))
  · exact wr_against hX (xRet_w (cn_against hX 2 hσ.2.2.1 hC.2.2.1 (xin_ti _)) (fun v J h => by first | exact ⟨cN.k hC h.1, h.2⟩ | exact ⟨cN.e hC h.1, h.2⟩ | exact ⟨cN.k hC (kpX.C h.1), h.2⟩) (fun x J h => by first | exact ⟨cN.k hC h.1, h.2⟩ | exact ⟨cN.e hC h.1, h.2⟩ | exact ⟨cN.k hC h.1, exN.L h.2⟩ | exact ⟨cN.k hC (kpX.C h.1), exN.L h.2.1⟩))
  · intro I9 c9 hC9
    have hM9 : MM I9 σ := hM.sm hC9.1.1
    exact refT hC9 (ok_against hX 7 hσ.2.2.1 hM9.2.2.1 (xin_ti _)) (fun v J h => ⟨mN9.k hM9 h.1, h.2⟩)

set_option maxRecDepth 100000 in
theorem li_39 {X : xX} (hX : xBase X) {V : xT} {mc ms : Nat} (hE : xEng X m_L_law 12 mc ms V) {b L : Nat} {xs : Nat → Int32} (hs : LSc X b L xs) {c : xCx} {I : xIn} {σ : St9} (hσ : SK σ) (hC : CC I c σ) (hM : MM I σ) (hA : c.2.2.2 (2, 9) = b) {i : Nat} (hi : i + 7 ≤ L) {k n : Nat} (hk : k + 10 ≤ mc) (hn : n + 200 ≤ ms) (next : Nxt V b i k n) : V 3241 [(0, xr (2, 9)), (1, xr (0, 0)), (2, xr (1, 0)), (3, xr (2, 0)), (4, xr (2, 1)), (5, xi (i : Int))] [] (I, xst c) k n := by
  refine lc_39 hX hE hs hA hi (mc9 := 1) (ms9 := 6) (by omega) (by omega) (F := (tableA σ.B (sx xs (i + 1)) (sx xs (i + 2))).1) (C9 := fun J c9 => cN I c (σ.T, σ.K, σ.L, σ.P, (tableA σ.B (sx xs (i + 1)) (sx xs (i + 2))).2) J ∧ c9.1 = c.1) (D9 := fun J c9 => CC J c9 (σ.T, σ.K, σ.L, σ.P, (tableA σ.B (sx xs (i + 1)) (sx xs (i + 2))).2) ∧ MM J (σ.T, σ.K, σ.L, σ.P, (tableA σ.B (sx xs (i + 1)) (sx xs (i + 2))).2)) ?_ ?_ (next.go (σ9 := (σ.T, σ.K, σ.L, σ.P, (tableA σ.B (sx xs (i + 1)) (sx xs (i + 2))).2)) ⟨hσ.1, hσ.2.1, hσ.2.2.1, hσ.2.2.2.1, tableA_ok hσ.2.2.2.2 _ _⟩ hA (by omega) (by omega))
  · exact wr_table hX (xRet_w (cn_table hX 3 hC.2.2.2.2 (xin_ti _) (xin_ti _)) (fun v J h => ⟨cN.pB hC h.1 rfl h.2.1, h.2.2⟩) (fun x J h => ⟨cN.eB hC h.1 h.2.1, h.2.2⟩))
  · intro I9 c9 hC9
    have hM9 : MM I9 σ := hM.sm hC9.1.1
    exact refT hC9 (ok_table hX 10 hM9.2.2.2.2 (xin_ti _) (xin_ti _)) (fun v J h => ⟨mN9.pB hM9 h.1 h.2.1 h.2.2.1, h.2.2.2⟩)

set_option maxRecDepth 100000 in
theorem li_40 {X : xX} (hX : xBase X) {V : xT} {mc ms : Nat} (hE : xEng X m_L_law 12 mc ms V) {b L : Nat} {xs : Nat → Int32} (hs : LSc X b L xs) {c : xCx} {I : xIn} {σ : St9} (hσ : SK σ) (hC : CC I c σ) (hM : MM I σ) (hA : c.2.2.2 (2, 9) = b) {i : Nat} (hi : i + 7 ≤ L) {k n : Nat} (hk : k + 10 ≤ mc) (hn : n + 200 ≤ ms) (next : Nxt V b i k n) : V 3309 [(0, xr (2, 9)), (1, xr (0, 0)), (2, xr (1, 0)), (3, xr (2, 0)), (4, xr (2, 1)), (5, xi (i : Int))] [] (I, xst c) k n := by
  refine lc_40 hX hE hs hA hi (mc9 := 2) (ms9 := 12) (by omega) (by omega) (F := (tellA σ.B (sx xs (i + 1)) (sx xs (i + 2)) (sx xs (i + 3))).1) (C9 := fun J c9 => cN I c (σ.T, σ.K, σ.L, σ.P, (tellA σ.B (sx xs (i + 1)) (sx xs (i + 2)) (sx xs (i + 3))).2) J ∧ c9.1 = c.1) (D9 := fun J c9 => CC J c9 (σ.T, σ.K, σ.L, σ.P, (tellA σ.B (sx xs (i + 1)) (sx xs (i + 2)) (sx xs (i + 3))).2) ∧ MM J (σ.T, σ.K, σ.L, σ.P, (tellA σ.B (sx xs (i + 1)) (sx xs (i + 2)) (sx xs (i + 3))).2)) ?_ ?_ (next.go (σ9 := (σ.T, σ.K, σ.L, σ.P, (tellA σ.B (sx xs (i + 1)) (sx xs (i + 2)) (sx xs (i + 3))).2)) ⟨hσ.1, hσ.2.1, hσ.2.2.1, hσ.2.2.2.1, tellA_ok hσ.2.2.2.2 _ _ _⟩ hA (by omega) (by omega))
  · exact wr_tell hX (xRet_w (cn_tell hX 2 hσ.2.2.2.2 hC.2.2.2.2 (xin_ti _) (xin_ti _) (xin_ti _)) (fun v J h => ⟨cN.pB hC h.1 rfl h.2.1, h.2.2⟩) (fun x J h => ⟨cN.eB hC h.1 h.2.1, h.2.2⟩))
  · intro I9 c9 hC9
    have hM9 : MM I9 σ := hM.sm hC9.1.1
    exact refT hC9 (ok_tell hX 10 hσ.2.2.2.2 hM9.2.2.2.2 (xin_ti _) (xin_ti _) (xin_ti _)) (fun v J h => ⟨mN9.pB hM9 h.1 (fun k _ _ h9 => h.2.1 k h9) h.2.2.1, h.2.2.2⟩)

set_option maxRecDepth 100000 in
theorem li_41 {X : xX} (hX : xBase X) {V : xT} {mc ms : Nat} (hE : xEng X m_L_law 12 mc ms V) {b L : Nat} {xs : Nat → Int32} (hs : LSc X b L xs) {c : xCx} {I : xIn} {σ : St9} (hσ : SK σ) (hC : CC I c σ) (hM : MM I σ) (hA : c.2.2.2 (2, 9) = b) {i : Nat} (hi : i + 7 ≤ L) {k n : Nat} (hk : k + 10 ≤ mc) (hn : n + 200 ≤ ms) (next : Nxt V b i k n) : V 3389 [(0, xr (2, 9)), (1, xr (0, 0)), (2, xr (1, 0)), (3, xr (2, 0)), (4, xr (2, 1)), (5, xi (i : Int))] [] (I, xst c) k n := by
  refine lc_41 hX hE hs hA hi (mc9 := 1) (ms9 := 6) (by omega) (by omega) (F := roundedA σ.B (sx xs (i + 1)) (sx xs (i + 2))) (C9 := fun J c9 => cN I c σ J ∧ c9.1 = c.1) (D9 := fun J c9 => CC J c9 σ ∧ MM J σ) ?_ ?_ (next.go (σ9 := σ) hσ hA (by omega) (by omega))
  · exact wr_rounded hX (xRet_w (cn_rounded hX 2 hσ.2.2.2.2 hC.2.2.2.2 (xin_ti _) (xin_ti _)) (fun v J h => by first | exact ⟨cN.k hC h.1, h.2⟩ | exact ⟨cN.e hC h.1, h.2⟩ | exact ⟨cN.k hC (kpX.C h.1), h.2⟩) (fun x J h => by first | exact ⟨cN.k hC h.1, h.2⟩ | exact ⟨cN.e hC h.1, h.2⟩ | exact ⟨cN.k hC h.1, exN.L h.2⟩ | exact ⟨cN.k hC (kpX.C h.1), exN.L h.2.1⟩))
  · intro I9 c9 hC9
    have hM9 : MM I9 σ := hM.sm hC9.1.1
    exact refT hC9 (ok_rounded hX 7 hσ.2.2.2.2 hM9.2.2.2.2 (xin_ti _) (xin_ti _)) (fun v J h => ⟨mN9.r hM9 h.1 h.2.1, h.2.2⟩)

set_option maxRecDepth 100000 in
theorem li_42 {X : xX} (hX : xBase X) {V : xT} {mc ms : Nat} (hE : xEng X m_L_law 12 mc ms V) {b L : Nat} {xs : Nat → Int32} (hs : LSc X b L xs) {c : xCx} {I : xIn} {σ : St9} (hσ : SK σ) (hC : CC I c σ) (hM : MM I σ) (hA : c.2.2.2 (2, 9) = b) {i : Nat} (hi : i + 7 ≤ L) {k n : Nat} (hk : k + 10 ≤ mc) (hn : n + 200 ≤ ms) (next : Nxt V b i k n) : V 3457 [(0, xr (2, 9)), (1, xr (0, 0)), (2, xr (1, 0)), (3, xr (2, 0)), (4, xr (2, 1)), (5, xi (i : Int))] [] (I, xst c) k n := by
  refine lc_42 hX hE hs hA hi (mc9 := 1) (ms9 := 6) (by omega) (by omega) (F := (projectA σ.P (sx xs (i + 1)) (sx xs (i + 2))).1) (C9 := fun J c9 => cN I c (σ.T, σ.K, σ.L, (projectA σ.P (sx xs (i + 1)) (sx xs (i + 2))).2, σ.B) J ∧ c9.1 = c.1) (D9 := fun J c9 => CC J c9 (σ.T, σ.K, σ.L, (projectA σ.P (sx xs (i + 1)) (sx xs (i + 2))).2, σ.B) ∧ MM J (σ.T, σ.K, σ.L, (projectA σ.P (sx xs (i + 1)) (sx xs (i + 2))).2, σ.B)) ?_ ?_ (next.go (σ9 := (σ.T, σ.K, σ.L, (projectA σ.P (sx xs (i + 1)) (sx xs (i + 2))).2, σ.B)) ⟨hσ.1, hσ.2.1, hσ.2.2.1, projectA_ok hσ.2.2.2.1 _ _, hσ.2.2.2.2⟩ hA (by omega) (by omega))
  · exact wr_project hX (xRet_w (cn_project hX 3 hσ.2.2.2.1 hC.2.2.2.1 (xin_ti _) (xin_ti _)) (fun v J h => ⟨cN.pP hC h.1 rfl h.2.1, h.2.2⟩) (fun x J h => ⟨cN.eP hC h.1 h.2.1, h.2.2⟩))
  · intro I9 c9 hC9
    have hM9 : MM I9 σ := hM.sm hC9.1.1
    exact refT hC9 (ok_project hX 10 hσ.2.2.2.1 hM9.2.2.2.1 (xin_ti _) (xin_ti _)) (fun v J h => ⟨mN9.pP hM9 h.1 h.2.1, h.2.2⟩)

set_option maxRecDepth 100000 in
theorem li_43 {X : xX} (hX : xBase X) {V : xT} {mc ms : Nat} (hE : xEng X m_L_law 12 mc ms V) {b L : Nat} {xs : Nat → Int32} (hs : LSc X b L xs) {c : xCx} {I : xIn} {σ : St9} (hσ : SK σ) (hC : CC I c σ) (hM : MM I σ) (hA : c.2.2.2 (2, 9) = b) {i : Nat} (hi : i + 7 ≤ L) {k n : Nat} (hk : k + 10 ≤ mc) (hn : n + 200 ≤ ms) (next : Nxt V b i k n) : V 3525 [(0, xr (2, 9)), (1, xr (0, 0)), (2, xr (1, 0)), (3, xr (2, 0)), (4, xr (2, 1)), (5, xi (i : Int))] [] (I, xst c) k n := by
  refine lc_43 hX hE hs hA hi (mc9 := 1) (ms9 := 6) (by omega) (by omega) (F := (toolCostA σ.P (sx xs (i + 1)) (sx xs (i + 2))).1) (C9 := fun J c9 => cN I c (σ.T, σ.K, σ.L, (toolCostA σ.P (sx xs (i + 1)) (sx xs (i + 2))).2, σ.B) J ∧ c9.1 = c.1) (D9 := fun J c9 => CC J c9 (σ.T, σ.K, σ.L, (toolCostA σ.P (sx xs (i + 1)) (sx xs (i + 2))).2, σ.B) ∧ MM J (σ.T, σ.K, σ.L, (toolCostA σ.P (sx xs (i + 1)) (sx xs (i + 2))).2, σ.B)) ?_ ?_ (next.go (σ9 := (σ.T, σ.K, σ.L, (toolCostA σ.P (sx xs (i + 1)) (sx xs (i + 2))).2, σ.B)) ⟨hσ.1, hσ.2.1, hσ.2.2.1, toolCostA_ok hσ.2.2.2.1 _ _, hσ.2.2.2.2⟩ hA (by omega) (by omega))
  · exact wr_toolCost hX (xRet_w (cn_toolCost hX 3 hC.2.2.2.1 (xin_ti _) (xin_ti _)) (fun v J h => ⟨cN.pP hC h.1 rfl h.2.1, h.2.2⟩) (fun x J h => ⟨cN.eP hC h.1 h.2.1, h.2.2⟩))
  · intro I9 c9 hC9
    have hM9 : MM I9 σ := hM.sm hC9.1.1
    exact refT hC9 (ok_toolCost hX 10 hM9.2.2.2.1 (xin_ti _) (xin_ti _)) (fun v J h => ⟨mN9.pP hM9 h.1 h.2.1, h.2.2⟩)

set_option maxRecDepth 100000 in
theorem li_44 {X : xX} (hX : xBase X) {V : xT} {mc ms : Nat} (hE : xEng X m_L_law 12 mc ms V) {b L : Nat} {xs : Nat → Int32} (hs : LSc X b L xs) {c : xCx} {I : xIn} {σ : St9} (hσ : SK σ) (hC : CC I c σ) (hM : MM I σ) (hA : c.2.2.2 (2, 9) = b) {i : Nat} (hi : i + 7 ≤ L) {k n : Nat} (hk : k + 10 ≤ mc) (hn : n + 200 ≤ ms) (next : Nxt V b i k n) : V 3593 [(0, xr (2, 9)), (1, xr (0, 0)), (2, xr (1, 0)), (3, xr (2, 0)), (4, xr (2, 1)), (5, xi (i : Int))] [] (I, xst c) k n := by
  refine lc_44 hX hE hs hA hi (mc9 := 0) (ms9 := 0) (by omega) (by omega) (F := bestA σ.P) (C9 := fun J => cN I c σ J ∧ c.1 = c.1) (D9 := fun J => CC J c σ ∧ MM J σ) ?_ ?_ ?_
  · exact xRet_w (cn_best hX 8 hσ.2.2.2.1 hC.2.2.2.1 ) (fun v J h => ⟨⟨cN.k hC h.1, rfl⟩, h.2⟩) (fun _ _ h => h)
  · intro I9 hC9
    have hM9 : MM I9 σ := hM.sm hC9.1.1
    exact xRet_w (ok_best hX 9 hσ.2.2.2.1 hM9.2.2.2.1 ) (fun v J h => ⟨⟨hC9.1.2.sm h.1.sN rfl, hM9.keep h.1⟩, h.2⟩) (fun _ _ h => h)
  · exact fun J hD => next J c σ hσ hD.1 hD.2 hA _ _ (by omega) (by omega)

set_option maxRecDepth 100000 in
theorem li_45 {X : xX} (hX : xBase X) {V : xT} {mc ms : Nat} (hE : xEng X m_L_law 12 mc ms V) {b L : Nat} {xs : Nat → Int32} (hs : LSc X b L xs) {c : xCx} {I : xIn} {σ : St9} (hσ : SK σ) (hC : CC I c σ) (hM : MM I σ) (hA : c.2.2.2 (2, 9) = b) {i : Nat} (hi : i + 7 ≤ L) {k n : Nat} (hk : k + 10 ≤ mc) (hn : n + 200 ≤ ms) (next : Nxt V b i k n) : V 3606 [(0, xr (2, 9)), (1, xr (0, 0)), (2, xr (1, 0)), (3, xr (2, 0)), (4, xr (2, 1)), (5, xi (i : Int))] [] (I, xst c) k n := by
  obtain ⟨bz, hbz⟩ : ∃ bz, bz = decide ((sx xs (i + 1)) ≠ 0) := ⟨_, rfl⟩
  refine lc_45 hX hE hs hA hi (mc9 := 0) (ms9 := 0) (by omega) (by omega) hbz (F := chosenA σ.P bz) (C9 := fun J => cN I c σ J ∧ c.1 = c.1) (D9 := fun J => CC J c σ ∧ MM J σ) ?_ ?_ ?_
  · exact xRet_w (cn_chosen hX 8 hσ.2.2.2.1 hC.2.2.2.1 bz) (fun v J h => ⟨⟨cN.k hC h.1, rfl⟩, h.2⟩) (fun _ _ h => h)
  · intro I9 hC9
    have hM9 : MM I9 σ := hM.sm hC9.1.1
    exact xRet_w (ok_chosen hX 8 hσ.2.2.2.1 hM9.2.2.2.1 bz) (fun v J h => ⟨⟨hC9.1.2.sm h.1.sN rfl, hM9.keep h.1⟩, h.2⟩) (fun _ _ h => h)
  · exact fun J hD => next J c σ hσ hD.1 hD.2 hA _ _ (by omega) (by omega)

set_option maxRecDepth 100000 in
theorem li_46 {X : xX} (hX : xBase X) {V : xT} {mc ms : Nat} (hE : xEng X m_L_law 12 mc ms V) {b L : Nat} {xs : Nat → Int32} (hs : LSc X b L xs) {c : xCx} {I : xIn} {σ : St9} (hσ : SK σ) (hC : CC I c σ) (hM : MM I σ) (hA : c.2.2.2 (2, 9) = b) {i : Nat} (hi : i + 7 ≤ L) {k n : Nat} (hk : k + 10 ≤ mc) (hn : n + 200 ≤ ms) (next : Nxt V b i k n) : V 3647 [(0, xr (2, 9)), (1, xr (0, 0)), (2, xr (1, 0)), (3, xr (2, 0)), (4, xr (2, 1)), (5, xi (i : Int))] [] (I, xst c) k n := by
  refine lc_46 hX hE hs hA hi (mc9 := 1) (ms9 := 6) (by omega) (by omega) (F := sumA σ.T (sx xs (i + 1))) (C9 := fun J c9 => cN I c σ J ∧ c9.1 = c.1) (D9 := fun J c9 => CC J c9 σ ∧ MM J σ) ?_ ?_ (next.go (σ9 := σ) hσ hA (by omega) (by omega))
  · exact wr_checksum hX (xRet_w (cn_checksum hX 2 hσ.1 hC.1 (xin_ti _)) (fun v J h => by first | exact ⟨cN.k hC h.1, h.2⟩ | exact ⟨cN.e hC h.1, h.2⟩ | exact ⟨cN.k hC (kpX.C h.1), h.2⟩) (fun x J h => by first | exact ⟨cN.k hC h.1, h.2⟩ | exact ⟨cN.e hC h.1, h.2⟩ | exact ⟨cN.k hC h.1, exN.L h.2⟩ | exact ⟨cN.k hC (kpX.C h.1), exN.L h.2.1⟩))
  · intro I9 c9 hC9
    have hM9 : MM I9 σ := hM.sm hC9.1.1
    exact refT hC9 (ok_checksum hX 9 hσ.1 hM9.1 (xin_ti _)) (fun v J h => ⟨mN9.k hM9 h.1, h.2⟩)

set_option maxRecDepth 100000 in
theorem li_47 {X : xX} (hX : xBase X) {V : xT} {mc ms : Nat} (hE : xEng X m_L_law 12 mc ms V) {b L : Nat} {xs : Nat → Int32} (hs : LSc X b L xs) {c : xCx} {I : xIn} {σ : St9} (hσ : SK σ) (hC : CC I c σ) (hM : MM I σ) (hA : c.2.2.2 (2, 9) = b) {i : Nat} (hi : i + 7 ≤ L) {k n : Nat} (hk : k + 10 ≤ mc) (hn : n + 200 ≤ ms) (next : Nxt V b i k n) : V 3702 [(0, xr (2, 9)), (1, xr (0, 0)), (2, xr (1, 0)), (3, xr (2, 0)), (4, xr (2, 1)), (5, xi (i : Int))] [] (I, xst c) k n := by
  refine lc_47 hX hE hs hA hi (mc9 := 4) (ms9 := 24) (by omega) (by omega) (F := shareA σ.T (sx xs (i + 1)) (sx xs (i + 2)) (sx xs (i + 3))) (C9 := fun J c9 => cN I c σ J ∧ c9.1 = c.1) (D9 := fun J c9 => CC J c9 σ ∧ MM J σ) (shareA_dbl hσ.1 _ _ _) ?_ ?_ (next.go (σ9 := σ) hσ hA (by omega) (by omega))
  · exact wr_fullShare hX (fun h => (shareA_dbl hσ.1 _ _ _ h).1) (xRet_w (cn_fullShare hX 1 hσ.1 hC.1 (xin_ti _) (xin_ti _) (xin_ti _)) (fun v J h => by first | exact ⟨cN.k hC h.1, h.2⟩ | exact ⟨cN.e hC h.1, h.2⟩ | exact ⟨cN.k hC (kpX.C h.1), h.2⟩) (fun x J h => by first | exact ⟨cN.k hC h.1, h.2⟩ | exact ⟨cN.e hC h.1, h.2⟩ | exact ⟨cN.k hC h.1, exN.L h.2⟩ | exact ⟨cN.k hC (kpX.C h.1), exN.L h.2.1⟩))
  · intro I9 c9 hC9
    have hM9 : MM I9 σ := hM.sm hC9.1.1
    exact refT hC9 (ok_fullShare hX 5 hσ.1 hM9.1 (xin_ti _) (xin_ti _) (xin_ti _)) (fun v J h => ⟨mN9.k hM9 h.1, h.2⟩)

set_option maxRecDepth 100000 in
theorem li_48 {X : xX} (hX : xBase X) {V : xT} {mc ms : Nat} (hE : xEng X m_L_law 12 mc ms V) {b L : Nat} {xs : Nat → Int32} (hs : LSc X b L xs) {c : xCx} {I : xIn} {σ : St9} (hσ : SK σ) (hC : CC I c σ) (hM : MM I σ) (hA : c.2.2.2 (2, 9) = b) {i : Nat} (hi : i + 7 ≤ L) {k n : Nat} (hk : k + 10 ≤ mc) (hn : n + 200 ≤ ms) (next : Nxt V b i k n) : V 3804 [(0, xr (2, 9)), (1, xr (0, 0)), (2, xr (1, 0)), (3, xr (2, 0)), (4, xr (2, 1)), (5, xi (i : Int))] [] (I, xst c) k n := by
  refine lc_48 hX hE hs hA hi (mc9 := 4) (ms9 := 24) (by omega) (by omega) (F := meanA σ.T (sx xs (i + 1)) (sx xs (i + 2)) (sx xs (i + 3))) (C9 := fun J c9 => cN I c σ J ∧ c9.1 = c.1) (D9 := fun J c9 => CC J c9 σ ∧ MM J σ) ?_ ?_ (next.go (σ9 := σ) hσ hA (by omega) (by omega))
  · exact wr_meanFlow hX (xRet_w (cn_meanFlow hX 1 hσ.1 hC.1 (xin_ti _) (xin_ti _) (xin_ti _)) (fun v J h => by first | exact ⟨cN.k hC h.1, h.2⟩ | exact ⟨cN.e hC h.1, h.2⟩ | exact ⟨cN.k hC (kpX.C h.1), h.2⟩) (fun x J h => by first | exact ⟨cN.k hC h.1, h.2⟩ | exact ⟨cN.e hC h.1, h.2⟩ | exact ⟨cN.k hC h.1, exN.L h.2⟩ | exact ⟨cN.k hC (kpX.C h.1), exN.L h.2.1⟩))
  · intro I9 c9 hC9
    have hM9 : MM I9 σ := hM.sm hC9.1.1
    exact refT hC9 (ok_meanFlow hX 5 hσ.1 hM9.1 (xin_ti _) (xin_ti _) (xin_ti _)) (fun v J h => ⟨mN9.k hM9 h.1, h.2⟩)

set_option maxRecDepth 100000 in
theorem li_0 {X : xX} (hX : xBase X) {V : xT} {mc ms : Nat} (hE : xEng X m_L_law 12 mc ms V) {b L : Nat} {xs : Nat → Int32} (hs : LSc X b L xs) {c : xCx} {I : xIn} {σ : St9} (hσ : SK σ) (hC : CC I c σ) (hM : MM I σ) (hA : c.2.2.2 (2, 9) = b) {i : Nat} (hi : i + 7 ≤ L) {k n : Nat} (hk : k + 10 ≤ mc) (hn : n + 200 ≤ ms) (next : Nxt V b i k n) : V 260 [(0, xr (2, 9)), (1, xr (0, 0)), (2, xr (1, 0)), (3, xr (2, 0)), (4, xr (2, 1)), (5, xi (i : Int))] [] (I, xst c) k n := by
  refine lc_0 hX hE hs hA hi (mc9 := 7) (ms9 := 96) (by omega) (by omega) (F := (netA σ.T (sx xs (i + 1))).1) (C9 := fun J c9 => sm1 I J ∧ CC J c9 ((netA σ.T (sx xs (i + 1))).2, σ.2)) (D9 := fun J c9 => CC J c9 ((netA σ.T (sx xs (i + 1))).2, σ.2) ∧ MM J ((netA σ.T (sx xs (i + 1))).2, σ.2)) ?_ ?_ (next.go (σ9 := ((netA σ.T (sx xs (i + 1))).2, σ.2)) ⟨netA_ok hσ.1 _, hσ.2⟩ hA (by omega) (by omega))
  · refine wr_net hX (xMet_w (cn_net hX 3 hσ.1 hC.1 (xin_ti _)) ?_)
    rintro o h9 (⟨h1, h2, I9, c9, h3, h4, -, h6, h7⟩ | ⟨e, h1, h2, h3, h4⟩)
    · refine Or.inl ⟨h1, h2, I9, c9, h3, fun p hp => (h7 p hp).2.2, ?_, ?_⟩
      · exact ⟨fun p hp => h6 p (by omega) (fun z => by rw [z] at hp; cases hp), cN.nT hC h6 h4⟩
      · intro J
        exact ⟨fun p hp => h6 p (by omega) (fun z => by rw [z] at hp; cases hp), (cN.nT hC h6 h4).sm (fun _ _ => rfl) rfl⟩
    · refine Or.inr ⟨e, h1, h2, h3, fun _ _ => rfl, ?_⟩
      rw [h4]
      exact hC
  · intro I9 c9 hC9
    have hM9 : MM I9 σ := hM.sm hC9.1
    exact xRet_w (ok_net hX 10 hσ.1 hM9.1 (xin_ti _)) (fun v J h => ⟨⟨hC9.2.sm (mN9.nT hM9 h.1 h.2.1 h.2.2.1).1 rfl, (mN9.nT hM9 h.1 h.2.1 h.2.2.1).2⟩, h.2.2.2⟩) (fun _ _ h => h)

set_option maxRecDepth 100000 in
theorem li_49 {X : xX} (hX : xBase X) {V : xT} {mc ms : Nat} (hE : xEng X m_L_law 12 mc ms V) {b L : Nat} {xs : Nat → Int32} (hs : LSc X b L xs) {c : xCx} {I : xIn} {σ : St9} (hσ : SK σ) (hC : CC I c σ) (hM : MM I σ) (hA : c.2.2.2 (2, 9) = b) {i : Nat} (hi : i + 7 ≤ L) {k n : Nat} (hk : k + 10 ≤ mc) (hn : n + 200 ≤ ms) (next : Nxt V b i k n) : V 3905 [(0, xr (2, 9)), (1, xr (0, 0)), (2, xr (1, 0)), (3, xr (2, 0)), (4, xr (2, 1)), (5, xi (i : Int))] [] (I, xst c) k n := by
  refine lc_49 hX hE hs hA hi (mc9 := 0) (ms9 := 0) (by omega) (by omega) (F := true) (C9 := fun J => cN I c σ J) (D9 := fun J => CC J c σ ∧ MM J σ) ?_ ?_ ?_
  · exact xRet_w (cn_isSound hX 4 hσ.1 hC.1 hσ.2.1 hC.2.1 hσ.2.2.2.2 hC.2.2.2.2) (fun v J h => ⟨cN.k hC h.2, h.1⟩) (fun _ _ h => h)
  · intro I9 hC9
    have hM9 : MM I9 σ := hM.sm hC9.1
    exact xRet_w (ok_isSound hX 11) (fun v J h => ⟨⟨hC9.2.sm h.1.sN rfl, hM9.keep h.1⟩, h.2.1⟩) (fun _ _ h => h)
  · exact fun J hD => next J c σ hσ hD.1 hD.2 hA _ _ (by omega) (by omega)

