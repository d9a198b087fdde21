/-! a flow is there if no crowd is, and the greatest one has the told amount -/
theorem FS.tightmax {G : Gr} {lo hi b f : Nat → Int} (hG : GrIn G) (h : FS G lo hi b f) {e : Nat} (he : e < G.m) (hmax : ∀ g, FS G lo hi b g → g e ≤ f e) : f e = hi e ∨ ∃ T : Nat → Bool, T (G.u e) = true ∧ T (G.v e) = false ∧ ∀ k, k < G.m → k ≠ e → (T (G.u k) = true → T (G.v k) = false → f k = lo k) ∧ (T (G.u k) = false → T (G.v k) = true → f k = hi k) := by
  have h0 : Rch G lo hi f e (G.v e) (fun x => x == G.v e) := ⟨by simp, fun y hy => ⟨f, h.1, rfl, fun _ _ _ => rfl, fun x => by
    have hy : y = G.v e := by simpa using hy
    rw [hy]; omega⟩⟩
  obtain ⟨R, h1, h2⟩ := Rch.max hG h.1 (Int.toNat (sumE G.n (fun x => if (x == G.v e) then (0 : Int) else 1))) _ h0 (by omega)
  cases hv : R (G.u e)
  · refine Or.inr ⟨fun x => !R x, by simp [hv], by simp [h1.1], fun k hk hke => ⟨fun a1 a2 => ?_, fun a1 a2 => ?_⟩⟩
    · have a1 : R (G.u k) = false := by simpa using a1
      have a2 : R (G.v k) = true := by simpa using a2
      have h3 := h.1 k hk
      by_cases hlt : lo k < f k
      · have := h2 _ _ ⟨k, hk, hke, Or.inr ⟨rfl, rfl, hlt⟩⟩ a2
        rw [a1] at this; cases this
      · omega
    · have a1 : R (G.u k) = true := by simpa using a1
      have a2 : R (G.v k) = false := by simpa using a2
      have h3 := h.1 k hk
      by_cases hlt : f k < hi k
      · have := h2 _ _ ⟨k, hk, hke, Or.inl ⟨rfl, rfl, hlt⟩⟩ a1
        rw [a2] at this; cases this
      · omega
  · obtain ⟨g, g1, g2, g3, g4⟩ := h1.2 _ hv
    left
    have h3 := h.1 e he
    by_cases hlt : f e < hi e
    · have h4 := hmax (upL g e (g e + 1)) ⟨fun k hk => by
        by_cases hke : k = e
        · rw [hke, upL_s]; omega
        · rw [upL_n hke]; exact g1 k hk, fun x hx => by
        rw [nout_up g he, g4 x, ← h.2 x hx]
        split <;> split <;> omega⟩
      rw [upL_s] at h4
      omega
    · omega
theorem FS.most {G : Gr} {lo hi b : Nat → Int} (hG : GrIn G) {e : Nat} (he : e < G.m) : ∀ (N : Nat) (f : Nat → Int), FS G lo hi b f → hi e - f e ≤ N → ∃ g, FS G lo hi b g ∧ (g e = hi e ∨ ∃ T : Nat → Bool, T (G.u e) = true ∧ T (G.v e) = false ∧ ∀ k, k < G.m → k ≠ e → (T (G.u k) = true → T (G.v k) = false → g k = lo k) ∧ (T (G.u k) = false → T (G.v k) = true → g k = hi k)) := by
  intro N
  induction N with
  | zero =>
    intro f h1 h2
    exact ⟨f, h1, h1.tightmax hG he fun g hg => by have := (hg.1 e he).2; omega⟩
  | succ N ih =>
    intro f h1 h2
    by_cases hx : ∃ g, FS G lo hi b g ∧ f e < g e
    · obtain ⟨g, a1, a2⟩ := hx
      exact ih g a1 (by omega)
    · refine ⟨f, h1, h1.tightmax hG he fun g hg => ?_⟩
      by_cases hlt : f e < g e
      · exact absurd ⟨g, hg, hlt⟩ hx
      · omega
def mixk (l : Nat → Int) (k e : Nat) : Int := if e < k then l e else if l e < 0 then l e else 0
theorem hoff {G : Gr} {l h : Nat → Int} (hG : GrIn G) (hb : ∀ e, e < G.m → l e ≤ h e ∧ 0 ≤ h e) (hno : ∀ S, S < 2 ^ G.n → sOut G l S ≤ sIn G h S) {k : Nat} (hk : k ≤ G.m) : ∃ f, FS G (mixk l k) h (fun _ => 0) f := by
  induction k with
  | zero =>
    refine ⟨fun _ => 0, fun e he => ?_, fun x hx => ?_⟩
    · have := hb e he
      unfold mixk
      rw [if_neg (by omega)]
      dsimp only
      split <;> omega
    · exact sumE_0 fun e he => by split <;> split <;> rfl
  | succ k ih =>
    obtain ⟨f, hf⟩ := ih (by omega)
    have hk9 : k < G.m := by omega
    obtain ⟨g, g1, g2⟩ := FS.most hG hk9 (Int.toNat (h k - f k)) f hf (by omega)
    have hgk : l k ≤ g k := by
      rcases g2 with g2 | ⟨T, t1, t2, t3⟩
      · have := hb k hk9; omega
      · by_cases hlt : g k < l k
        · obtain ⟨S, s1, s2⟩ := crowd_of (l := l) (h := h) hG g1.2 hk9 hlt t1 t2 fun j hj hjk => ⟨fun a1 a2 => by
            rw [(t3 j hj hjk).1 a1 a2]
            unfold mixk
            split
            · exact Int.le_refl _
            · split <;> omega, (t3 j hj hjk).2⟩
          have := hno S s1
          omega
        · omega
    refine ⟨g, fun e he => ?_, g1.2⟩
    have h1 := g1.1 e he
    by_cases hek : e = k
    · rw [hek] at h1 ⊢
      unfold mixk
      rw [if_pos (by omega)]
      exact ⟨hgk, h1.2⟩
    · unfold mixk at h1 ⊢
      by_cases hlt : e < k
      · rw [if_pos hlt] at h1
        rw [if_pos (by omega)]; exact h1
      · rw [if_neg hlt] at h1
        rw [if_neg (by omega)]; exact h1
theorem back_FS {G : Gr} {lo hi lo9 hi9 f : Nat → Int} {s t : Nat} (hst : s ≠ t) (h : FS (bk G s t) lo9 hi9 (fun _ => 0) f) (h1 : ∀ e, e < G.m → lo9 e = lo e ∧ hi9 e = hi e) : FS G lo hi (isB s t (f G.m)) f := by
  refine ⟨fun e he => ?_, fun x hx => ?_⟩
  · rw [← (h1 e he).1, ← (h1 e he).2]
    exact h.1 e (show e < G.m + 1 by omega)
  · have h2 : nout (bk G s t) f x = 0 := h.2 x hx
    rw [bk_nout] at h2
    unfold isB
    by_cases x1 : s = x
    · rw [if_pos x1, if_neg (show ¬ t = x by omega)] at h2
      rw [if_pos x1.symm]; omega
    · rw [if_neg x1] at h2
      rw [if_neg (show ¬ x = s from fun z => x1 z.symm)]
      by_cases x2 : t = x
      · rw [if_pos x2] at h2
        rw [if_pos x2.symm]; omega
      · rw [if_neg x2] at h2
        rw [if_neg (show ¬ x = t from fun z => x2 z.symm)]; omega
/-- no crowd: the greatest amount is one, and there is a flow of it -/
theorem flow_ex {G : Gr} {lo hi : Nat → Int} {s t : Nat} (hG : GrOK G) (hs : s < G.n) (ht : t < G.n) (hst : s ≠ t) (hb : ∀ e, e < G.m → 0 ≤ lo e ∧ lo e ≤ hi e ∧ hi e ≤ 100) (hno : ∀ S, S < 2 ^ G.n → crowdP G lo hi s t S = false) : amountF G lo hi s t ≠ NONE9 ∧ ∃ f, FS G lo hi (isB s t (amountF G lo hi s t)) f := by
  have hN9 : NONE9 = -1000000 := rfl
  have hbl : ∀ e, e < G.m → (-100 ≤ lo e ∧ lo e ≤ 100) ∧ (-100 ≤ hi e ∧ hi e ≤ 100) := fun e he => by have := hb e he; omega
  have hGb := bk_in9 hG.in hs ht
  have hne : ∀ e, e < G.m → ¬ e = G.m := fun e he => by omega
  have hmm : G.m < (bk G s t).m := Nat.lt_succ_self _
  have hbd : ∀ S, (-1600 ≤ sOut G lo S ∧ sOut G lo S ≤ 1600) ∧ (-1600 ≤ sIn G hi S ∧ sIn G hi S ≤ 1600) ∧ (-1600 ≤ sOut G hi S ∧ sOut G hi S ≤ 1600) ∧ (-1600 ≤ sIn G lo S ∧ sIn G lo S ≤ 1600) := fun S => ⟨sOut_bd hG.2.2.1 (by decide : (0 : Int) ≤ 100) (fun e he => (hbl e he).1), sIn_bd hG.2.2.1 (by decide : (0 : Int) ≤ 100) (fun e he => (hbl e he).2), sOut_bd hG.2.2.1 (by decide : (0 : Int) ≤ 100) (fun e he => (hbl e he).2), sIn_bd hG.2.2.1 (by decide : (0 : Int) ≤ 100) (fun e he => (hbl e he).1)⟩
  have hnb : ∀ S, S < 2 ^ (bk G s t).n → sOut (bk G s t) (upL lo G.m (-1000000)) S ≤ sIn (bk G s t) (upL hi G.m 1000000) S := fun S hS => by
    have h1 := hno S hS
    have h2 := hbd S
    rw [bk_out, bk_in, upL_s, upL_s, sOut_cong (g := lo) (fun e he => upL_n (hne e he)), sIn_cong (g := hi) (fun e he => upL_n (hne e he))]
    unfold crowdP at h1
    unfold btw
    cases a1 : S.testBit s <;> cases a2 : S.testBit t <;> rw [a1, a2] at h1 <;> simp at h1 ⊢ <;> omega
  obtain ⟨f, hf⟩ := hoff hGb (fun e he => by
    have he : e < G.m + 1 := he
    by_cases h : e = G.m
    · rw [h, upL_s, upL_s]; omega
    · rw [upL_n h, upL_n h]
      have := hb e (by omega)
      omega) hnb (Nat.le_refl _)
  have hmix : ∀ e, e < G.m → mixk (upL lo G.m (-1000000)) (bk G s t).m e = lo e ∧ upL hi G.m 1000000 e = hi e := fun e he => by
    unfold mixk
    rw [if_pos (show e < (bk G s t).m from Nat.lt_succ_of_lt he), upL_n (hne e he), upL_n (hne e he)]
    exact ⟨rfl, rfl⟩
  obtain ⟨g, g1, g2⟩ := FS.most hGb hmm (Int.toNat (upL hi G.m 1000000 G.m - f G.m)) f hf (by omega)
  have hFS := back_FS hst g1 hmix
  have hbg := flow_bd hG hs ht hst (fun e he => ⟨(hbl e he).1.1, (hbl e he).2.2⟩) hFS
  rcases g2 with g2 | ⟨T, t1, t2, t3⟩
  · rw [upL_s] at g2; omega
  · rw [bk_um] at t1
    rw [bk_vm] at t2
    have ha := amount_eq hG.in hs ht hst hFS (fun S hS => by have := hbd S; unfold cutV; omega) (T := fun x => !T x) (by simp [t2]) (by simp [t1]) (fun k hk => by
      have h3 := t3 k (show k < G.m + 1 by omega) (hne k hk)
      rw [bk_u hk, bk_v hk, (hmix k hk).1, (hmix k hk).2] at h3
      exact ⟨fun z1 z2 => h3.2 (by simpa using z1) (by simpa using z2), fun z1 z2 => h3.1 (by simpa using z1) (by simpa using z2)⟩)
    rw [ha]
    exact ⟨by omega, g, hFS⟩
