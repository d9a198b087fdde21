/-! the row of least numbers, by the class -/
def lxF (G : Gr) (lo hi : Nat → Int) (s t : Nat) (a : Int) : Nat → (Nat → Int) × (Nat → Int)
  | 0 => (lo, hi)
  | k + 1 => (upL (lxF G lo hi s t a k).1 k (leastF G (lxF G lo hi s t a k).1 (lxF G lo hi s t a k).2 s t a k), upL (lxF G lo hi s t a k).2 k (leastF G (lxF G lo hi s t a k).1 (lxF G lo hi s t a k).2 s t a k))
theorem lxF_same {G : Gr} {lo hi : Nat → Int} {s t : Nat} {a : Int} {k e : Nat} (he : e < k) : (lxF G lo hi s t a k).1 e = (lxF G lo hi s t a k).2 e := by
  induction k with
  | zero => omega
  | succ k ih =>
    rw [lxF]
    dsimp only
    by_cases h : e = k
    · rw [h, upL_s, upL_s]
    · rw [upL_n h, upL_n h]; exact ih (by omega)
theorem leastF_cong {G : Gr} {lo hi lo9 hi9 : Nat → Int} {s t e : Nat} {a : Int} (he : e < G.m) (h1 : ∀ k, k < G.m → lo k = lo9 k) (h2 : ∀ k, k < G.m → hi k = hi9 k) : leastF G lo hi s t a e = leastF G lo9 hi9 s t a e := mx_cong (h1 e he) (fun _ _ => rfl) (fun S _ _ => by rw [sOut_cong h1, sIn_cong h2, h2 e he])
theorem lxF_cong {G : Gr} {lo hi lo9 hi9 : Nat → Int} {s t : Nat} {a : Int} (h1 : ∀ k, k < G.m → lo k = lo9 k) (h2 : ∀ k, k < G.m → hi k = hi9 k) {k : Nat} (hk : k ≤ G.m) : ∀ e, e < G.m → (lxF G lo hi s t a k).1 e = (lxF G lo9 hi9 s t a k).1 e ∧ (lxF G lo hi s t a k).2 e = (lxF G lo9 hi9 s t a k).2 e := by
  induction k with
  | zero => intro e he; exact ⟨h1 e he, h2 e he⟩
  | succ k ih =>
    have ih := ih (by omega)
    have h3 := leastF_cong (s := s) (t := t) (a := a) (show k < G.m by omega) (fun e he => (ih e he).1) (fun e he => (ih e he).2)
    intro e he
    rw [lxF, lxF, h3]
    dsimp only
    by_cases h : e = k
    · rw [h, upL_s, upL_s, upL_s, upL_s]; exact ⟨rfl, rfl⟩
    · rw [upL_n h, upL_n h, upL_n h, upL_n h]; exact ih e he
def b100 (m : Nat) (lo hi : Nat → Int) : Prop := ∀ e, e < m → -100 ≤ lo e ∧ hi e ≤ 100
section SR
variable {X : xX} {c : xCx} {I : xIn} {G : Gr} {s t : Nat} {lo hi : Nat → Int} {a0 p : Int}
theorem fill_pre (hG : GrOK G) (hf : Filled I G s t lo hi a0 p) (hb : b100 G.m lo hi) : Bd9 I (bk G s t).m ∧ In9 I (bk G s t).m ∧ ∀ e, e < G.m → (-100 ≤ lo e ∧ lo e ≤ I (0, 11) e ∧ I (0, 11) e ≤ hi e ∧ hi e ≤ 100) ∧ I (0, 11) e - I (0, 9) e ≤ 1000000 := by
  obtain ⟨f1, f2, f3, f4, f5, f6⟩ := id hf
  have hm := hG.2.2.1
  have hbb : ∀ e, e < G.m → (-100 ≤ lo e ∧ lo e ≤ I (0, 11) e ∧ I (0, 11) e ≤ hi e ∧ hi e ≤ 100) ∧ I (0, 11) e - I (0, 9) e ≤ 1000000 := fun e he => by
    have h1 := f4 e (by omega)
    rw [(f1 e he).1, (f1 e he).2] at h1
    have := hb e he
    rw [(f1 e he).1]
    omega
  refine ⟨fun e he => ?_, f4, hbb⟩
  have he : e < G.m + 1 := he
  by_cases h : e = G.m
  · rw [h, f2, f3]; omega
  · rw [(f1 e (by omega)).1, (f1 e (by omega)).2]
    have := hbb e (by omega)
    omega
theorem lower_step (hG : GrOK G) (hs : s < G.n) (ht : t < G.n) (hst : s ≠ t) (hf : Filled I G s t lo hi a0 p) (hb : b100 G.m lo hi) {e : Nat} (he : e < G.m) {I9 : xIn} (k2 : ∀ k, k < (bk G s t).m → I (0, 9) k ≤ I9 (0, 11) k ∧ I9 (0, 11) k ≤ I (0, 10) k) (k3 : ∀ x, nout (bk G s t) (I9 (0, 11)) x = nout (bk G s t) (I (0, 11)) x) (k4 : I9 (0, 9) = upL (I (0, 9)) e (I9 (0, 11) e)) (k5 : I9 (0, 10) = upL (I (0, 10)) e (I9 (0, 11) e)) (k6 : I9 (0, 11) e = I (0, 9) e ∨ Tight (bk G s t) (I (0, 9)) (I (0, 10)) (I9 (0, 11)) e) : Filled I9 G s t (upL lo e (leastF G lo hi s t (a0 + p) e)) (upL hi e (leastF G lo hi s t (a0 + p) e)) a0 p ∧ b100 G.m (upL lo e (leastF G lo hi s t (a0 + p) e)) (upL hi e (leastF G lo hi s t (a0 + p) e)) ∧ I9 (0, 11) e = leastF G lo hi s t (a0 + p) e := by
  obtain ⟨f1, f2, f3, f4, f5, f6⟩ := id hf
  have he9 : e < (bk G s t).m := Nat.lt_succ_of_lt he
  have hFS : FS (bk G s t) (I (0, 9)) (I (0, 10)) (isB s t p) (I9 (0, 11)) := ⟨k2, fun x _ => by rw [k3 x, f5 x]⟩
  have hv : I9 (0, 11) e = leastF G lo hi s t (a0 + p) e := by
    rw [leastC_eq (bk_in9 hG.in hs ht) hFS he9 k6, least_bk hs ht hst he f2 f3]
    exact leastF_cong he (fun k hk => (f1 k hk).1) (fun k hk => (f1 k hk).2)
  refine ⟨⟨fun k hk => ?_, ?_, ?_, fun k hk => ?_, fun x => ?_, f6⟩, fun k hk => ?_, hv⟩
  · rw [k4, k5, hv]
    by_cases h : k = e
    · rw [h, upL_s, upL_s, upL_s, upL_s]; exact ⟨rfl, rfl⟩
    · rw [upL_n h, upL_n h, upL_n h, upL_n h]; exact f1 k hk
  · rw [k4, upL_n (by omega), f2]
  · rw [k5, upL_n (by omega), f3]
  · rw [k4, k5]
    by_cases h : k = e
    · rw [h, upL_s, upL_s]; omega
    · rw [upL_n h, upL_n h]; exact k2 k hk
  · rw [k3 x, f5 x]
  · rw [← hv]
    have h1 := k2 e he9
    rw [(f1 e he).1, (f1 e he).2] at h1
    have h2 := hb e he
    by_cases h : k = e
    · rw [h, upL_s, upL_s]; omega
    · rw [upL_n h, upL_n h]; exact hb k hk
/-- the least row: numbers and bounds -/
theorem st_tellLeastRow (hX : xBase X) (d : Nat) (hG : GrOK G) (hs : s < G.n) (ht : t < G.n) (hst : s ≠ t) (hF : FR I (bk G s t)) (hf : Filled I G s t lo hi a0 p) (hb : b100 G.m lo hi) : xRet rU X m_X6_tellLeastRow (d + 4) [xr (0, 2), xi (G.m : Int)] c I 0 0 (fun _ I9 => kpL I I9 ∧ Filled I9 G s t (lxF G lo hi s t (a0 + p) G.m).1 (lxF G lo hi s t (a0 + p) G.m).2 a0 p ∧ ∀ e, e < G.m → I9 (0, 11) e = (lxF G lo hi s t (a0 + p) G.m).1 e) xNo := by
  have hm := hG.2.2.1
  refine xRet_of hX pl_X6_tellLeastRow (LE1 rfl) fun V hV => rg_X6_tellLeastRow_0 hV I _ ?_
  refine up_to0 (m := G.m) (W := fun k => ∀ J : xIn, kpL I J → Filled J G s t (lxF G lo hi s t (a0 + p) k).1 (lxF G lo hi s t (a0 + p) k).2 a0 p → b100 G.m (lxF G lo hi s t (a0 + p) k).1 (lxF G lo hi s t (a0 + p) k).2 → V 2 [(0, xr (0, 2)), (1, xi (G.m : Int)), (2, xi (k : Int))] [] (J, xst c) 0 0) ?_ ?_ I ⟨kp.rfl, fun _ _ => rfl⟩ hf hb
  · intro J h1 h2 h3
    refine rg_X6_tellLeastRow_2 hV J _ _ ⟨⟨by omega, by omega⟩, ⟨by omega, by omega⟩, fun _ => ⟨h1, h2, fun e he => ?_⟩, fun h => by omega⟩
    have h4 := (fill_pre hG h2 h3).2.2 e he
    have h5 := lxF_same (G := G) (lo := lo) (hi := hi) (s := s) (t := t) (a := a0 + p) he
    omega
  · intro k hk ih J h1 h2 h3
    have h4 := fill_pre hG h2 h3
    have hk9 : k < (bk G s t).m := Nat.lt_succ_of_lt hk
    refine rg_X6_tellLeastRow_2 hV J _ _ ⟨⟨by omega, by omega⟩, ⟨by omega, by omega⟩, fun h => by omega, fun _ => ⟨_, fl_lower hX d (h1.fr hF) h4.1 h4.2.1 hk9 (bk_ne hG hst k hk9) (h4.2.2 k hk).2, ?_⟩⟩
    rintro _ I9 ⟨k1, k2, k3, k4, k5, k6⟩
    obtain ⟨j1, j2, j3⟩ := lower_step hG hs ht hst h2 h3 hk k2 k3 k4 k5 k6
    exact ih I9 (h1.tr k1) j1 j2
theorem st_leastOf (hX : xBase X) (d : Nat) (hG : GrOK G) (hs : s < G.n) (ht : t < G.n) (hst : s ≠ t) (hF : FR I (bk G s t)) (hf : Filled I G s t lo hi a0 p) (hb : b100 G.m lo hi) {e : Nat} (he : e < G.m) : xRet rI X m_X6_leastOf (d + 4) [xr (0, 2), xi (e : Int)] c I 0 0 (fun v I9 => kpL I I9 ∧ v = leastF G lo hi s t (a0 + p) e) xNo := by
  have h4 := fill_pre hG hf hb
  have he9 : e < (bk G s t).m := Nat.lt_succ_of_lt he
  refine xRet_of hX pl_X6_leastOf (LE1 rfl) fun V hV => rg_X6_leastOf_0 hV I _ ⟨_, fl_lower hX d hF h4.1 h4.2.1 he9 (bk_ne hG hst e he9) (h4.2.2 e he).2, ?_⟩
  rintro _ I9 ⟨k1, k2, k3, k4, k5, k6⟩
  obtain ⟨j1, j2, j3⟩ := lower_step hG hs ht hst hf hb he k2 k3 k4 k5 k6
  refine ⟨_, fl_numberOf hX (d + 2) (k1.fr hF) he9, ?_⟩
  rintro _ I9 ⟨rfl, rfl⟩
  exact ⟨k1, j3⟩
theorem st_numberOf (hX : xBase X) (d : Nat) (hF : FR I G) {e : Nat} (he : e < G.m) : xRet rI X m_X6_numberOf (d + 2) [xr (0, 2), xi (e : Int)] c I 0 0 (pv (I (0, 11) e) I) xNo := by
  refine xRet_of hX pl_X6_numberOf (LE1 rfl) fun V hV => rg_X6_numberOf_0 hV I _ ⟨_, fl_numberOf hX d hF he, ?_⟩
  rintro _ _ ⟨rfl, rfl⟩
  exact pvI rfl
end SR
