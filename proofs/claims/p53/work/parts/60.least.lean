/-! least numbers of edges, an edge that leads back, and the row of them -/
theorem mx_cong {b b9 : Int} {p q : Nat → Bool} {f g : Nat → Int} {n : Nat} (hb : b = b9) (hp : ∀ S, S < n → p S = q S) (hf : ∀ S, S < n → q S = true → f S = g S) : mx b p f n = mx b9 q g n := by
  induction n with
  | zero => exact hb
  | succ n ih =>
    rw [mx, mx, ih (fun S hS => hp S (by omega)) (fun S hS => hf S (by omega)), hp n (by omega)]
    by_cases hq : q n = true
    · rw [if_pos hq, if_pos hq, hf n (by omega) hq]
    · rw [if_neg hq, if_neg hq]
def leastC (G : Gr) (lo hi b : Nat → Int) (e : Nat) : Int := mx (lo e) (fun S => ens G S e) (fun S => sOut G lo S - bS G.n b S - (sIn G hi S - hi e)) (2 ^ G.n)
theorem leastC_eq {G : Gr} {lo hi b f : Nat → Int} (hG : GrIn G) (h : FS G lo hi b f) {e : Nat} (he : e < G.m) (ht : f e = lo e ∨ Tight G lo hi f e) : f e = leastC G lo hi b e := by
  have hm := mx_spec (lo e) (fun S => ens G S e) (fun S => sOut G lo S - bS G.n b S - (sIn G hi S - hi e)) (2 ^ G.n)
  have hle : leastC G lo hi b e ≤ f e := by
    rcases hm.2.2 with h1 | ⟨S, h1, h2, h3⟩
    · unfold leastC; rw [h1]; exact (h.1 e he).1
    · unfold leastC; rw [h3]; exact h.bound hG he h2
  rcases ht with h1 | ⟨T, t1, t2, t3⟩
  · have := hm.1
    unfold leastC at hle ⊢
    omega
  · have hu : ∀ k, k < G.m → (mask T G.n).testBit (G.u k) = T (G.u k) := fun k hk => mask_bit T _ _ (hG k hk).1
    have hv : ∀ k, k < G.m → (mask T G.n).testBit (G.v k) = T (G.v k) := fun k hk => mask_bit T _ _ (hG k hk).2
    have hens : ens G (mask T G.n) e = true := by unfold ens; rw [hu e he, hv e he, t1, t2]; rfl
    have h2 := h.tight hG he hens (fun k hk hl => by
      unfold lvs at hl
      rw [hu k hk, hv k hk] at hl
      have h3 : T (G.u k) = true ∧ T (G.v k) = false := by cases a1 : T (G.u k) <;> cases a2 : T (G.v k) <;> rw [a1, a2] at hl <;> first | (exact ⟨rfl, rfl⟩) | cases hl
      refine (t3 k hk ?_).1 h3.1 h3.2
      rintro rfl
      rw [t1] at h3; cases h3.2) (fun k hk hke hl => by
      unfold ens at hl
      rw [hu k hk, hv k hk] at hl
      have h3 : T (G.u k) = false ∧ T (G.v k) = true := by cases a1 : T (G.u k) <;> cases a2 : T (G.v k) <;> rw [a1, a2] at hl <;> first | (exact ⟨rfl, rfl⟩) | cases hl
      exact (t3 k hk hke).2 h3.1 h3.2)
    have h4 := hm.2.1 _ (mask_lt T G.n) hens
    unfold leastC at hle ⊢
    omega
theorem sOut_cong {G : Gr} {f g : Nat → Int} (h : ∀ e, e < G.m → f e = g e) (S : Nat) : sOut G f S = sOut G g S := sumE_cong fun e he => by rw [h e he]
theorem sIn_cong {G : Gr} {f g : Nat → Int} (h : ∀ e, e < G.m → f e = g e) (S : Nat) : sIn G f S = sIn G g S := sumE_cong fun e he => by rw [h e he]
theorem leastC_cong {G : Gr} {lo hi lo9 hi9 b b9 : Nat → Int} {e : Nat} (he : e < G.m) (h1 : ∀ k, k < G.m → lo k = lo9 k) (h2 : ∀ k, k < G.m → hi k = hi9 k) (h3 : ∀ x, x < G.n → b x = b9 x) : leastC G lo hi b e = leastC G lo9 hi9 b9 e := mx_cong (h1 e he) (fun _ _ => rfl) (fun S _ _ => by
  have hb : bS G.n b S = bS G.n b9 S := sumE_cong fun x hx => by rw [h3 x hx]
  rw [sOut_cong h1, sIn_cong h2, h2 e he, hb])
/-- the graph with an edge back from t to s behind its own -/
def bk (G : Gr) (s t : Nat) : Gr := (G.n, G.m + 1, fun e => if e = G.m then t else G.u e, fun e => if e = G.m then s else G.v e)
theorem bk_lvs {G : Gr} {s t S e : Nat} (he : e < G.m) : lvs (bk G s t) S e = lvs G S e := by
  unfold lvs
  show (S.testBit (if e = G.m then t else G.u e) && !S.testBit (if e = G.m then s else G.v e)) = _
  rw [if_neg (by omega), if_neg (by omega)]
theorem bk_ens {G : Gr} {s t S e : Nat} (he : e < G.m) : ens (bk G s t) S e = ens G S e := by
  unfold ens
  show (!S.testBit (if e = G.m then t else G.u e) && S.testBit (if e = G.m then s else G.v e)) = _
  rw [if_neg (by omega), if_neg (by omega)]
theorem bk_out (G : Gr) (s t : Nat) (f : Nat → Int) (S : Nat) : sOut (bk G s t) f S = sOut G f S + (if btw t s S then f G.m else 0) := by
  unfold sOut
  show sumE (G.m + 1) _ = _
  rw [sumE]
  congr 1
  · exact sumE_cong fun e he => by rw [bk_lvs he]
  · show (if (S.testBit (if G.m = G.m then t else G.u G.m) && !S.testBit (if G.m = G.m then s else G.v G.m)) = true then f G.m else 0) = _
    rw [if_pos rfl, if_pos rfl]; rfl
theorem bk_in (G : Gr) (s t : Nat) (f : Nat → Int) (S : Nat) : sIn (bk G s t) f S = sIn G f S + (if btw s t S then f G.m else 0) := by
  unfold sIn
  show sumE (G.m + 1) _ = _
  rw [sumE]
  congr 1
  · exact sumE_cong fun e he => by rw [bk_ens he]
  · show (if (!S.testBit (if G.m = G.m then t else G.u G.m) && S.testBit (if G.m = G.m then s else G.v G.m)) = true then f G.m else 0) = _
    rw [if_pos rfl, if_pos rfl, Bool.and_comm]; rfl
theorem bk_nout {G : Gr} {s t : Nat} (f : Nat → Int) (x : Nat) : nout (bk G s t) f x = nout G f x + ((if t = x then f G.m else 0) - (if s = x then f G.m else 0)) := by
  unfold nout
  show sumE (G.m + 1) _ = _
  rw [sumE]
  congr 1
  · refine sumE_cong fun e he => ?_
    show (if (if e = G.m then t else G.u e) = x then f e else 0) - (if (if e = G.m then s else G.v e) = x then f e else 0) = _
    rw [if_neg (show ¬ e = G.m by omega), if_neg (show ¬ e = G.m by omega)]
  · show (if (if G.m = G.m then t else G.u G.m) = x then f G.m else 0) - (if (if G.m = G.m then s else G.v G.m) = x then f G.m else 0) = _
    rw [if_pos rfl, if_pos rfl]
theorem beyond_add (s t : Nat) (a p : Int) (S : Nat) : beyondF s t (a + p) S = beyondF s t a S + beyondF s t p S := by
  unfold beyondF
  split
  · rfl
  · split <;> omega
theorem btw_not {s t S : Nat} (h : btw s t S = true) : btw t s S = false := by
  unfold btw at *
  cases a1 : S.testBit s <;> cases a2 : S.testBit t <;> rw [a1, a2] at h <;> first | rfl | cases h
/-- the class's least number is the reference's -/
theorem least_bk {G : Gr} {lo hi : Nat → Int} {s t e : Nat} {a0 p : Int} (hs : s < G.n) (ht : t < G.n) (hst : s ≠ t) (he : e < G.m) (h1 : lo G.m = a0) (h2 : hi G.m = a0) : leastC (bk G s t) lo hi (isB s t p) e = leastF G lo hi s t (a0 + p) e := mx_cong rfl (fun S _ => bk_ens he) (fun S _ _ => by
  rw [bk_out, bk_in, h1, h2, beyond_add, show (bk G s t).n = G.n from rfl, bS_flow hs ht hst]
  unfold beyondF
  by_cases b1 : btw t s S = true
  · rw [btw_not b1]; simp [b1]; omega
  · by_cases b2 : btw s t S = true
    · simp [b1, b2]; omega
    · simp [b1, b2])
/-- a flow whose amount is a cut's -/
theorem amount_eq {G : Gr} {lo hi f : Nat → Int} {s t : Nat} {a : Int} (hG : GrIn G) (hs : s < G.n) (ht : t < G.n) (hst : s ≠ t) (hf : FS G lo hi (isB s t a) f) (hN : ∀ S, S < 2 ^ G.n → cutV G lo hi S ≠ NONE9) {T : Nat → Bool} (t1 : T s = true) (t2 : T t = false) (t3 : ∀ k, k < G.m → (T (G.u k) = true → T (G.v k) = false → f k = hi k) ∧ (T (G.u k) = false → T (G.v k) = true → f k = lo k)) : amountF G lo hi s t = a := by
  have hcut : ∀ S, sOut G f S - sIn G f S = -beyondF s t a S := fun S => by rw [hf.cut hG, bS_flow hs ht hst]
  have hle : ∀ S, sOut G lo S ≤ sOut G f S ∧ sOut G f S ≤ sOut G hi S ∧ sIn G lo S ≤ sIn G f S ∧ sIn G f S ≤ sIn G hi S := fun S => ⟨sOut_le S fun e he => (hf.1 e he).1, sOut_le S fun e he => (hf.1 e he).2, sIn_le S fun e he => (hf.1 e he).1, sIn_le S fun e he => (hf.1 e he).2⟩
  unfold amountF
  rw [ff_none (fun S hS => ?_), if_neg (by decide)]
  · have hu : ∀ k, k < G.m → (mask T G.n).testBit (G.u k) = T (G.u k) := fun k hk => mask_bit T _ _ (hG k hk).1
    have hv : ∀ k, k < G.m → (mask T G.n).testBit (G.v k) = T (G.v k) := fun k hk => mask_bit T _ _ (hG k hk).2
    have hb0 : btw s t (mask T G.n) = true := by unfold btw; rw [mask_bit T _ _ hs, mask_bit T _ _ ht, t1, t2]; rfl
    have hbe : ∀ S, btw s t S = true → beyondF s t a S = -a := fun S h => by unfold beyondF; rw [btw_not h, h]; simp
    have hv0 : cutV G lo hi (mask T G.n) = a := by
      have e1 : sOut G f (mask T G.n) = sOut G hi (mask T G.n) := sumE_cong fun k hk => by
        unfold lvs
        rw [hu k hk, hv k hk]
        cases a1 : T (G.u k) <;> cases a2 : T (G.v k) <;> simp
        exact (t3 k hk).1 a1 a2
      have e2 : sIn G f (mask T G.n) = sIn G lo (mask T G.n) := sumE_cong fun k hk => by
        unfold ens
        rw [hu k hk, hv k hk]
        cases a1 : T (G.u k) <;> cases a2 : T (G.v k) <;> simp
        exact (t3 k hk).2 a1 a2
      have := hcut (mask T G.n)
      rw [hbe _ hb0] at this
      unfold cutV
      omega
    rcases mn_spec (none := NONE9) (p := btw s t) (f := cutV G lo hi) (n := 2 ^ G.n) hN with ⟨-, h2⟩ | ⟨-, ⟨S, h2, h3, h4⟩, h5⟩
    · rw [h2 _ (mask_lt T G.n)] at hb0; cases hb0
    · have h6 := h5 _ (mask_lt T G.n) hb0
      have h7 := hcut S
      rw [hbe S h3] at h7
      have h8 := hle S
      rw [h4] at h6 ⊢
      unfold cutV at *
      omega
  · unfold crowdP
    by_cases hb : (S.testBit s == S.testBit t) = true
    · have h1 := hcut S
      have h2 := hle S
      have h0 : beyondF s t a S = 0 := by
        unfold beyondF btw
        cases a1 : S.testBit s <;> cases a2 : S.testBit t <;> rw [a1, a2] at hb <;> first | (simp; done) | (cases hb)
      rw [hb, Bool.true_and]
      exact decide_eq_false (by omega)
    · simp [hb]
theorem amount_none {G : Gr} {lo hi : Nat → Int} {s t S : Nat} (hS : S < 2 ^ G.n) (h : crowdP G lo hi s t S = true) : amountF G lo hi s t = NONE9 := by
  unfold amountF
  rcases ff_cases (crowdP G lo hi s t) (2 ^ G.n) with ⟨h1, h2⟩ | ⟨S9, h1, h2, h3, h4⟩
  · rw [h2 S hS] at h; cases h
  · rw [h2, if_pos (by omega)]
