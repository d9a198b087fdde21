/-! demands: a hub brings and takes -/
def huG (G : Gr) (su : Nat → Int) : Nat → Gr
  | 0 => (G.n + 1, G.m, G.u, G.v)
  | x + 1 => if 0 < su x then bk (huG G su x) x G.n else if su x < 0 then bk (huG G su x) G.n x else huG G su x
def huB (G : Gr) (su lo : Nat → Int) : Nat → Nat → Int
  | 0 => lo
  | x + 1 => if 0 < su x then upL (huB G su lo x) (huG G su x).m (su x) else if su x < 0 then upL (huB G su lo x) (huG G su x).m (-su x) else huB G su lo x
section HUB
variable {G : Gr} {su lo hi f : Nat → Int}
theorem hu_n (x : Nat) : (huG G su x).n = G.n + 1 ∧ G.m ≤ (huG G su x).m ∧ (huG G su x).m ≤ G.m + x := by
  induction x with
  | zero => exact ⟨rfl, Nat.le_refl _, Nat.le_refl _⟩
  | succ x ih =>
    rw [huG]
    split
    · refine ⟨ih.1, ?_, ?_⟩
      · show G.m ≤ (huG G su x).m + 1; omega
      · show (huG G su x).m + 1 ≤ G.m + (x + 1); omega
    · split
      · refine ⟨ih.1, ?_, ?_⟩
        · show G.m ≤ (huG G su x).m + 1; omega
        · show (huG G su x).m + 1 ≤ G.m + (x + 1); omega
      · exact ⟨ih.1, ih.2.1, by omega⟩
theorem bk_ing {H : Gr} (hH : GrIn H) {s t : Nat} (hs : s < H.n) (ht : t < H.n) : GrIn (bk H s t) := bk_in9 hH hs ht
theorem hu_in (hG : GrOK G) {x : Nat} (hx : x ≤ G.n) : GrIn (huG G su x) ∧ ∀ e, e < (huG G su x).m → (huG G su x).u e ≠ (huG G su x).v e := by
  induction x with
  | zero => exact ⟨fun e he => by
      have := hG.2.2.2 e he
      show G.u e < G.n + 1 ∧ G.v e < G.n + 1
      omega, fun e he => (hG.2.2.2 e he).2.2⟩
  | succ x ih =>
    obtain ⟨i1, i2⟩ := ih (by omega)
    have hn := (hu_n (G := G) (su := su) x).1
    rw [huG]
    have step : ∀ s t : Nat, s ≠ t → s < G.n + 1 → t < G.n + 1 → GrIn (bk (huG G su x) s t) ∧ ∀ e, e < (bk (huG G su x) s t).m → (bk (huG G su x) s t).u e ≠ (bk (huG G su x) s t).v e := fun s t hst hs ht => by
      refine ⟨bk_ing i1 (by rw [hn]; exact hs) (by rw [hn]; exact ht), fun e he => ?_⟩
      show (if e = (huG G su x).m then t else (huG G su x).u e) ≠ (if e = (huG G su x).m then s else (huG G su x).v e)
      by_cases hem : e = (huG G su x).m
      · rw [if_pos hem, if_pos hem]; exact fun h => hst h.symm
      · rw [if_neg hem, if_neg hem]; exact i2 e (by have : e < (huG G su x).m + 1 := he; omega)
    split
    · exact step x G.n (by omega) (by omega) (by omega)
    · split
      · exact step G.n x (by omega) (by omega) (by omega)
      · exact ⟨i1, i2⟩
theorem huB_lo {e : Nat} (he : e < G.m) (x : Nat) : huB G su lo x e = lo e := by
  induction x with
  | zero => rfl
  | succ x ih =>
    have hm := (hu_n (G := G) (su := su) x).2.1
    rw [huB]
    split
    · rw [upL_n (by omega)]; exact ih
    · split
      · rw [upL_n (by omega)]; exact ih
      · exact ih
theorem huB_eq {e : Nat} (h1 : G.m ≤ e) (x : Nat) (h2 : e < (huG G su x).m) : huB G su lo x e = huB G su hi x e := by
  induction x with
  | zero => exact absurd h2 (Nat.not_lt.mpr h1)
  | succ x ih =>
    rw [huG] at h2
    rw [huB, huB]
    split
    · rename_i c1
      rw [if_pos c1] at h2
      by_cases hem : e = (huG G su x).m
      · rw [hem, upL_s, upL_s]
      · rw [upL_n hem, upL_n hem]; exact ih (by have : e < (huG G su x).m + 1 := h2; omega)
    · rename_i c1
      rw [if_neg c1] at h2
      split
      · rename_i c2
        rw [if_pos c2] at h2
        by_cases hem : e = (huG G su x).m
        · rw [hem, upL_s, upL_s]
        · rw [upL_n hem, upL_n hem]; exact ih (by have : e < (huG G su x).m + 1 := h2; omega)
      · rename_i c2
        rw [if_neg c2] at h2
        exact ih h2
theorem huB_bd {n : Nat} (hs : ∀ x, x < n → -99 ≤ su x ∧ su x ≤ 99) {e : Nat} (h1 : G.m ≤ e) (x : Nat) (hx : x ≤ n) (h2 : e < (huG G su x).m) : 0 ≤ huB G su lo x e ∧ huB G su lo x e ≤ 99 := by
  induction x with
  | zero => exact absurd h2 (Nat.not_lt.mpr h1)
  | succ x ih =>
    have hb := hs x (by omega)
    rw [huG] at h2
    rw [huB]
    split
    · rename_i c1
      rw [if_pos c1] at h2
      by_cases hem : e = (huG G su x).m
      · rw [hem, upL_s]; omega
      · rw [upL_n hem]; exact ih (by omega) (by have : e < (huG G su x).m + 1 := h2; omega)
    · rename_i c1
      rw [if_neg c1] at h2
      split
      · rename_i c2
        rw [if_pos c2] at h2
        by_cases hem : e = (huG G su x).m
        · rw [hem, upL_s]; omega
        · rw [upL_n hem]; exact ih (by omega) (by have : e < (huG G su x).m + 1 := h2; omega)
      · rename_i c2
        rw [if_neg c2] at h2
        exact ih (by omega) h2
/-- what goes from corners and from the hub -/
theorem hu_nout (hG : GrIn G) {x : Nat} (hx : x ≤ G.n) (hf : ∀ e, G.m ≤ e → e < (huG G su x).m → f e = huB G su lo x e) : (∀ y, y < G.n → nout (huG G su x) f y = nout G f y - (if y < x then su y else 0)) ∧ nout (huG G su x) f G.n = sumE x su := by
  induction x with
  | zero =>
    refine ⟨fun y hy => ?_, ?_⟩
    · rw [if_neg (by omega), Int.sub_zero]; rfl
    · show sumE G.m (fun e => (if G.u e = G.n then f e else 0) - (if G.v e = G.n then f e else 0)) = 0
      exact sumE_0 fun e he => by
        have := hG e he
        rw [if_neg (by omega), if_neg (by omega)]; rfl
  | succ x ih =>
    have hm := (hu_n (G := G) (su := su) x).2.1
    have hprev : ∀ z : Int, (huB G su lo (x + 1) = upL (huB G su lo x) (huG G su x).m z) → (∀ e, G.m ≤ e → e < (huG G su x).m + 1 → f e = huB G su lo (x + 1) e) → (∀ e, G.m ≤ e → e < (huG G su x).m → f e = huB G su lo x e) ∧ f (huG G su x).m = z := fun z h1 h2 => by
      refine ⟨fun e e1 e2 => ?_, ?_⟩
      · rw [h2 e e1 (by omega), h1, upL_n (by omega)]
      · rw [h2 _ hm (by omega), h1, upL_s]
    rw [huG] at hf ⊢
    rw [sumE]
    by_cases c1 : 0 < su x
    · rw [if_pos c1] at hf ⊢
      obtain ⟨p1, p2⟩ := hprev (su x) (by rw [huB, if_pos c1]) hf
      obtain ⟨i1, i2⟩ := ih (by omega) p1
      refine ⟨fun y hy => ?_, ?_⟩
      · rw [bk_nout, i1 y hy, p2, if_neg (show ¬ G.n = y by omega)]
        by_cases hyx : x = y
        · subst hyx
          rw [if_pos rfl, if_neg (Nat.lt_irrefl _), if_pos (Nat.lt_succ_self _)]; omega
        · rw [if_neg hyx]
          by_cases hlt : y < x
          · rw [if_pos hlt, if_pos (by omega)]; omega
          · rw [if_neg hlt, if_neg (by omega)]; omega
      · rw [bk_nout, i2, p2, if_pos rfl, if_neg (by omega)]; omega
    · rw [if_neg c1] at hf ⊢
      by_cases c2 : su x < 0
      · rw [if_pos c2] at hf ⊢
        obtain ⟨p1, p2⟩ := hprev (-su x) (by rw [huB, if_neg c1, if_pos c2]) hf
        obtain ⟨i1, i2⟩ := ih (by omega) p1
        refine ⟨fun y hy => ?_, ?_⟩
        · rw [bk_nout, i1 y hy, p2, if_neg (show ¬ G.n = y by omega)]
          by_cases hyx : x = y
          · subst hyx
            rw [if_pos rfl, if_neg (Nat.lt_irrefl _), if_pos (Nat.lt_succ_self _)]; omega
          · rw [if_neg hyx]
            by_cases hlt : y < x
            · rw [if_pos hlt, if_pos (by omega)]; omega
            · rw [if_neg hlt, if_neg (by omega)]; omega
        · rw [bk_nout, i2, p2, if_pos rfl, if_neg (by omega)]; omega
      · rw [if_neg c2] at hf ⊢
        have h0 : su x = 0 := by omega
        have hB : huB G su lo (x + 1) = huB G su lo x := by rw [huB, if_neg c1, if_neg c2]
        rw [hB] at hf
        obtain ⟨i1, i2⟩ := ih (by omega) hf
        refine ⟨fun y hy => ?_, by rw [i2, h0]; omega⟩
        rw [i1 y hy]
        by_cases hyx : y = x
        · rw [hyx, if_neg (Nat.lt_irrefl _), if_pos (Nat.lt_succ_self _), h0]
        · by_cases hlt : y < x
          · rw [if_pos hlt, if_pos (by omega)]
          · rw [if_neg hlt, if_neg (by omega)]
/-- flows with the hub and flows that meet demands -/
def HubB (G : Gr) (su lo hi LO HI : Nat → Int) : Prop := (∀ e, e < G.m → LO e = lo e ∧ HI e = hi e) ∧ ∀ e, G.m ≤ e → e < (huG G su G.n).m → LO e = huB G su lo G.n e ∧ HI e = huB G su lo G.n e
theorem hub_to {LO HI : Nat → Int} (hG : GrIn G) (hB : HubB G su lo hi LO HI) (h : FS (huG G su G.n) LO HI (fun _ => 0) f) : FS G lo hi su f := by
  have hm := (hu_n (G := G) (su := su) G.n).2.1
  have hn := (hu_n (G := G) (su := su) G.n).1
  have hf : ∀ e, G.m ≤ e → e < (huG G su G.n).m → f e = huB G su lo G.n e := fun e e1 e2 => by
    have h1 := h.1 e e2
    rw [(hB.2 e e1 e2).1, (hB.2 e e1 e2).2] at h1
    omega
  refine ⟨fun e he => ?_, fun y hy => ?_⟩
  · have h1 := h.1 e (by omega)
    rw [(hB.1 e he).1, (hB.1 e he).2] at h1
    exact h1
  · have h1 := (hu_nout (lo := lo) hG (Nat.le_refl _) hf).1 y hy
    have h2 : nout (huG G su G.n) f y = 0 := h.2 y (by rw [hn]; omega)
    rw [h2, if_pos hy] at h1
    omega
theorem nout_all (hG : GrIn G) (f : Nat → Int) : sumE G.n (fun x => nout G f x) = 0 := by
  have h := pairing hG f (fun _ => 1)
  rw [show sumE G.m (fun e => f e * ((fun _ => (1 : Int)) (G.u e) - (fun _ => (1 : Int)) (G.v e))) = 0 from sumE_0 fun e he => by show f e * (1 - 1) = 0; omega] at h
  rw [← h]
  exact sumE_cong fun x hx => by show nout G f x = 1 * nout G f x; omega
theorem hub_from {LO HI : Nat → Int} (hG : GrIn G) (hB : HubB G su lo hi LO HI) (h : FS G lo hi su f) : ∃ g, FS (huG G su G.n) LO HI (fun _ => 0) g ∧ ∀ e, e < G.m → g e = f e := by
  have hm := (hu_n (G := G) (su := su) G.n).2.1
  have hn := (hu_n (G := G) (su := su) G.n).1
  refine ⟨fun e => if e < G.m then f e else huB G su lo G.n e, ⟨fun e he => ?_, fun y hy => ?_⟩, fun e he => if_pos he⟩
  · by_cases hem : e < G.m
    · show LO e ≤ (if e < G.m then f e else huB G su lo G.n e) ∧ (if e < G.m then f e else huB G su lo G.n e) ≤ HI e
      rw [if_pos hem, (hB.1 e hem).1, (hB.1 e hem).2]; exact h.1 e hem
    · show LO e ≤ (if e < G.m then f e else huB G su lo G.n e) ∧ (if e < G.m then f e else huB G su lo G.n e) ≤ HI e
      rw [if_neg hem, (hB.2 e (by omega) he).1, (hB.2 e (by omega) he).2]; omega
  · have h1 := hu_nout (G := G) (su := su) (lo := lo) (f := fun e => if e < G.m then f e else huB G su lo G.n e) hG (Nat.le_refl _) (fun e e1 _ => if_neg (by omega))
    have h2 : ∀ z, nout G (fun e => if e < G.m then f e else huB G su lo G.n e) z = nout G f z := fun z => sumE_cong fun e he => by
      show (if G.u e = z then (if e < G.m then f e else huB G su lo G.n e) else 0) - (if G.v e = z then (if e < G.m then f e else huB G su lo G.n e) else 0) = _
      rw [if_pos he]
    by_cases hyn : y < G.n
    · show nout _ _ y = 0
      rw [h1.1 y hyn, h2, h.2 y hyn, if_pos hyn]; omega
    · have hy9 : y = G.n := by rw [hn] at hy; omega
      rw [hy9, h1.2]
      have h3 := nout_all hG f
      rw [← h3]
      exact sumE_cong fun x hx => (h.2 x hx).symm
theorem hub_least {LO HI : Nat → Int} (hG : GrOK G) (hB : HubB G su lo hi LO HI) (hex : ∃ g, FS G lo hi su g) {e : Nat} (he : e < G.m) : leastC (huG G su G.n) LO HI (fun _ => 0) e = leastC G lo hi su e := by
  have hm := (hu_n (G := G) (su := su) G.n).2.1
  obtain ⟨g, hg⟩ := hex
  obtain ⟨g9, hg9, -⟩ := hub_from hG.in hB hg
  have hH := (hu_in (su := su) hG (Nat.le_refl _)).1
  refine Int.le_antisymm ?_ ?_
  · obtain ⟨k, k1, k2⟩ := FS.least hG.in he (Int.toNat (g e - lo e)) g hg (by omega)
    obtain ⟨k9, k3, k4⟩ := hub_from hG.in hB k1
    rw [← k2, ← k4 e he]
    exact leastC_le hH k3 (by omega)
  · obtain ⟨k, k1, k2⟩ := FS.least hH (show e < (huG G su G.n).m by omega) (Int.toNat (g9 e - LO e)) g9 hg9 (by omega)
    rw [← k2]
    exact leastC_le hG.in (hub_to hG.in hB k1) he
theorem hub_row {LO HI : Nat → Int} (hG : GrOK G) (hB : HubB G su lo hi LO HI) (hex : ∃ g, FS G lo hi su g) {k : Nat} (hk : k ≤ G.m) : HubB G su (lxC G lo hi su k).1 (lxC G lo hi su k).2 (lxC (huG G su G.n) LO HI (fun _ => 0) k).1 (lxC (huG G su G.n) LO HI (fun _ => 0) k).2 := by
  have hlo : ∀ (l l9 : Nat → Int) x e, G.m ≤ e → e < (huG G su x).m → huB G su l x e = huB G su l9 x e := fun l l9 x e e1 e2 => huB_eq e1 x e2
  induction k with
  | zero => exact hB
  | succ k ih =>
    have ih := ih (by omega)
    obtain ⟨g, hg⟩ := hex
    obtain ⟨h1, g9, hg9⟩ := lxC_ok hG.in hg (show k ≤ G.m by omega)
    have hl := hub_least hG ih ⟨g9, hg9⟩ (show k < G.m by omega)
    rw [lxC, lxC]
    dsimp only
    rw [hl]
    refine ⟨fun e he => ?_, fun e e1 e2 => ?_⟩
    · by_cases hek : e = k
      · rw [hek, upL_s, upL_s, upL_s, upL_s]; exact ⟨rfl, rfl⟩
      · rw [upL_n hek, upL_n hek, upL_n hek, upL_n hek]; exact ih.1 e he
    · rw [upL_n (by omega), upL_n (by omega), hlo _ (lxC G lo hi su k).1 G.n e e1 e2]; exact ih.2 e e1 e2
/-! what breaks demands -/
def brkP (G : Gr) (lo hi su : Nat → Int) (S : Nat) : Bool := decide (sOut G hi S - sIn G lo S < bS G.n su S) || decide (bS G.n su S < sOut G lo S - sIn G hi S)
theorem bS_0 (n : Nat) (b : Nat → Int) : bS n b 0 = 0 := sumE_0 fun x hx => by unfold ind; rw [Nat.zero_testBit]; show (0 : Int) * b x = 0; omega
theorem sIn_0 (G : Gr) (b : Nat → Int) : sIn G b 0 = 0 := sumE_0 fun e he => by unfold ens; rw [Nat.zero_testBit, Nat.zero_testBit]; rfl
theorem brk_0 : brkP G lo hi su 0 = false := by
  unfold brkP
  rw [sOut_0, sOut_0, sIn_0, sIn_0, bS_0]
  rfl
theorem brk_none (hG : GrIn G) (h : FS G lo hi su f) (S : Nat) : brkP G lo hi su S = false := by
  have h1 := h.cut hG S
  have h2 := sOut_le (G := G) S (fun e he => (h.1 e he).1)
  have h3 := sOut_le (G := G) S (fun e he => (h.1 e he).2)
  have h4 := sIn_le (G := G) S (fun e he => (h.1 e he).1)
  have h5 := sIn_le (G := G) S (fun e he => (h.1 e he).2)
  unfold brkP
  rw [decide_eq_false (by omega), decide_eq_false (by omega)]; rfl
theorem hu_diff (S : Nat) (x : Nat) (hx : x ≤ G.n) : sOut (huG G su x) (huB G su lo x) S - sIn (huG G su x) (huB G su hi x) S = sOut G lo S - sIn G hi S + sumE x (fun y => su y * (ind S G.n - ind S y)) := by
  induction x with
  | zero => show _ = _ + (0 : Int); rw [Int.add_zero]; rfl
  | succ x ih =>
    have ih := ih (by omega)
    have up : ∀ (l : Nat → Int) z, sOut (huG G su x) (upL l (huG G su x).m z) S = sOut (huG G su x) l S ∧ sIn (huG G su x) (upL l (huG G su x).m z) S = sIn (huG G su x) l S := fun l z => ⟨sOut_cong (fun e he => upL_n (by omega)) S, sIn_cong (fun e he => upL_n (by omega)) S⟩
    rw [huG, huB, huB, sumE]
    by_cases c1 : 0 < su x
    · rw [if_pos c1, if_pos c1, if_pos c1, bk_out, bk_in, (up _ _).1, (up _ _).2, upL_s, upL_s]
      have e1 : (if btw G.n x S then su x else 0) - (if btw x G.n S then su x else 0) = su x * (ind S G.n - ind S x) := by
        unfold btw ind
        cases S.testBit G.n <;> cases S.testBit x <;> simp
      omega
    · rw [if_neg c1, if_neg c1, if_neg c1]
      by_cases c2 : su x < 0
      · rw [if_pos c2, if_pos c2, if_pos c2, bk_out, bk_in, (up _ _).1, (up _ _).2, upL_s, upL_s]
        have e1 : (if btw x G.n S then -su x else 0) - (if btw G.n x S then -su x else 0) = su x * (ind S G.n - ind S x) := by
          unfold btw ind
          cases S.testBit G.n <;> cases S.testBit x <;> simp
        omega
      · rw [if_neg c2, if_neg c2, if_neg c2, ih, show su x = 0 by omega]
        omega
theorem brk_of (hG : GrOK G) {S : Nat} (hS : S < 2 ^ (G.n + 1)) (h : sIn (huG G su G.n) (huB G su hi G.n) S < sOut (huG G su G.n) (huB G su lo G.n) S) : ∃ C, C < 2 ^ G.n ∧ brkP G lo hi su C = true := by
  have hd := hu_diff (G := G) (su := su) (lo := lo) (hi := hi) S G.n (Nat.le_refl _)
  cases hb : S.testBit G.n
  · refine ⟨S, ?_, ?_⟩
    · refine Classical.byContradiction fun hge => ?_
      have := Nat.testBit_lt_two_pow (x := S - 2 ^ G.n) (i := G.n) (by rw [Nat.pow_succ] at hS; omega)
      have h2 := tb_add (j := S - 2 ^ G.n) (k := G.n) (i := G.n) (by rw [Nat.pow_succ] at hS; omega)
      rw [show S - 2 ^ G.n + 2 ^ G.n = S by omega, if_pos rfl, hb] at h2
      cases h2
    · have e1 : sumE G.n (fun y => su y * (ind S G.n - ind S y)) = -bS G.n su S := by
        unfold bS
        have := sumE_mul G.n (-1) (fun x => ind S x * su x)
        rw [show (-1 : Int) * sumE G.n (fun x => ind S x * su x) = -sumE G.n (fun x => ind S x * su x) by omega] at this
        rw [← this]
        refine sumE_cong fun y hy => ?_
        show su y * (ind S G.n - ind S y) = -1 * (ind S y * su y)
        unfold ind
        rw [hb]
        cases S.testBit y <;> simp
      rw [e1] at hd
      unfold brkP
      rw [decide_eq_true (show bS G.n su S < sOut G lo S - sIn G hi S by omega), Bool.or_true]
  · have hc : ∀ x, x < G.n → (mask (fun x => !S.testBit x) G.n).testBit x = !S.testBit x := fun x hx => mask_bit _ _ _ hx
    refine ⟨mask (fun x => !S.testBit x) G.n, mask_lt _ _, ?_⟩
    generalize mask (fun x => !S.testBit x) G.n = C at hc
    have e1 : sumE G.n (fun y => su y * (ind S G.n - ind S y)) = bS G.n su C := sumE_cong fun y hy => by
      show su y * (ind S G.n - ind S y) = ind C y * su y
      unfold ind
      rw [hb, hc y hy]
      cases S.testBit y <;> simp
    have e2 : ∀ l : Nat → Int, sOut G l S = sIn G l C ∧ sIn G l S = sOut G l C := fun l => by
      refine ⟨sumE_cong fun e he => ?_, sumE_cong fun e he => ?_⟩
      · obtain ⟨g1, g2, -⟩ := hG.2.2.2 e he
        unfold lvs ens
        rw [hc _ g1, hc _ g2, Bool.not_not]
      · obtain ⟨g1, g2, -⟩ := hG.2.2.2 e he
        unfold lvs ens
        rw [hc _ g1, hc _ g2, Bool.not_not]
    rw [e1, (e2 lo).1, (e2 hi).2] at hd
    unfold brkP
    rw [decide_eq_true (show sOut G hi C - sIn G lo C < bS G.n su C by omega), Bool.true_or]
end HUB
def brkF (G : Gr) (lo hi su : Nat → Int) : Int := ff (brkP G lo hi su) (2 ^ G.n)
theorem brkF_ne0 (G : Gr) (lo hi su : Nat → Int) : brkF G lo hi su ≠ 0 := by
  unfold brkF
  rcases ff_cases (brkP G lo hi su) (2 ^ G.n) with ⟨h, -⟩ | ⟨S, h1, h2, h3, -⟩
  · rw [h]; decide
  · rw [h2]
    intro h0
    have : S = 0 := by omega
    rw [this, brk_0] at h3; cases h3
theorem brkF_bd {G : Gr} (hn : G.n ≤ 8) (lo hi su : Nat → Int) : -1 ≤ brkF G lo hi su ∧ brkF G lo hi su ≤ 256 := by
  have g2 := pow2_le8 hn
  unfold brkF
  rcases ff_cases (brkP G lo hi su) (2 ^ G.n) with ⟨h, -⟩ | ⟨S, h1, h2, h3, -⟩
  · rw [h]; omega
  · rw [h2]; omega
theorem brkP_cong {G : Gr} {lo hi su lo9 hi9 su9 : Nat → Int} (h1 : ∀ e, e < G.m → lo e = lo9 e) (h2 : ∀ e, e < G.m → hi e = hi9 e) (h3 : ∀ x, x < G.n → su x = su9 x) : brkP G lo hi su = brkP G lo9 hi9 su9 := by
  funext S
  have hb : bS G.n su S = bS G.n su9 S := sumE_cong fun x hx => by rw [h3 x hx]
  unfold brkP
  rw [sOut_cong h1, sOut_cong h2, sIn_cong h1, sIn_cong h2, hb]
/-! answers -/
def holdsG (G : Gr) (lo hi su : Nat → Int) : Bool := decide (brkF G lo hi su = -1)
def holdsA (T : NT) (a : Int) : Bool × Int := wE false (wrong1 T a) (holdsG (T.G (Int.toNat a)) (T.lo (Int.toNat a)) (T.hi (Int.toNat a)) (T.su (Int.toNat a)), 0)
def breaksG (G : Gr) (lo hi su : Nat → Int) : Int × Int := if brkF G lo hi su = -1 then (0, 2) else (brkF G lo hi su, 0)
def breaksA (T : NT) (a : Int) : Int × Int := wE 0 (wrong1 T a) (breaksG (T.G (Int.toNat a)) (T.lo (Int.toNat a)) (T.hi (Int.toNat a)) (T.su (Int.toNat a)))
def meetsG (G : Gr) (lo hi su : Nat → Int) (e : Nat) : Int × Int := if brkF G lo hi su = -1 then ((lxC G lo hi su (e + 1)).1 e, 0) else (0, 2)
def meetsA (T : NT) (a e : Int) : Int × Int := wE 0 (wrong1E T a e) (meetsG (T.G (Int.toNat a)) (T.lo (Int.toNat a)) (T.hi (Int.toNat a)) (T.su (Int.toNat a)) (Int.toNat e))
