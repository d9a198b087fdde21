/-! likes, pairs, cover, crowdOfLeft -/
def likesA (lk : Nat → Nat) (a S : Int) : (Int × Int) × (Nat → Nat) := if 0 ≤ a ∧ a < 8 then (if 0 ≤ S ∧ S ≤ 255 then ((((lk (Int.toNat a) : Nat) : Int), 0), upN lk (Int.toNat a) (Int.toNat S)) else ((0, 2), lk)) else ((0, 1), lk)
theorem likesA_ok {lk : Nat → Nat} (h : LKok lk) (a S : Int) : LKok (likesA lk a S).2 := by
  unfold likesA
  split
  · split
    · intro k hk
      show upN lk (Int.toNat a) (Int.toNat S) k ≤ 255
      by_cases hka : k = Int.toNat a
      · rw [hka, upN_s]; omega
      · rw [upN_n hka]; exact h k hk
    · exact h
  · exact h
def coverG (lk : Nat → Nat) (S : Nat) : Int := (pc8 S : Int) + (pc8 (tog lk (nd 255 S)) : Int)
/-- the first least of g below n, as the class looks: (found, fewest) -/
def fmS (z : Int) (g : Nat → Int) : Nat → Nat × Int
  | 0 => (0, z)
  | n + 1 => if g n < (fmS z g n).2 then (n, g n) else fmS z g n
theorem fmS_spec (z : Int) (g : Nat → Int) (n : Nat) : ((fmS z g n = (0, z) ∧ ∀ S, S < n → z ≤ g S) ∨ ((fmS z g n).1 < n ∧ (fmS z g n).2 = g (fmS z g n).1 ∧ (fmS z g n).2 < z ∧ (∀ S, S < n → (fmS z g n).2 ≤ g S) ∧ ∀ S, S < (fmS z g n).1 → (fmS z g n).2 < g S)) := by
  induction n with
  | zero => exact Or.inl ⟨rfl, fun S hS => by omega⟩
  | succ n ih =>
    rw [fmS]
    by_cases h : g n < (fmS z g n).2
    · rw [if_pos h]
      right
      rcases ih with ⟨h1, h2⟩ | ⟨h1, h2, h3, h4, h5⟩
      · rw [h1] at h
        dsimp only at h ⊢
        refine ⟨by omega, rfl, h, fun S hS => ?_, fun S hS => ?_⟩
        · by_cases hSn : S = n
          · rw [hSn]; exact Int.le_refl _
          · have := h2 S (by omega); omega
        · have := h2 S hS; omega
      · dsimp only
        refine ⟨by omega, rfl, by omega, fun S hS => ?_, fun S hS => ?_⟩
        · by_cases hSn : S = n
          · rw [hSn]; exact Int.le_refl _
          · have := h4 S (by omega); omega
        · have := h4 S hS; omega
    · rw [if_neg h]
      rcases ih with ⟨h1, h2⟩ | ⟨h1, h2, h3, h4, h5⟩
      · left
        refine ⟨h1, fun S hS => ?_⟩
        rw [h1] at h
        by_cases hSn : S = n
        · rw [hSn]; dsimp only at h; omega
        · exact h2 S (by omega)
      · right
        refine ⟨by omega, h2, h3, fun S hS => ?_, h5⟩
        by_cases hSn : S = n
        · rw [hSn]; omega
        · exact h4 S (by omega)
theorem nd_255 : ∀ S : Fin 256, nd 255 S.val < 256 ∧ nd 255 (nd 255 S.val) = S.val ∧ pc8 S.val + pc8 (nd 255 S.val) = 8 ∧ nd S.val 255 = 0 := by decide +kernel
theorem cover_eq (lk : Nat → Nat) {S : Nat} (hS : S < 256) : coverG lk S = 8 - ((pc8 (nd 255 S) : Int) - (pc8 (tog lk (nd 255 S)) : Int)) := by
  have := (nd_255 ⟨S, hS⟩).2.2.1
  dsimp only at this
  unfold coverG
  omega
theorem tog_and {lk : Nat → Nat} (h : LKok lk) (S : Nat) : tog lk S &&& 255 = tog lk S := Nat.and_two_pow_sub_one_of_lt_two_pow (n := 8) (by have := tog_lt h S; omega)
theorem pc8_255 : pc8 255 = 8 := by decide +kernel
theorem pc8_0 : pc8 0 = 0 := by decide +kernel
theorem prs_255 {lk : Nat → Nat} (h : LKok lk) : prs lk 255 255 = 8 - mx 0 (fun _ => true) (fun S => (pc8 S : Int) - (pc8 (tog lk S) : Int)) 256 := by
  unfold prs sur
  rw [pc8_255, show (255 + 1 : Nat) = 256 from rfl]
  have hf : fsur lk 255 = fun S => (pc8 S : Int) - (pc8 (tog lk S) : Int) := by funext S; unfold fsur; rw [tog_and h]
  rw [hf, mx_cong (n := 256) rfl (q := fun _ => true) (fun S hS => decide_eq_true (nd_255 ⟨S, hS⟩).2.2.2) (fun _ _ _ => rfl)]
  rfl
theorem tog_0 (lk : Nat → Nat) : tog lk 0 = 0 := by
  have : ∀ k, likedN lk 0 k = 0 := fun k => by
    induction k with
    | zero => rfl
    | succ k ih => rw [likedN, Nat.zero_testBit]; exact ih
  exact this 8
/-- the least number of a cover is that of the pairs -/
theorem cover_least {lk : Nat → Nat} (h : LKok lk) : (∀ S, S < 256 → prs lk 255 255 ≤ coverG lk S) ∧ ∃ S, S < 256 ∧ coverG lk S = prs lk 255 255 := by
  have hx := mx_spec 0 (fun _ => true) (fun S => (pc8 S : Int) - (pc8 (tog lk S) : Int)) 256
  have hp := prs_255 h
  generalize mx 0 (fun _ => true) (fun S => (pc8 S : Int) - (pc8 (tog lk S) : Int)) 256 = M at hx hp
  rw [hp]
  refine ⟨fun S hS => ?_, ?_⟩
  · have a1 := (nd_255 ⟨S, hS⟩).1
    dsimp only at a1
    have := hx.2.1 (nd 255 S) a1 rfl
    rw [cover_eq lk hS]
    omega
  · rcases hx.2.2 with h1 | ⟨S, h1, h2, h3⟩
    · refine ⟨255, by decide, ?_⟩
      rw [cover_eq lk (by decide), h1, show nd 255 255 = 0 by decide +kernel, tog_0, pc8_0]
      decide
    · obtain ⟨a1, a2, a3, a4⟩ := nd_255 ⟨S, h1⟩
      dsimp only at a1 a2 a3 a4 h3
      refine ⟨nd 255 S, a1, ?_⟩
      rw [cover_eq lk a1, a2, h3]
def coverS (lk : Nat → Nat) : Nat := (fmS 17 (coverG lk) 256).1
theorem coverS_spec {lk : Nat → Nat} (h : LKok lk) : coverS lk < 256 ∧ coverG lk (coverS lk) = prs lk 255 255 ∧ ∀ S, S < coverS lk → coverG lk S ≠ prs lk 255 255 := by
  obtain ⟨c1, S, c2, c3⟩ := cover_least h
  have hb := prs_bd lk 255 255
  unfold coverS
  rcases fmS_spec 17 (coverG lk) 256 with ⟨h1, h2⟩ | ⟨h1, h2, h3, h4, h5⟩
  · have := h2 S c2; omega
  · have e1 := h4 S c2
    have e2 := c1 _ h1
    refine ⟨h1, by omega, fun T hT => ?_⟩
    have := h5 T hT
    omega
def coverA (lk : Nat → Nat) (l : Bool) : Int := if l then (coverS lk : Int) else (tog lk (nd 255 (coverS lk)) : Int)
/-- the greatest crowds, as the class keeps what they have in common: (found, greatest) -/
def glS (f : Nat → Int) : Nat → Nat × Int
  | 0 => (0, 0)
  | n + 1 => if (glS f n).2 < f n then (n, f n) else if f n = (glS f n).2 then ((glS f n).1 &&& n, (glS f n).2) else glS f n
theorem glS_spec {f : Nat → Int} {n : Nat} (hn : n ≤ 256) : (glS f n).2 = mx 0 (fun _ => true) f n ∧ ((0 < (glS f n).2 ∧ (glS f n).1 = andF (fun S => decide (f S = (glS f n).2)) n ∧ ∃ S, S < n ∧ f S = (glS f n).2) ∨ ((glS f n).2 = 0 ∧ (glS f n).1 = 0)) := by
  induction n with
  | zero => exact ⟨rfl, Or.inr ⟨rfl, rfl⟩⟩
  | succ n ih =>
    obtain ⟨h0, h1⟩ := ih (by omega)
    have hx := mx_spec 0 (fun _ => true) f n
    rw [glS, mx, if_pos rfl, ← h0]
    by_cases h : (glS f n).2 < f n
    · rw [if_pos h]
      refine ⟨by dsimp only; omega, Or.inl ⟨?_, ?_, n, by omega, rfl⟩⟩
      · dsimp only
        have := hx.1
        omega
      · dsimp only
        rw [andF, if_pos (decide_eq_true rfl), andF_none, and_255 (by omega)]
        intro S hS
        have := hx.2.1 S hS rfl
        exact decide_eq_false (by omega)
    · rw [if_neg h]
      by_cases h2 : f n = (glS f n).2
      · rw [if_pos h2]
        refine ⟨by dsimp only; omega, ?_⟩
        rcases h1 with ⟨a1, a2, S, a3, a4⟩ | ⟨a1, a2⟩
        · left
          refine ⟨a1, ?_, S, by omega, a4⟩
          dsimp only
          rw [andF, if_pos (decide_eq_true h2), ← a2]
        · right
          refine ⟨a1, ?_⟩
          dsimp only
          rw [a2, Nat.zero_and]
      · rw [if_neg h2]
        refine ⟨by omega, ?_⟩
        rcases h1 with ⟨a1, a2, S, a3, a4⟩ | ⟨a1, a2⟩
        · left
          refine ⟨a1, ?_, S, by omega, a4⟩
          rw [andF, if_neg (by simp; exact h2), ← a2]
        · exact Or.inr ⟨a1, a2⟩
def fcr (lk : Nat → Nat) (S : Nat) : Int := (pc8 S : Int) - (pc8 (tog lk S) : Int)
theorem fcr_mod (lk : Nat → Nat) (A B : Nat) : fcr lk A + fcr lk B ≤ fcr lk (A &&& B) + fcr lk (A ||| B) := by
  unfold fcr
  have h1 := bitsN_mod A B 8
  have h2 := bitsN_mod (tog lk A) (tog lk B) 8
  have h3 := bitsN_mono (likedN_and lk A B 8) 8
  have h4 : tog lk (A ||| B) = tog lk A ||| tog lk B := likedN_or lk A B 8
  rw [h4]
  show ((bitsN A 8 : Nat) : Int) - ((bitsN (tog lk A) 8 : Nat) : Int) + (((bitsN B 8 : Nat) : Int) - ((bitsN (tog lk B) 8 : Nat) : Int)) ≤ ((bitsN (A &&& B) 8 : Nat) : Int) - ((bitsN (tog lk (A &&& B)) 8 : Nat) : Int) + (((bitsN (A ||| B) 8 : Nat) : Int) - ((bitsN (tog lk A ||| tog lk B) 8 : Nat) : Int))
  have h5 : bitsN (tog lk (A &&& B)) 8 ≤ bitsN (tog lk A &&& tog lk B) 8 := h3
  omega
/-- what the greatest crowds have in common is one -/
theorem fcr_and (lk : Nat → Nat) {g : Int} (hg : ∀ S, S < 256 → fcr lk S ≤ g) {n : Nat} (hn : n ≤ 256) (h : ∃ S, S < n ∧ fcr lk S = g) : fcr lk (andF (fun S => decide (fcr lk S = g)) n) = g := by
  induction n with
  | zero => obtain ⟨S, hS, -⟩ := h; omega
  | succ n ih =>
    rw [andF]
    by_cases h1 : fcr lk n = g
    · rw [if_pos (decide_eq_true h1)]
      by_cases h2 : ∃ S, S < n ∧ fcr lk S = g
      · have h3 := ih (by omega) h2
        have h4 := fcr_mod lk (andF (fun S => decide (fcr lk S = g)) n) n
        have h5 := andF_le (fun S => decide (fcr lk S = g)) n
        have h6 := hg (andF (fun S => decide (fcr lk S = g)) n &&& n) (Nat.lt_of_le_of_lt Nat.and_le_right (by omega))
        have h7 := hg (andF (fun S => decide (fcr lk S = g)) n ||| n) (Nat.or_lt_two_pow (n := 8) (by omega) (by omega))
        omega
      · rw [andF_none (fun S hS => decide_eq_false fun z => h2 ⟨S, hS, z⟩), and_255 (by omega)]; exact h1
    · rw [if_neg (by simp; exact h1)]
      obtain ⟨S, h2, h3⟩ := h
      refine ih (by omega) ⟨S, ?_, h3⟩
      by_cases hSn : S = n
      · rw [hSn] at h3; exact absurd h3 h1
      · omega
def crowdLA (lk : Nat → Nat) : Int × Int := if prs lk 255 255 = 8 then (0, 1) else ((andF (fun S => decide (fcr lk S = 8 - prs lk 255 255)) 256 : Nat), 0)
theorem crowdL_gl {lk : Nat → Nat} (h : LKok lk) : (glS (fcr lk) 256).2 = 8 - prs lk 255 255 := by
  rw [(glS_spec (f := fcr lk) (Nat.le_refl 256)).1, prs_255 h, show fcr lk = (fun S => (pc8 S : Int) - (pc8 (tog lk S) : Int)) from rfl]
  omega
theorem crowdL_0 {lk : Nat → Nat} (h : LKok lk) : ((glS (fcr lk) 256).1 = 0 ↔ prs lk 255 255 = 8) ∧ (prs lk 255 255 ≠ 8 → (glS (fcr lk) 256).1 = andF (fun S => decide (fcr lk S = 8 - prs lk 255 255)) 256) := by
  have h1 := crowdL_gl h
  have hx := mx_spec 0 (fun _ => true) (fcr lk) 256
  obtain ⟨h0, ⟨a1, a2, S, a3, a4⟩ | ⟨a1, a2⟩⟩ := glS_spec (f := fcr lk) (Nat.le_refl 256)
  · have h2 := fcr_and lk (g := (glS (fcr lk) 256).2) (fun S hS => by rw [h0]; exact hx.2.1 S hS rfl) (Nat.le_refl 256) ⟨S, a3, a4⟩
    rw [← a2] at h2
    have h3 : (glS (fcr lk) 256).1 ≠ 0 := fun z => by
      rw [z] at h2
      have h4 : fcr lk 0 ≤ 0 := by unfold fcr; rw [pc8_0]; omega
      omega
    refine ⟨⟨fun z => absurd z h3, fun z => by omega⟩, fun _ => by rw [a2, h1]⟩
  · exact ⟨⟨fun _ => by omega, fun _ => a2⟩, fun z => by omega⟩
section MPB
variable {X : xX} {c : xCx} {I : xIn} {lk : Nat → Nat}
theorem cn_likes (hX : xBase X) (d : Nat) (hC : CL I lk) {a S : Int} (ha : xin a) (hS : xin S) : xRet rI X m_X9_likes (d + 8) [xr (0, 0), xi a, xi S] c I 2 12 (fun v I9 => kp [(0, 21)] I I9 ∧ CL I9 (likesA lk a S).2 ∧ (v, 0) = (likesA lk a S).1) (fun x I9 => I9 = I ∧ (likesA lk a S).2 = lk ∧ exL [xIOB, xIAE] x (likesA lk a S).1.2) := by
  refine xRet_of hX pl_X9_likes (LE1 rfl) fun V hV => rg_X9_likes_0 hV I _ _ ⟨_, _, cn_needLeft hX d ha, ?_, ?_⟩
  · rintro x J ⟨rfl, rfl, hn⟩
    unfold likesA
    rw [if_neg hn]
    exact ⟨rfl, rfl, 0, rfl, rfl⟩
  · rintro _ J ⟨rfl, hl⟩
    unfold likesA
    rw [if_pos hl]
    refine ⟨hS, fun h => ?_, fun h => ⟨fun h2 => ⟨hl, ?_⟩, fun h2 => ?_⟩⟩
    · rw [if_neg (by omega)]; exact ⟨rfl, rfl, 1, rfl, rfl⟩
    · rw [if_pos ⟨h, h2⟩]
      rintro v hv J2 rfl
      refine ⟨kp.rfl.xu (by simp), fun k hk => ?_, by rw [hv, hC _ (by omega)]⟩
      rw [xuL]
      show upL (J (0, 21)) (Int.toNat a) S k = ((upN lk (Int.toNat a) (Int.toNat S) k : Nat) : Int)
      by_cases hka : k = Int.toNat a
      · rw [hka, upL_s, upN_s]; omega
      · rw [upL_n hka, upN_n hka]; exact hC k hk
    · rw [if_neg (by omega)]; exact ⟨rfl, rfl, 1, rfl, rfl⟩
theorem CL.k9 {J : xIn} {ps : List xP} (h : CL I lk) (hk : kp ps I J) (hp : (0, 21) ∉ ps) : CL J lk := fun k hk8 => by rw [hk _ hp]; exact h k hk8
theorem cn_pairs (hX : xBase X) (d : Nat) (hk : LKok lk) (hC : CL I lk) : xRet rI X m_X9_pairs (d + 2) [xr (0, 0)] c I 0 0 (fun v I9 => keepC I I9 ∧ v = prs lk 255 255) xNo := by
  refine xRet_of hX pl_X9_pairs (LE1 rfl) fun V hV => rg_X9_pairs_0 hV I ⟨_, pa_gather hX (d + 1) hk hC, ?_⟩
  rintro _ J ⟨k1, k2⟩
  refine ⟨_, pa_greatest hX d hk k2 (f := 0) (R := 255) (by decide) (by decide), ?_⟩
  rintro _ J ⟨rfl, rfl⟩
  exact ⟨k1.C (by decide), rfl⟩
theorem pa_likedByOthers (hX : xBase X) (d : Nat) (hT : TG I lk) {S : Nat} (hS : S < 256) : xRet rI X m_X4_likedByOthers d [xr (0, 20), xi (S : Int)] c I 0 0 (pv ((tog lk (nd 255 S) : Nat) : Int) I) xNo := by
  refine xRet_of hX pl_X4_likedByOthers (LE1 rfl) fun V hV => rg_X4_likedByOthers_0 hV I _ ?_
  have h1 := (nd_255 ⟨S, hS⟩).1
  dsimp only at h1
  rw [show (255 : Int) = ((255 : Nat) : Int) from rfl, v_andnot (by decide), tnN]
  exact ⟨⟨by omega, by omega⟩, pvI (hT _ h1)⟩
theorem pa_leftOfCover (hX : xBase X) (d : Nat) (hk : LKok lk) (hT : TG I lk) : xRet rI X m_X4_leftOfCover (d + 1) [xr (0, 20)] c I 0 0 (pv (coverS lk : Int) I) xNo := by
  refine xRet_of hX pl_X4_leftOfCover (LE1 rfl) fun V hV => rg_X4_leftOfCover_0 hV I ?_
  refine up_to0 (m := 256) (W := fun S => V 7 [(0, xr (0, 20)), (1, xi ((fmS 17 (coverG lk) S).1 : Int)), (2, xi (fmS 17 (coverG lk) S).2), (3, xi (S : Int))] [] (I, xst c) 0 0) ?_ ?_
  · exact rg_X4_leftOfCover_7 hV I _ _ _ ⟨⟨by decide, by decide⟩, fun _ => pvI rfl, fun h => absurd h (by decide)⟩
  · intro S hS ih
    rw [fmS] at ih
    have hg : ∀ T, 0 ≤ coverG lk T ∧ coverG lk T ≤ 16 := fun T => by
      have := bitsN_le T 8
      have := bitsN_le (tog lk (nd 255 T)) 8
      unfold coverG pc8
      omega
    have hf : 0 ≤ (fmS 17 (coverG lk) S).2 ∧ (fmS 17 (coverG lk) S).2 ≤ 17 := by
      rcases fmS_spec 17 (coverG lk) S with ⟨h1, -⟩ | ⟨-, h2, h3, -⟩
      · rw [h1]; decide
      · rw [h2] at h3 ⊢; have := hg (fmS 17 (coverG lk) S).1; omega
    have hgS := hg S
    have ht := tog_lt hk (nd 255 S)
    refine rg_X4_leftOfCover_7 hV I _ _ _ ⟨⟨by omega, by omega⟩, fun h => by omega, fun _ => ⟨_, jd_bitCount hX d rfl hS, ?_⟩⟩
    rintro _ _ ⟨rfl, rfl⟩
    refine ⟨_, pa_likedByOthers hX d hT hS, ?_⟩
    rintro _ _ ⟨rfl, rfl⟩
    refine ⟨_, jd_bitCount hX d rfl ht, ?_⟩
    rintro _ _ ⟨rfl, rfl⟩
    change xin (coverG lk S) ∧ _ ∧ ((fmS 17 (coverG lk) S).2 ≤ coverG lk S → _) ∧ (coverG lk S < (fmS 17 (coverG lk) S).2 → V 7 [(0, xr (0, 20)), (1, xi (S : Int)), (2, xi (coverG lk S)), (3, xi ((S : Int) + 1))] [] (_, xst c) 0 0)
    refine ⟨⟨by omega, by omega⟩, ⟨by omega, by omega⟩, fun h => ?_, fun h => ?_⟩
    · rw [if_neg (by omega)] at ih; exact ih
    · rw [if_pos h] at ih; exact ih
theorem cn_cover (hX : xBase X) (d : Nat) (hk : LKok lk) (hC : CL I lk) (l : Bool) : xRet rI X m_X9_cover (d + 2) [xr (0, 0), xi (xbi l)] c I 0 0 (fun v I9 => keepC I I9 ∧ v = coverA lk l) xNo := by
  refine xRet_of hX pl_X9_cover (LE1 rfl) fun V hV => rg_X9_cover_0 hV I _ ⟨_, pa_gather hX (d + 1) hk hC, ?_⟩
  rintro _ J ⟨k1, k2⟩
  refine ⟨_, pa_leftOfCover hX d hk k2, ?_⟩
  rintro _ J ⟨rfl, rfl⟩
  refine ⟨fun z => ⟨_, pa_likedByOthers hX (d + 1) k2 (coverS_spec hk).1, ?_⟩, fun z => ⟨k1.C (by decide), by rw [z]; rfl⟩⟩
  rintro _ J ⟨rfl, rfl⟩
  exact ⟨k1.C (by decide), by rw [z]; rfl⟩
end MPB
