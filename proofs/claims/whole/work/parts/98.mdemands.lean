/-! holds, meets, breaks by the reference -/
theorem sOut_at {G : Gr} {S e : Nat} (g : Nat → Int) (he : e < G.m) (hl : lvs G S e = true) : sOut G g S = sumE G.m (fun k => if k = e then 0 else if lvs G S k then g k else 0) + g e := by
  unfold sOut
  rw [sumE_at he, if_pos hl]
theorem FS.bound2 {G : Gr} {lo hi b f : Nat → Int} (hG : GrIn G) (h : FS G lo hi b f) {S e : Nat} (he : e < G.m) (hl : lvs G S e = true) : bS G.n b S + sIn G lo S - (sOut G hi S - hi e) ≤ f e := by
  have h1 := h.cut hG S
  have h2 := sIn_le (G := G) S (fun e he => (h.1 e he).1)
  rw [sOut_at f he hl] at h1
  rw [sOut_at hi he hl]
  have h3 : sumE G.m (fun k => if k = e then 0 else if lvs G S k then f k else 0) ≤ sumE G.m (fun k => if k = e then 0 else if lvs G S k then hi k else 0) := sumE_le fun k hk => by
    have := (h.1 k hk).2
    split
    · omega
    · split <;> omega
  omega
def lmF (G : Gr) (lo hi su : Nat → Int) (e : Nat) : Nat → Int
  | 0 => lo e
  | n + 1 => if lvs G n e then max (lmF G lo hi su e n) (bS G.n su n + sIn G lo n - (sOut G hi n - hi e)) else if ens G n e then max (lmF G lo hi su e n) (sOut G lo n - bS G.n su n - (sIn G hi n - hi e)) else lmF G lo hi su e n
theorem lmF_s (G : Gr) (lo hi su : Nat → Int) (e n : Nat) : lmF G lo hi su e (n + 1) = if lvs G n e then max (lmF G lo hi su e n) (bS G.n su n + sIn G lo n - (sOut G hi n - hi e)) else if ens G n e then max (lmF G lo hi su e n) (sOut G lo n - bS G.n su n - (sIn G hi n - hi e)) else lmF G lo hi su e n := rfl
theorem lmF_le {G : Gr} {lo hi su f : Nat → Int} (hG : GrIn G) (h : FS G lo hi su f) {e : Nat} (he : e < G.m) (n : Nat) : lmF G lo hi su e n ≤ f e := by
  induction n with
  | zero => exact (h.1 e he).1
  | succ n ih =>
    rw [lmF_s]
    by_cases h1 : lvs G n e = true
    · rw [if_pos h1]
      have := h.bound2 hG he h1
      omega
    · rw [if_neg h1]
      by_cases h2 : ens G n e = true
      · rw [if_pos h2]
        have := h.bound hG he h2
        omega
      · rw [if_neg h2]; exact ih
theorem lmF_ge {G : Gr} {lo hi su : Nat → Int} {e n : Nat} : lo e ≤ lmF G lo hi su e n ∧ ∀ S, S < n → ens G S e = true → sOut G lo S - bS G.n su S - (sIn G hi S - hi e) ≤ lmF G lo hi su e n := by
  induction n with
  | zero => exact ⟨Int.le_refl _, fun S hS => by omega⟩
  | succ n ih =>
    rw [lmF_s]
    by_cases h1 : lvs G n e = true
    · rw [if_pos h1]
      refine ⟨by omega, fun S hS hs => ?_⟩
      by_cases hSn : S = n
      · rw [hSn] at hs
        unfold lvs at h1
        unfold ens at hs
        rw [Bool.and_eq_true, Bool.not_eq_true'] at h1 hs
        rw [h1.1] at hs; cases hs.1
      · have := ih.2 S (by omega) hs; omega
    · rw [if_neg h1]
      by_cases h2 : ens G n e = true
      · rw [if_pos h2]
        refine ⟨by omega, fun S hS hs => ?_⟩
        by_cases hSn : S = n
        · rw [hSn]; omega
        · have := ih.2 S (by omega) hs; omega
      · rw [if_neg h2]
        refine ⟨ih.1, fun S hS hs => ?_⟩
        by_cases hSn : S = n
        · rw [hSn] at hs; exact absurd hs h2
        · exact ih.2 S (by omega) hs
theorem lmF_eq {G : Gr} {lo hi su : Nat → Int} (hG : GrIn G) (hex : ∃ f, FS G lo hi su f) {e : Nat} (he : e < G.m) : lmF G lo hi su e (2 ^ G.n) = leastC G lo hi su e := by
  obtain ⟨f, hf⟩ := hex
  refine Int.le_antisymm ?_ ?_
  · obtain ⟨g, g1, g2⟩ := FS.least hG he (Int.toNat (f e - lo e)) f hf (by omega)
    rw [← g2]; exact lmF_le hG g1 he _
  · have h1 := lmF_ge (G := G) (lo := lo) (hi := hi) (su := su) (e := e) (n := 2 ^ G.n)
    unfold leastC
    rcases (mx_spec (lo e) (fun S => ens G S e) (fun S => sOut G lo S - bS G.n su S - (sIn G hi S - hi e)) (2 ^ G.n)).2.2 with h | ⟨S, s1, s2, s3⟩
    · rw [h]; exact h1.1
    · rw [s3]; exact h1.2 S s1 s2
theorem lmF_bd {G : Gr} (hG : GrOK G) {lo hi su : Nat → Int} (hb : ∀ e, e < G.m → (-100 ≤ lo e ∧ lo e ≤ 100) ∧ (-100 ≤ hi e ∧ hi e ≤ 100)) (hs : ∀ x, x < G.n → -99 ≤ su x ∧ su x ≤ 99) {e : Nat} (he : e < G.m) (n : Nat) : -9000 ≤ lmF G lo hi su e n ∧ lmF G lo hi su e n ≤ 9000 := by
  have hn := hG.2.1
  have hm := hG.2.2.1
  induction n with
  | zero => have := hb e he
            show -9000 ≤ lo e ∧ lo e ≤ 9000
            omega
  | succ n ih =>
    have b1 := sOut_bd (G := G) hm (b := lo) (S := n) (z := 100) (by decide) (fun e he => (hb e he).1)
    have b2 := sOut_bd (G := G) hm (b := hi) (S := n) (z := 100) (by decide) (fun e he => (hb e he).2)
    have b3 := sIn_bd (G := G) hm (b := lo) (S := n) (z := 100) (by decide) (fun e he => (hb e he).1)
    have b4 := sIn_bd (G := G) hm (b := hi) (S := n) (z := 100) (by decide) (fun e he => (hb e he).2)
    have b5 := bSp_bd (S := n) hs
    rw [← bS_if] at b5
    have b6 := hb e he
    rw [lmF_s]
    split
    · omega
    · split <;> omega
def brkZ (G : Gr) (lo hi su : Nat → Int) : Int := if brkF G lo hi su = -1 then 0 else brkF G lo hi su
def MSu (I : xIn) (i n : Nat) (su : Nat → Int) : Prop := ∀ x, x < n → I (1, 8) (8 * i + x) = su x
theorem tn8 (i e : Nat) : Int.toNat (8 * (i : Int) + (e : Int)) = 8 * i + e := by omega
section MDM
variable {X : xX} {c : xCx} {I : xIn} {i : Nat} {G : Gr} {lo hi su : Nat → Int}
theorem ok_supplies (hX : xBase X) (d : Nat) (hG : GrOK G) (hM : MG I i G) (hS9 : MSu I i G.n su) {S : Nat} (hS : S ≤ 2147483647) : xRet rI X m_X10_supplies (d + 1) [xr (1, 0), xi (i : Int), xi (S : Int)] c I 0 0 (pv (bS G.n su S) I) xNo := by
  have hn := hG.2.1
  obtain ⟨h4, hn9, hm9, hE⟩ := id hM
  rw [bS_if]
  refine xRet_of hX pl_X10_supplies (LE1 rfl) fun V hV => rg_X10_supplies_0 hV I _ _ ?_
  refine up_to0 (m := G.n) (W := fun k => V 5 [(0, xr (1, 0)), (1, xi (i : Int)), (2, xi (S : Int)), (3, xi (sumE k (fun x => if S.testBit x then su x else 0))), (4, xi (k : Int))] [] (I, xst c) 0 0) ?_ ?_
  · refine rg_X10_supplies_5 hV I _ _ _ _ ⟨⟨by omega, by omega⟩, ⟨by omega, by omega⟩, fun _ => pvI rfl, fun h => ?_⟩
    rw [tnN, hn9] at h; omega
  · intro k hk ih
    rw [sumE] at ih
    refine rg_X10_supplies_5 hV I _ _ _ _ ⟨⟨by omega, by omega⟩, ⟨by omega, by omega⟩, fun h => ?_, fun _ => ⟨_, ok_has hX d rfl rfl hS (by omega), ?_⟩⟩
    · rw [tnN, hn9] at h; omega
    rintro _ _ ⟨rfl, rfl⟩
    refine ⟨fun z => ?_, fun z => ⟨⟨by omega, by omega⟩, ?_⟩⟩
    · rw [if_neg (by rw [z]; decide)] at ih; exact ih
    · rw [tn8, hS9 k hk]
      rintro _ rfl
      rw [if_pos z] at ih; exact ih
theorem MSu.k9 {J : xIn} {n : Nat} (h : MSu I i n su) (hk : kpM I J) : MSu J i n su := fun x hx => by rw [hk (1, 8) (by decide)]; exact h x hx
theorem ok_breaking (hX : xBase X) (d : Nat) (hG : GrOK G) (hM : MG I i G) (hN : MN I i G.m lo hi) (hb : ∀ e, e < G.m → (-100 ≤ lo e ∧ lo e ≤ 100) ∧ (-100 ≤ hi e ∧ hi e ≤ 100)) (hS9 : MSu I i G.n su) (hs : ∀ x, x < G.n → -99 ≤ su x ∧ su x ≤ 99) : xRet rI X m_X10_breaking (d + 4) [xr (1, 0), xi (i : Int)] c I 0 0 (fun v I9 => kpM I I9 ∧ v = brkZ G lo hi su) xNo := by
  have hn := hG.2.1
  have hm := hG.2.2.1
  have g2 := pow2_le8 hn
  have gp : 0 < 2 ^ G.n := Nat.two_pow_pos _
  refine xRet_of hX pl_X10_breaking (LE1 rfl) fun V hV => rg_X10_breaking_0 hV I _ ⟨_, ok_looksAt hX (d + 3) hG hM hN, ?_⟩
  rintro _ J ⟨k1, hB⟩
  have hM1 := k1.MG hM
  have hS1 := hS9.k9 k1
  have hZ : brkZ G lo hi su = if ff (brkP G lo hi su) (2 ^ G.n) = -1 then 0 else ff (brkP G lo hi su) (2 ^ G.n) := rfl
  have hpd : ∀ S, brkP G lo hi su S = (decide (sOut G hi S - sIn G lo S < bS G.n su S) || decide (bS G.n su S < sOut G lo S - sIn G hi S)) := fun _ => rfl
  have h0 : brkP G lo hi su 0 = false := brk_0
  generalize brkP G lo hi su = p at hpd h0 hZ
  generalize hNN : 2 ^ G.n = N at g2 gp hZ
  refine up_to (m := N) (W := fun S => (∀ T, T < S → p T = false) → V 7 [(0, xr (1, 0)), (1, xi (i : Int)), (2, xi (S : Int))] [] (J, xst c) 0 0) ?_ ?_ 1 gp (fun T hT => by rw [show T = 0 by omega]; exact h0)
  · intro hno
    refine rg_X10_breaking_7 hV J _ _ ⟨_, ok_setsN hX (d + 3) hG hM1 hNN, ?_⟩
    rintro _ _ ⟨rfl, rfl⟩
    exact ⟨⟨by omega, by omega⟩, ⟨by omega, by omega⟩, fun _ => ⟨k1, by rw [hZ, ff_none hno, if_pos rfl]⟩, fun h => by omega⟩
  · intro S hS ih hno
    have hS2 : S ≤ 2147483647 := by omega
    have b1 := sOut_bd (G := G) hm (b := lo) (S := S) (z := 100) (by decide) (fun e he => (hb e he).1)
    have b2 := sOut_bd (G := G) hm (b := hi) (S := S) (z := 100) (by decide) (fun e he => (hb e he).2)
    have b3 := sIn_bd (G := G) hm (b := lo) (S := S) (z := 100) (by decide) (fun e he => (hb e he).1)
    have b4 := sIn_bd (G := G) hm (b := hi) (S := S) (z := 100) (by decide) (fun e he => (hb e he).2)
    have b5 := bSp_bd (S := S) hs
    rw [← bS_if] at b5
    have hit : p S = true → (S : Int) = brkZ G lo hi su := fun h => by
      rw [hZ, ff_hit hS h hno, if_neg (by omega)]
    refine rg_X10_breaking_7 hV J _ _ ⟨_, ok_setsN hX (d + 3) hG hM1 hNN, ?_⟩
    rintro _ _ ⟨rfl, rfl⟩
    refine ⟨⟨by omega, by omega⟩, ⟨by omega, by omega⟩, fun h => by omega, fun _ => ⟨_, ok_supplies hX (d + 2) hG hM1 hS1 hS2, ?_⟩⟩
    rintro _ _ ⟨rfl, rfl⟩
    refine ⟨_, ok_mostOut hX (d + 1) hG hM1 hB hS2, ?_⟩
    rintro _ _ ⟨rfl, rfl⟩
    refine ⟨_, ok_leastIn hX (d + 1) hG hM1 hB hS2, ?_⟩
    rintro _ _ ⟨rfl, rfl⟩
    refine ⟨⟨by omega, by omega⟩, ⟨by omega, by omega⟩, fun h => ⟨k1, hit (by rw [hpd, decide_eq_true h, Bool.true_or])⟩, fun h => ⟨_, ok_leastOut hX (d + 1) hG hM1 hB hS2, ?_⟩⟩
    rintro _ _ ⟨rfl, rfl⟩
    refine ⟨_, ok_mostIn hX (d + 1) hG hM1 hB hS2, ?_⟩
    rintro _ _ ⟨rfl, rfl⟩
    refine ⟨⟨by omega, by omega⟩, fun h2 => ih fun T hT => ?_, fun h2 => ⟨k1, hit (by rw [hpd, decide_eq_true h2, Bool.or_true])⟩⟩
    by_cases hTS : T = S
    · rw [hTS, hpd, decide_eq_false (by omega), decide_eq_false (by omega)]; rfl
    · exact hno T (by omega)
theorem ok_leastMeeting (hX : xBase X) (d : Nat) (hG : GrOK G) (hM : MG I i G) (hB : MB I G.m lo hi) (hb : ∀ e, e < G.m → (-100 ≤ lo e ∧ lo e ≤ 100) ∧ (-100 ≤ hi e ∧ hi e ≤ 100)) (hS9 : MSu I i G.n su) (hs : ∀ x, x < G.n → -99 ≤ su x ∧ su x ≤ 99) {e : Nat} (he : e < G.m) : xRet rI X m_X10_leastMeeting (d + 4) [xr (1, 0), xi (i : Int), xi (e : Int)] c I 0 0 (pv (lmF G lo hi su e (2 ^ G.n)) I) xNo := by
  have hn := hG.2.1
  have hm := hG.2.2.1
  have g2 := pow2_le8 hn
  have gp : 0 < 2 ^ G.n := Nat.two_pow_pos _
  refine xRet_of hX pl_X10_leastMeeting (LE1 rfl) fun V hV => rg_X10_leastMeeting_0 hV I _ _ ⟨⟨by omega, by omega⟩, ?_⟩
  rw [tnN, (hB e he).1]
  rintro _ rfl
  generalize hNN : 2 ^ G.n = N at g2 gp
  have h1 : lmF G lo hi su e 1 = lo e := by
    rw [lmF_s]
    unfold lvs ens
    rw [Nat.zero_testBit, Nat.zero_testBit]; rfl
  rw [← h1]
  refine up_to (m := N) (W := fun S => V 10 [(0, xr (1, 0)), (1, xi (i : Int)), (2, xi (e : Int)), (3, xi (lmF G lo hi su e S)), (4, xi (S : Int))] [] (I, xst c) 0 0) ?_ ?_ 1 gp
  · refine rg_X10_leastMeeting_10 hV I _ _ _ _ ⟨_, ok_setsN hX (d + 3) hG hM hNN, ?_⟩
    rintro _ _ ⟨rfl, rfl⟩
    exact ⟨⟨by omega, by omega⟩, ⟨by omega, by omega⟩, fun _ => pvI (by rw [hNN]), fun h => by omega⟩
  · intro S hS ih
    have hS2 : S ≤ 2147483647 := by omega
    have b1 := sOut_bd (G := G) hm (b := lo) (S := S) (z := 100) (by decide) (fun e he => (hb e he).1)
    have b2 := sOut_bd (G := G) hm (b := hi) (S := S) (z := 100) (by decide) (fun e he => (hb e he).2)
    have b3 := sIn_bd (G := G) hm (b := lo) (S := S) (z := 100) (by decide) (fun e he => (hb e he).1)
    have b4 := sIn_bd (G := G) hm (b := hi) (S := S) (z := 100) (by decide) (fun e he => (hb e he).2)
    have b5 := bSp_bd (S := S) hs
    rw [← bS_if] at b5
    have b6 := hb e he
    have b7 := lmF_bd hG hb hs he S
    rw [lmF_s] at ih
    refine rg_X10_leastMeeting_10 hV I _ _ _ _ ⟨_, ok_setsN hX (d + 3) hG hM hNN, ?_⟩
    rintro _ _ ⟨rfl, rfl⟩
    refine ⟨⟨by omega, by omega⟩, ⟨by omega, by omega⟩, fun h => by omega, fun _ => ⟨_, ok_supplies hX (d + 2) hG hM hS9 hS2, ?_⟩⟩
    rintro _ _ ⟨rfl, rfl⟩
    refine ⟨_, ok_leaves hX (d + 2) hG hM he hS2, ?_⟩
    rintro _ _ ⟨rfl, rfl⟩
    refine ⟨fun z => ⟨_, ok_enters hX (d + 2) hG hM he hS2, ?_⟩, fun z => ?_⟩
    · rw [if_neg (by rw [z]; decide)] at ih
      rintro _ _ ⟨rfl, rfl⟩
      refine ⟨fun y => ?_, fun y => ⟨_, ok_leastOut hX (d + 1) hG hM hB hS2, ?_⟩⟩
      · rw [if_neg (by rw [y]; decide)] at ih; exact ih
      rintro _ _ ⟨rfl, rfl⟩
      refine ⟨_, ok_mostIn hX (d + 1) hG hM hB hS2, ?_⟩
      rintro _ _ ⟨rfl, rfl⟩
      rw [tnN, (hB e he).2]
      refine ⟨⟨by omega, by omega⟩, _, ok_max hX (d + 3) ⟨by omega, by omega⟩ ⟨by omega, by omega⟩, ?_⟩
      rintro _ _ ⟨rfl, rfl⟩
      rw [if_pos y] at ih; exact ih
    · rw [if_pos z] at ih
      refine ⟨_, ok_leastIn hX (d + 1) hG hM hB hS2, ?_⟩
      rintro _ _ ⟨rfl, rfl⟩
      refine ⟨_, ok_mostOut hX (d + 1) hG hM hB hS2, ?_⟩
      rintro _ _ ⟨rfl, rfl⟩
      rw [tnN, (hB e he).2]
      refine ⟨⟨by omega, by omega⟩, _, ok_max hX (d + 3) ⟨by omega, by omega⟩ ⟨by omega, by omega⟩, ?_⟩
      rintro _ _ ⟨rfl, rfl⟩
      exact ih
end MDM
section MDN
variable {X : xX} {c : xCx} {I : xIn} {T : NT} {a e : Int}
theorem MI.su {T : NT} {I : xIn} (hI : MI I T) {i : Nat} (hi : i < T.N) : MSu I i (T.G i).n (T.su i) := (hI.2.2 i hi).2.2.2
theorem brkZ_bd {G : Gr} (hn : G.n ≤ 8) (lo hi su : Nat → Int) : 0 ≤ brkZ G lo hi su ∧ brkZ G lo hi su ≤ 256 := by
  have := brkF_bd hn lo hi su
  unfold brkZ
  split <;> omega
theorem brkZ_0 (G : Gr) (lo hi su : Nat → Int) : brkZ G lo hi su = 0 ↔ brkF G lo hi su = -1 := by
  have := brkF_ne0 G lo hi su
  unfold brkZ
  split <;> omega
theorem ok_breakT (hX : xBase X) (d : Nat) (hT : NTok T) (hI : MI I T) {i : Nat} (hi : i < T.N) : xRet rI X m_X10_breaking (d + 4) [xr (1, 0), xi (i : Int)] c I 0 0 (fun v I9 => kpM I I9 ∧ v = brkZ (T.G i) (T.lo i) (T.hi i) (T.su i)) xNo := by
  obtain ⟨hG, -, hs⟩ := hT.2 i hi
  obtain ⟨hM, hN, -⟩ := hI.2.2 i hi
  exact ok_breaking hX d hG hM hN (hT.b100 hi) (hI.su hi) hs
theorem ok_holds (hX : xBase X) (d : Nat) (hT : NTok T) (hI : MI I T) (ha : xin a) : xRet rB X m_X10_holds (d + 5) [xr (1, 0), xi a] c I 0 0 (fun v I9 => keepM I I9 ∧ (v, I9 (1, 0) 32) = holdsA T a) xNo := by
  refine xRet_of hX pl_X10_holds (LE1 rfl) fun V hV => rg_X10_holds_0 hV I _ ⟨_, ok_isNet hX (d + 3) (hI.W hT) ha, ?_⟩
  rintro _ I ⟨rfl, rfl⟩
  rw [hI.1]
  refine ⟨fun z => rg_X10_holds_14 hV I _ _ ⟨⟨by decide, by decide⟩, ?_⟩, fun z => rg_X10_holds_14 hV I _ _ ⟨⟨by decide, by decide⟩, ?_⟩⟩
  · have hz := inB_t z
    obtain ⟨i, rfl⟩ := Int.eq_ofNat_of_zero_le hz.1
    have hi : i < T.N := by omega
    rintro J e1
    have j32 : J (1, 0) 32 = 0 := by rw [e1, xu_same]
    have k1 : keepM I J := by rw [e1]; exact keepM.thrown _
    clear e1
    rw [j32]
    refine ⟨fun w => absurd rfl w, fun _ => ⟨_, ok_breakT hX d hT (hI.keep k1) hi, ?_⟩⟩
    rintro _ K ⟨k2, rfl⟩
    have hb := brkZ_bd (hT.2 i hi).1.2.1 (T.lo i) (T.hi i) (T.su i)
    have hA : holdsA T (i : Int) = (holdsG (T.G i) (T.lo i) (T.hi i) (T.su i), 0) := by
      unfold holdsA wrong1
      rw [z, if_pos rfl, wE_0 rfl, tnN]
    have j2 : K (1, 0) 32 = 0 := by rw [k2 (1, 0) (by decide)]; exact j32
    rw [hA]
    unfold holdsG
    refine ⟨⟨by omega, by omega⟩, fun h => ⟨k1.tr k2.keep, ?_⟩, fun h => ⟨k1.tr k2.keep, ?_⟩⟩
    · rw [j2, decide_eq_false (fun q => h ((brkZ_0 _ _ _ _).mpr q))]
    · rw [j2, decide_eq_true ((brkZ_0 _ _ _ _).mp h)]
  · rintro J e1
    have j32 : J (1, 0) 32 = 1 := by rw [e1, xu_same]
    rw [j32]
    refine ⟨fun _ => ⟨by rw [e1]; exact keepM.thrown _, ?_⟩, fun w => absurd w (by decide)⟩
    unfold holdsA wrong1
    rw [z, if_neg (by decide), wE_p (by decide)]
theorem ok_breaks (hX : xBase X) (d : Nat) (hT : NTok T) (hI : MI I T) (ha : xin a) : xRet rI X m_X10_breaks (d + 5) [xr (1, 0), xi a] c I 0 0 (fun v I9 => keepM I I9 ∧ (v, I9 (1, 0) 32) = breaksA T a) xNo := by
  refine xRet_of hX pl_X10_breaks (LE1 rfl) fun V hV => ?_
  have bad : ∀ K, keepM I K → ∀ w : Int, 0 < w → w ≤ 3 → breaksA T a = (0, w) → V 26 [(0, xr (1, 0)), (1, xi a)] [xi w, xr (1, 0)] (K, xst c) 0 0 := fun K hK w w0 w3 hA => rg_X10_breaks_26 hV K _ _ ⟨⟨by omega, by omega⟩, by
    rintro K2 rfl
    rw [xu_same]
    exact ⟨fun h => by omega, fun _ => ⟨hK.tr (keepM.thrown _), by rw [hA]⟩⟩⟩
  refine rg_X10_breaks_0 hV I _ ⟨_, ok_isNet hX (d + 3) (hI.W hT) ha, ?_⟩
  rintro _ I ⟨rfl, rfl⟩
  rw [hI.1]
  refine ⟨fun z => ?_, fun z => bad I keepM.id9 1 (by decide) (by decide) (by unfold breaksA wrong1; rw [z, if_neg (by decide), wE_p (by decide)])⟩
  have hz := inB_t z
  obtain ⟨i, rfl⟩ := Int.eq_ofNat_of_zero_le hz.1
  have hi : i < T.N := by omega
  have hb := brkZ_bd (hT.2 i hi).1.2.1 (T.lo i) (T.hi i) (T.su i)
  have hA : breaksA T (i : Int) = breaksG (T.G i) (T.lo i) (T.hi i) (T.su i) := by
    unfold breaksA wrong1
    rw [z, if_pos rfl, wE_0 rfl, tnN]
  refine ⟨_, ok_breakT hX d hT hI hi, ?_⟩
  rintro _ K ⟨k2, rfl⟩
  refine ⟨⟨by omega, by omega⟩, fun h => rg_X10_breaks_26 hV K _ _ ⟨⟨by decide, by decide⟩, ?_⟩, fun h => bad K k2.keep 2 (by decide) (by decide) (by rw [hA]; unfold breaksG; rw [if_pos ((brkZ_0 _ _ _ _).mp h)])⟩
  rintro J e1
  have j32 : J (1, 0) 32 = 0 := by rw [e1, xu_same]
  have k1 : keepM I J := k2.keep.tr (by rw [e1]; exact keepM.thrown _)
  clear e1
  rw [j32]
  refine ⟨fun _ => ⟨_, ok_breakT hX d hT (hI.keep k1) hi, ?_⟩, fun w => absurd w (by decide)⟩
  rintro _ L ⟨k3, rfl⟩
  have j2 : L (1, 0) 32 = 0 := by rw [k3 (1, 0) (by decide)]; exact j32
  refine ⟨k1.tr k3.keep, ?_⟩
  rw [hA, j2]
  unfold breaksG brkZ
  have hne : brkF (T.G i) (T.lo i) (T.hi i) (T.su i) ≠ -1 := fun q => h ((brkZ_0 _ _ _ _).mpr q)
  rw [if_neg hne, if_neg hne]
theorem gale {G : Gr} {lo hi su : Nat → Int} (hG : GrOK G) (hb : ∀ e, e < G.m → 0 ≤ lo e ∧ lo e ≤ hi e) (hs : ∀ x, x < G.n → -99 ≤ su x ∧ su x ≤ 99) (h : brkF G lo hi su = -1) : ∃ f, FS G lo hi su f := by
  have hno : ∀ C, C < 2 ^ G.n → brkP G lo hi su C = false := by
    unfold brkF at h
    rcases ff_cases (brkP G lo hi su) (2 ^ G.n) with ⟨-, q⟩ | ⟨S, q1, q2, -, -⟩
    · exact q
    · rw [q2] at h; omega
  have hH := hu_in (su := su) hG (Nat.le_refl _)
  have hmm := hu_n (G := G) (su := su) G.n
  have hbnd : ∀ e, e < (huG G su G.n).m → huB G su lo G.n e ≤ huB G su hi G.n e ∧ 0 ≤ huB G su hi G.n e := fun e he => by
    by_cases hem : e < G.m
    · rw [huB_lo hem, huB_lo hem]
      have := hb e hem; omega
    · have q1 := huB_bd (lo := hi) hs (show G.m ≤ e by omega) G.n (Nat.le_refl _) he
      have q2 := huB_eq (su := su) (lo := lo) (hi := hi) (show G.m ≤ e by omega) G.n he
      omega
  obtain ⟨f, hf⟩ := hoff (l := huB G su lo G.n) (h := huB G su hi G.n) hH.1 hbnd (fun S hS => by
    refine Classical.byContradiction fun hlt => ?_
    rw [hmm.1] at hS
    obtain ⟨C, c1, c2⟩ := brk_of (su := su) (lo := lo) (hi := hi) hG hS (by omega)
    rw [hno C c1] at c2; cases c2) (Nat.le_refl _)
  refine ⟨f, hub_to (LO := huB G su lo G.n) (HI := huB G su hi G.n) hG.in ⟨fun e he => ⟨huB_lo he _, huB_lo he _⟩, fun e e1 e2 => ⟨rfl, (huB_eq (su := su) (lo := lo) (hi := hi) e1 G.n e2).symm⟩⟩ ⟨fun e he => ?_, hf.2⟩⟩
  have := hf.1 e he
  unfold mixk at this
  rw [if_pos he] at this
  exact this
theorem lxC_bd {G : Gr} {lo hi b f : Nat → Int} (hG : GrIn G) (h : FS G lo hi b f) (hb : ∀ e, e < G.m → -100 ≤ lo e ∧ hi e ≤ 100) {k : Nat} (hk : k ≤ G.m) : ∀ e, e < G.m → (-100 ≤ (lxC G lo hi b k).1 e ∧ (lxC G lo hi b k).1 e ≤ 100) ∧ (-100 ≤ (lxC G lo hi b k).2 e ∧ (lxC G lo hi b k).2 e ≤ 100) := fun e he => by
  obtain ⟨h1, g, h2⟩ := lxC_ok hG h hk
  have q1 := h1 e he
  have q2 := h2.1 e he
  have q3 := hb e he
  omega
theorem ok_meets (hX : xBase X) (d : Nat) (hT : NTok T) (hI : MI I T) (ha : xin a) (he : xin e) : xRet rI X m_X10_meets (d + 5) [xr (1, 0), xi a, xi e] c I 0 0 (fun v I9 => keepM I I9 ∧ (v, I9 (1, 0) 32) = meetsA T a e) xNo := by
  refine xRet_of hX pl_X10_meets (LE1 rfl) fun V hV => ?_
  have bad : ∀ K, keepM I K → ∀ w : Int, 0 < w → w ≤ 3 → meetsA T a e = (0, w) → V 35 [(0, xr (1, 0)), (1, xi a), (2, xi e)] [xi w, xr (1, 0)] (K, xst c) 0 0 := fun K hK w w0 w3 hA => rg_X10_meets_35 hV K _ _ _ ⟨⟨by omega, by omega⟩, by
    rintro K2 rfl
    rw [xu_same]
    exact ⟨fun h => by omega, fun _ => ⟨hK.tr (keepM.thrown _), by rw [hA]⟩⟩⟩
  have hW := hI.W hT
  refine rg_X10_meets_0 hV I _ _ ⟨_, ok_isNet hX (d + 3) hW ha, ?_⟩
  rintro _ I ⟨rfl, rfl⟩
  rw [hI.1]
  refine ⟨fun z => rg_X10_meets_18 hV I _ _ (bad I keepM.id9 1 (by decide) (by decide) (by unfold meetsA wrong1E; rw [z, if_neg (by decide), wE_p (by decide)])), fun z => ?_⟩
  have hz := inB_t z
  obtain ⟨i, rfl⟩ := Int.eq_ofNat_of_zero_le hz.1
  have hi : i < T.N := by omega
  have h4 := hT.1
  obtain ⟨hG, hB, hs⟩ := hT.2 i hi
  have hn := hG.2.1
  have hm := hG.2.2.1
  obtain ⟨hM, hMN, -⟩ := hI.2.2 i hi
  refine ⟨_, ok_isEdge hX (d + 3) hW ⟨by omega, by omega⟩ he, ?_⟩
  rintro _ I ⟨rfl, rfl⟩
  rw [tnN, hM.2.2.1]
  refine ⟨fun y => ?_, fun y => rg_X10_meets_18 hV I _ _ (bad I keepM.id9 1 (by decide) (by decide) (by unfold meetsA wrong1E; rw [z, if_pos rfl, tnN, y, if_neg (by decide), wE_p (by decide)]))⟩
  have hy := inB_t y
  obtain ⟨e, rfl⟩ := Int.eq_ofNat_of_zero_le hy.1
  have hb := brkZ_bd hn (T.lo i) (T.hi i) (T.su i)
  have hA : meetsA T (i : Int) (e : Int) = meetsG (T.G i) (T.lo i) (T.hi i) (T.su i) e := by
    unfold meetsA wrong1E
    rw [z, if_pos rfl, tnN, y, if_pos rfl, wE_0 rfl, tnN]
  refine ⟨_, ok_breakT hX d hT hI hi, ?_⟩
  rintro _ K ⟨k2, rfl⟩
  refine ⟨⟨by omega, by omega⟩, fun h => rg_X10_meets_35 hV K _ _ _ ⟨⟨by decide, by decide⟩, ?_⟩, fun h => bad K k2.keep 2 (by decide) (by decide) (by rw [hA]; unfold meetsG; rw [if_neg (fun q => h ((brkZ_0 _ _ _ _).mpr q))])⟩
  have hbr := (brkZ_0 _ _ _ _).mp h
  rintro J e1
  have j32 : J (1, 0) 32 = 0 := by rw [e1, xu_same]
  have k1 : keepM I J := k2.keep.tr (by rw [e1]; exact keepM.thrown _)
  clear e1
  obtain ⟨hM1, hN1, -⟩ := (hI.keep k1).2.2 i hi
  rw [j32]
  refine ⟨fun _ => ⟨_, ok_looksAt hX (d + 4) hG hM1 hN1, ?_⟩, fun w => absurd w (by decide)⟩
  rintro _ L ⟨k3, hB3⟩
  obtain ⟨f, hf⟩ := gale hG (fun e he => by have := (hB e he).1; omega) hs hbr
  have hv : meetsA T (i : Int) (e : Int) = ((lxC (T.G i) (T.lo i) (T.hi i) (T.su i) (e + 1)).1 e, 0) := by rw [hA]; unfold meetsG; rw [if_pos hbr]
  have hbd : ∀ k, k ≤ (T.G i).m → ∀ e, e < (T.G i).m → (-100 ≤ (lxC (T.G i) (T.lo i) (T.hi i) (T.su i) k).1 e ∧ (lxC (T.G i) (T.lo i) (T.hi i) (T.su i) k).1 e ≤ 100) ∧ (-100 ≤ (lxC (T.G i) (T.lo i) (T.hi i) (T.su i) k).2 e ∧ (lxC (T.G i) (T.lo i) (T.hi i) (T.su i) k).2 e ≤ 100) := fun k hk => lxC_bd hG.in hf (fun e he => by have := (hB e he).1; omega) hk
  have l32 : L (1, 0) 32 = 0 := by rw [k3 (1, 0) (by decide)]; exact j32
  refine up_to0 (m := e + 1) (W := fun k => ∀ L, keepM I L → L (1, 0) 32 = 0 → MB L (T.G i).m (lxC (T.G i) (T.lo i) (T.hi i) (T.su i) k).1 (lxC (T.G i) (T.lo i) (T.hi i) (T.su i) k).2 → V 54 [(0, xr (1, 0)), (1, xi (i : Int)), (2, xi (e : Int)), (3, xi (k : Int))] [] (L, xst c) 0 0) ?_ ?_ L (k1.tr k3.keep) l32 hB3
  · intro L kL l32 hBL
    refine rg_X10_meets_54 hV L _ _ _ ⟨⟨by omega, by omega⟩, ⟨by omega, by omega⟩, fun _ => ⟨⟨by omega, by omega⟩, kL, ?_⟩, fun h => by omega⟩
    rw [hv, tnN, (hBL e (by omega)).1, l32]
  · intro k hk ih L kL l32 hBL
    have hkm : k < (T.G i).m := by omega
    obtain ⟨hM2, -, -, hsu⟩ := (hI.keep kL).2.2 i hi
    obtain ⟨-, g, hg⟩ := lxC_ok hG.in hf (show k ≤ (T.G i).m by omega)
    have hle := lmF_eq hG.in ⟨g, hg⟩ hkm
    have hb9 := hbd (k + 1) (by omega) k hkm
    have hd1 : (lxC (T.G i) (T.lo i) (T.hi i) (T.su i) (k + 1)).1 = upL (lxC (T.G i) (T.lo i) (T.hi i) (T.su i) k).1 k (leastC (T.G i) (lxC (T.G i) (T.lo i) (T.hi i) (T.su i) k).1 (lxC (T.G i) (T.lo i) (T.hi i) (T.su i) k).2 (T.su i) k) := rfl
    have hd2 : (lxC (T.G i) (T.lo i) (T.hi i) (T.su i) (k + 1)).2 = upL (lxC (T.G i) (T.lo i) (T.hi i) (T.su i) k).2 k (leastC (T.G i) (lxC (T.G i) (T.lo i) (T.hi i) (T.su i) k).1 (lxC (T.G i) (T.lo i) (T.hi i) (T.su i) k).2 (T.su i) k) := rfl
    rw [hd1, hd2] at ih hb9
    rw [upL_s, upL_s] at hb9
    refine rg_X10_meets_54 hV L _ _ _ ⟨⟨by omega, by omega⟩, ⟨by omega, by omega⟩, fun h => by omega, fun _ => ⟨_, ok_leastMeeting hX (d) hG hM2 hBL (hbd k (by omega)) hsu hs hkm, ?_⟩⟩
    rintro _ L ⟨rfl, rfl⟩
    rw [hle]
    refine ⟨⟨by omega, by omega⟩, ⟨by omega, by omega⟩, ?_⟩
    rintro L1 e1 L2 e2
    rw [tnN] at e1 e2
    have kk : keepM I L2 := kL.tr (kpM.keep (by rw [e2, e1]; exact (kp.rfl.xu (by simp)).xu (by simp)))
    refine ih L2 kk (by rw [e2, xu_p (by decide), e1, xu_p (by decide)]; exact l32) fun j hj => ?_
    have r17 : L2 (1, 17) = upL (L (1, 17)) k (leastC (T.G i) (lxC (T.G i) (T.lo i) (T.hi i) (T.su i) k).1 (lxC (T.G i) (T.lo i) (T.hi i) (T.su i) k).2 (T.su i) k) := by rw [e2, xu_p (by decide), e1, xuL]
    have r18 : L2 (1, 18) = upL (L (1, 18)) k (leastC (T.G i) (lxC (T.G i) (T.lo i) (T.hi i) (T.su i) k).1 (lxC (T.G i) (T.lo i) (T.hi i) (T.su i) k).2 (T.su i) k) := by rw [e2, xuL, e1, xu_p (by decide)]
    rw [r17, r18]
    by_cases hjk : j = k
    · rw [hjk, upL_s, upL_s, upL_s, upL_s]; exact ⟨rfl, rfl⟩
    · rw [upL_n hjk, upL_n hjk, upL_n hjk, upL_n hjk]; exact hBL j hj
end MDN
