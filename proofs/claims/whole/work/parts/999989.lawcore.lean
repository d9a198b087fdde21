/-! the law's own walk: its script, its calls -/
def m_L_law : xM := (yL_law, cL_law, 9, some .boolean, [])
abbrev sx (xs : Nat → Int32) (m : Nat) : Int := (xs m).toInt
def LSc (X : xX) (b L : Nat) (xs : Nat → Int32) : Prop := va_X b L xs X.S X.S.heap ∧ b < X.S.heap.size ∧ L ≤ 3584
theorem lg_same (a : Int64) : (lg_cmp a a).toInt = 0 := by
  unfold lg_cmp
  simp
def plt3 : xV → Bool
  | .inr (.inl (some p)) => decide (p.1 < 3)
  | _ => true
theorem plt3_xc {A A9 : xP → Nat} {v : xV} (h : plt3 v = true) (hA : ∀ p : xP, p.1 < 3 → A9 p = A p) : xc A9 v = xc A v := by
  rcases v with v | v | v | v | v <;> try rfl
  cases v with
  | none => rfl
  | some p =>
    have : p.1 < 3 := by simpa [plt3] using h
    show Value.ref (A9 p) = Value.ref (A p)
    rw [hA p this]
section XR
variable {X : xX} {y : xM} {d mc ms : Nat} {V : xT} {pc : Nat} {lo : List (Nat × xV)} {st : List xV} {h : xS} {k n : Nat} {c : xCx} {I : xIn}
theorem LSc.at {b L : Nat} {xs : Nat → Int32} {s : State} (hs : LSc X b L xs) (hB : xB X s) : va_X b L xs s s.heap ∧ b < s.heap.size ∧ ¬ xA X b :=
  ⟨(va_X.moved hB.1.alike hs.1).kept (hB.2.2 b hs.2.1), Nat.lt_of_lt_of_le hs.2.1 hB.2.1, Nat.not_le.mpr hs.2.1⟩
theorem x_sld (hV : xEng X y d mc ms V) {b L : Nat} {xs : Nat → Int32} (hs : LSc X b L xs) {a : Int} {m : Nat} (hd : decode y.2.1 pc = .ok (.iaload, 1)) (hA : h.A (2, 9) = b) (ha : a = (m : Int)) (hm : m < L) (kk : V (pc + 1) lo (xi (sx xs m) :: st) h k n) : V pc lo (xi a :: xr (2, 9) :: st) h k n := by
  obtain ⟨hX, p, e, s, m0, args, below, meth, c, Q, ⟨hx, hb, hml, hown, hlk, hrt, htb, hnm, hB⟩, rfl⟩ := hV
  intro H locs ls hP hD hS hl
  obtain ⟨h1, h2, h3⟩ := hs.at hB
  have hL := hs.2.2
  have := kk H locs ls hP hD hS hl
  show W p X.1 e (xrm d mc ms) s m0 args below meth c H locs k n Q (F0 m0 pc ls (.int (Int32.ofInt a) :: .ref (h.A (2, 9)) :: st.map (xc h.A)))
  rw [hA]
  refine va_sld hx hb h1 h2 h3 hS (xo_in (by omega) (by omega) (by omega)) hd ?_
  rw [xo_cl (by omega) (by omega), ha, Int.toNat_natCast]
  have e9 : xc h.A (xi (sx xs m)) = .int (xs m) := by show Value.int (Int32.ofInt (xs m).toInt) = _; rw [Int32.ofInt_toInt]
  rw [List.map_cons, e9] at this
  exact this
theorem x_slen (hV : xEng X y d mc ms V) {b L : Nat} {xs : Nat → Int32} (hs : LSc X b L xs) (hd : decode y.2.1 pc = .ok (.arraylength, 1)) (hA : h.A (2, 9) = b) (kk : V (pc + 1) lo (xi (L : Int) :: st) h k n) : V pc lo (xr (2, 9) :: st) h k n := by
  obtain ⟨hX, p, e, s, m0, args, below, meth, c, Q, ⟨hx, hb, hml, hown, hlk, hrt, htb, hnm, hB⟩, rfl⟩ := hV
  intro H locs ls hP hD hS hl
  obtain ⟨h1, h2, h3⟩ := hs.at hB
  have := kk H locs ls hP hD hS hl
  show W p X.1 e (xrm d mc ms) s m0 args below meth c H locs k n Q (F0 m0 pc ls (.ref (h.A (2, 9)) :: st.map (xc h.A)))
  rw [hA]
  refine va_slen hx hb h1 h2 h3 hS hd ?_
  have e9 : xc h.A (xi (L : Int)) = .int (Int32.ofNat L) := by show Value.int (Int32.ofInt (L : Int)) = _; rw [Int32.ofInt_eq_ofNat]
  rw [List.map_cons, e9] at this
  exact this
theorem x_icmp_same (hV : xEng X y d mc ms V) {a off : Int} {tgt : Nat} (hd : decode y.2.1 pc = .ok (.if_icmp .eq off, 3)) (ht : (pc : Int) + off = (tgt : Int)) (kk : V tgt lo st h k n) : V pc lo (xi a :: xi a :: st) h k n := by
  obtain ⟨hX, p, e, s, m, args, below, meth, c, Q, ⟨hx, hb, hml, hown, hlk, hrt, htb, hnm, hB⟩, rfl⟩ := hV
  intro H locs ls hP hD hS hl
  exact lv_icmp_eq hx hb hd ht (fun _ => kk H locs ls hP hD hS hl) (fun q => absurd rfl q)
theorem x_cw (hV : xEng X y d mc ms V) {z : xM} {na d9 mc9 ms9 : Nat} {as : List xV} {ins : Instr} {k0 : Int} {O : xCx → Prop} {C : xIn → xCx → Prop} (hM : xMet X z d9 as (I, xst c) mc9 ms9 (wPost c k0 O C)) (hd : decode y.2.1 pc = .ok (ins, 3)) (hpl : xPl z na) (hlk : xLk y.1.cls ins z false) (hal : as.length = na) (hd9 : d9 + 1 ≤ d) (hk : k + mc9 ≤ mc) (hn : n + ms9 ≤ ms) (hlo : (lo.map Prod.snd).all plt3 = true) (kk : ∀ I9 c9, (k0 = 0 → O c9) → (∀ p : xP, p.1 < 3 → c9.2.2.2 p = c.2.2.2 p) → C I9 c9 → V (pc + 3) lo [xi k0] (I9, xst c9) (k + mc9) (n + ms9)) : V pc lo (as.reverse ++ []) (I, xst c) k n := by
  refine x_callS hV hM hd hpl hlk hal hd9 hk hn (Nat.zero_le _) (fun E h9 hh => ?_) (fun r h9 hh => ?_)
  · obtain ⟨I9, c9, -, h2, -⟩ := hh
    cases h2
  · obtain ⟨I9, c9, rfl, h2, h3, h4, h5⟩ := hh
    cases h2
    refine ⟨⟨?_, rfl⟩, kk I9 c9 h3 h4 h5⟩
    refine List.map_congr_left fun z hz => ?_
    show (z.1, xc c9.2.2.2 z.2) = (z.1, xc c.2.2.2 z.2)
    rw [plt3_xc (List.all_eq_true.mp hlo z.2 (List.mem_map_of_mem hz)) h4]
end XR
/-! a share of 16ths is a number, also as a double -/
theorem fl_dbl : ∀ a b : Fin 17, b.val ≠ 0 → vf_n64 (FP.f2d (FP.fdiv (FP.i2f (Int32.ofInt (a.val : Int))) (FP.i2f (Int32.ofInt (b.val : Int))))) ∧ (Op.cmpValue (FP.dcmp (FP.f2d (FP.fdiv (FP.i2f (Int32.ofInt (a.val : Int))) (FP.i2f (Int32.ofInt (b.val : Int))))) (FP.f2d (FP.fdiv (FP.i2f (Int32.ofInt (a.val : Int))) (FP.i2f (Int32.ofInt (b.val : Int)))))) .l).toInt = 0 := by
  unfold vf_n64
  decide +kernel
theorem shareA_dbl {T : NT} (hT : NTok T) (a s t : Int) (h : (shareA T a s t).2 = 0) : vf_n64 (FP.f2d (shareA T a s t).1) ∧ (Op.cmpValue (FP.dcmp (FP.f2d (shareA T a s t).1) (FP.f2d (shareA T a s t).1)) .l).toInt = 0 := by
  revert h
  unfold shareA wE
  split
  · rename_i h9
    intro h
    exact absurd h (by show wrongT T a s t ≠ 0; omega)
  · rename_i h9
    have hw : wrongT T a s t = 0 := by
      unfold wrongT at h9 ⊢
      split
      · split
        · rfl
        · rename_i q1 q2; rw [if_pos q1, if_neg q2] at h9; exact absurd (by decide) h9
      · rename_i q1; rw [if_neg q1] at h9; exact absurd (by decide) h9
    have hi : Int.toNat a < T.N := by
      unfold wrongT at hw
      split at hw
      · rename_i q1; have := inB_t q1; omega
      · exact absurd hw (by decide)
    unfold shareG
    split
    · intro h; exact absurd h (by decide)
    · rename_i hm
      intro _
      have hm16 := (hT.2 _ hi).1.2.2.1
      have hm0 : (T.G (Int.toNat a)).m ≠ 0 := fun z => hm (Or.inr z)
      have hf := fullN_bd (T.G (Int.toNat a)) (T.lo (Int.toNat a)) (T.hi (Int.toNat a)) (Int.toNat s) (Int.toNat t) (T.G (Int.toNat a)).m
      have := fl_dbl ⟨Int.toNat (fullN (T.G (Int.toNat a)) (T.lo (Int.toNat a)) (T.hi (Int.toNat a)) (Int.toNat s) (Int.toNat t) (T.G (Int.toNat a)).m), by omega⟩ ⟨(T.G (Int.toNat a)).m, by omega⟩ hm0
      rw [Int.toNat_of_nonneg hf.1] at this
      exact this
