/-! small facts that the law's regions use -/
theorem mk_lt {L : Int} (h : 0 ≤ L ∧ L < 16) : L.toNat < 64 := by omega
theorem mk_l16 {L : Int} (h : 0 ≤ L ∧ L < 16) : L.toNat < 16 := by omega
theorem mk_eq {L : Int} (h : 0 ≤ L ∧ L < 16) : L = ((L.toNat : Nat) : Int) := by omega
theorem mk_le {k a K m : Nat} (hk : k + K ≤ m) (h : a ≤ K) : k + a ≤ m := by omega
theorem mk_ns {L : Int} {n a N m : Nat} (h : 0 ≤ L ∧ L < 16) (hn : n + N ≤ m) (h2 : a + 16 ≤ N) : n + a + L.toNat ≤ m := by omega
theorem mk_n16 {L : Int} {n a : Nat} (h : 0 ≤ L ∧ L < 16) : n + a + L.toNat ≤ n + (a + 16) := by omega
theorem mk_ad {k a b : Nat} (h : a ≤ b) : k + a ≤ k + b := by omega
abbrev sx (xs : Nat → Int32) (m : Nat) : Int := (xs m).toInt
def LSc (X : xX) (b L : Nat) (xs : Nat → Int32) : Prop := va_X b L xs X.S X.S.heap ∧ b < X.S.heap.size ∧ L ≤ 3584
theorem sx_ix {a : Int} {L : Nat} (h : 0 ≤ a ∧ a < (L : Int)) : a = ((a.toNat : Nat) : Int) := by omega
theorem sx_lt {a : Int} {L : Nat} (h : 0 ≤ a ∧ a < (L : Int)) : a.toNat < L := by omega
theorem sx_in {X : xX} {b L : Nat} {xs : Nat → Int32} (h : LSc X b L xs) : xin (L : Int) := by
  have := h.2.2
  exact ⟨by omega, by omega⟩
section XR
variable {X : xX} {y : xM} {d mc ms : Nat} {V : xT} {pc : Nat} {lo : List (Nat × xV)} {st : List xV} {h : xS} {k n : Nat} {c : xCx} {I : xIn}
theorem LSc.at {b L : Nat} {xs : Nat → Int32} {s : State} (hs : LSc X b L xs) (hB : xB X s) : va_X b L xs s s.heap ∧ b < s.heap.size ∧ ¬ xA X b :=
  ⟨(va_X.moved hB.1.alike hs.1).kept (hB.2.2 b hs.2.1), Nat.lt_of_lt_of_le hs.2.1 hB.2.1, Nat.not_le.mpr hs.2.1⟩
theorem x_sld (hV : xEng X y d mc ms V) {b L : Nat} {xs : Nat → Int32} (hs : LSc X b L xs) {a : Int} {m : Nat} (hd : decode y.2.1 pc = .ok (.iaload, 1)) (hA : c.2.2.2 (2, 9) = b) (ha : a = (m : Int)) (hm : m < L) (kk : V (pc + 1) lo (xi (sx xs m) :: st) (I, xst c) k n) : V pc lo (xi a :: xr (2, 9) :: st) (I, xst c) k n := by
  obtain ⟨hX, p, e, s, m0, args, below, meth, c0, Q, ⟨hx, hb, hml, hown, hlk, hrt, htb, hnm, hB⟩, rfl⟩ := hV
  intro H locs ls hP hD hS hl
  obtain ⟨h1, h2, h3⟩ := hs.at hB
  have hL := hs.2.2
  have := kk H locs ls hP hD hS hl
  show W p X.1 e (xrm d mc ms) s m0 args below meth c0 H locs k n Q (F0 m0 pc ls (.int (Int32.ofInt a) :: .ref (c.2.2.2 (2, 9)) :: st.map (xc c.2.2.2)))
  rw [hA]
  refine va_sld hx hb h1 h2 h3 hS (xo_in (by omega) (by omega) (by omega)) hd ?_
  rw [xo_cl (by omega) (by omega), ha, Int.toNat_natCast]
  have e9 : xc c.2.2.2 (xi (sx xs m)) = .int (xs m) := by show Value.int (Int32.ofInt (xs m).toInt) = _; rw [Int32.ofInt_toInt]
  have this : W p X.1 e (xrm d mc ms) s m0 args below meth c0 H locs k n Q (F0 m0 (pc + 1) ls (xc c.2.2.2 (xi (sx xs m)) :: st.map (xc c.2.2.2))) := this
  rw [e9] at this
  exact this
theorem x_slen (hV : xEng X y d mc ms V) {b L : Nat} {xs : Nat → Int32} (hs : LSc X b L xs) (hd : decode y.2.1 pc = .ok (.arraylength, 1)) (hA : c.2.2.2 (2, 9) = b) (kk : V (pc + 1) lo (xi (L : Int) :: st) (I, xst c) k n) : V pc lo (xr (2, 9) :: st) (I, xst c) k n := by
  obtain ⟨hX, p, e, s, m0, args, below, meth, c0, Q, ⟨hx, hb, hml, hown, hlk, hrt, htb, hnm, hB⟩, rfl⟩ := hV
  intro H locs ls hP hD hS hl
  obtain ⟨h1, h2, h3⟩ := hs.at hB
  have := kk H locs ls hP hD hS hl
  show W p X.1 e (xrm d mc ms) s m0 args below meth c0 H locs k n Q (F0 m0 pc ls (.ref (c.2.2.2 (2, 9)) :: st.map (xc c.2.2.2)))
  rw [hA]
  refine va_slen hx hb h1 h2 h3 hS hd ?_
  have e9 : xc c.2.2.2 (xi (L : Int)) = .int (Int32.ofNat L) := by show Value.int (Int32.ofInt (L : Int)) = _; rw [Int32.ofInt_eq_ofNat]
  have this : W p X.1 e (xrm d mc ms) s m0 args below meth c0 H locs k n Q (F0 m0 (pc + 1) ls (xc c.2.2.2 (xi (L : Int)) :: st.map (xc c.2.2.2))) := this
  rw [e9] at this
  exact this
variable {α β : Type} {res : α → Option xV} {res9 : β → Option xV} {P : α → xIn → Prop} {E E9 : String → xIn → Prop} {P9 : β → xIn → Prop}
theorem x_crC (hV : xEng X y d mc ms V) {z : xM} {na d9 mc9 ms9 : Nat} {as : List xV} {ins : Instr} {q : xP} {ci N : Nat} {T : u_T} (hd : decode y.2.1 pc = .ok (ins, 3)) (hpl : xPl z na) (hlk : xLk y.1.cls ins z true) (hal : as.length = na) (hq : q ∈ lvL c.1 c.2.1) (hkd : kd q = (0, ci)) (hcl : vwCl[ci]? = some (z.1.cls, T, N)) (hd9 : d9 + 1 ≤ d) (hk : k + mc9 ≤ mc) (hn : n + ms9 ≤ ms) (hst : (st.map fun v => (xc c.2.2.2 v).category).sum ≤ 8) (hM : xRet res9 X z d9 (xr q :: as) c I mc9 ms9 P9 E9)
    (hx : ∀ e I9, E9 e I9 → ∃ i hp : Nat, xHn y pc e i hp ∧ V hp (xdel i lo) [] (I9, xst c) (k + mc9) (n + ms9)) (kk : ∀ a I9, P9 a I9 → V (pc + 3) lo ((res9 a).toList ++ st) (I9, xst c) (k + mc9) (n + ms9)) : V pc lo ((xr q :: as).reverse ++ st) (I, xst c) k n := by
  refine x_callVC hV hM hd hpl hlk hal hq hkd hcl hd9 hk hn hst ?_ ?_
  · rintro e h9 ⟨I9, rfl, ⟨a, ha, -⟩ | ⟨e, he0, he⟩⟩
    · cases ha
    · cases he0
      obtain ⟨i, hp, h1, h2⟩ := hx _ I9 he
      exact ⟨i, hp, h1, xsame_A rfl, h2⟩
  · rintro r h9 ⟨I9, rfl, ⟨a, ha, hp⟩ | ⟨e, he, -⟩⟩
    · cases ha
      exact ⟨xsame_A rfl, kk a I9 hp⟩
    · cases he
end XR
