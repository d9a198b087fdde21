/-! standard states: c = (how many nets, longs, doubles, addresses) -/
abbrev xCx : Type := Nat × List xP × (xP → Nat → Option xP) × (xP → Nat)
def xst (c : xCx) : (xP → Nat → Option xP) × (xP → Nat → Int64) × (xP → Nat → UInt64) × List xP × (xP → Nat) := (rst c.1 c.2.2.1, fun _ _ => 0, fun _ _ => 0, lvL c.1 c.2.1, c.2.2.2)
abbrev xIn : Type := xP → Nat → Int
theorem lvm0 (N : Nat) {l : List xP} {j : Nat} (hj : j < 36) : ((0, j) : xP) ∈ lvL N l := List.mem_append_left _ (List.mem_map.mpr ⟨j, List.mem_range.mpr hj, rfl⟩)
theorem lvmN {N : Nat} {l : List xP} {i j : Nat} (hi : i < N) (hj : j < 7) : ((i + 3, j) : xP) ∈ lvL N l := List.mem_append_right _ (List.mem_append_left _ (List.mem_flatMap.mpr ⟨i, List.mem_range.mpr hi, List.mem_map.mpr ⟨j, List.mem_range.mpr hj, rfl⟩⟩))
theorem lvmX {N : Nat} {l : List xP} {p : xP} (hp : p ∈ l) : p ∈ lvL N l := List.mem_append_right _ (List.mem_append_right _ hp)
theorem rst_net {N i k : Nat} {f : xP → Nat → Option xP} {t : xP} (hi : i < N) (h : rfN i 0 k = some t) : rst N f (i + 3, 0) k = some t := by
  show (if i < N then rfN i 0 k else none) = some t
  rw [if_pos hi, h]
def xbi : Bool → Int
  | true => 1
  | false => 0
theorem xbi_in (b : Bool) : xin (xbi b) := by cases b <;> exact ⟨by decide, by decide⟩
theorem xbi_0 {b : Bool} : xbi b = 0 ↔ b = false := by cases b <;> decide
theorem xbi_n0 {b : Bool} : xbi b ≠ 0 ↔ b = true := by cases b <;> decide
theorem xbi_eq {a b : Bool} : xbi a = xbi b ↔ a = b := by cases a <;> cases b <;> decide
theorem xbi_01 (b : Bool) : xbi b = 0 ∨ xbi b = 1 := by cases b <;> decide
def rI (v : Int) : Option xV := some (xi v)
def rB (b : Bool) : Option xV := some (xi (xbi b))
def rU (_ : Unit) : Option xV := none
def rL (v : Int64) : Option xV := some (xl v)
def rF (v : UInt32) : Option xV := some (xf v)
def rD (v : UInt64) : Option xV := some (xd v)
def rN (i : Nat) : Option xV := some (xr (i + 3, 0))
/-- how a method may end: with a P, or by an exception e with E -/
def xPost {α : Type} (res : α → Option xV) (c : xCx) (P : α → xIn → Prop) (E : String → xIn → Prop) : xO → xS → Prop := fun o h9 => ∃ I9 : xIn, h9 = (I9, xst c) ∧ ((∃ a, o = .inl (res a) ∧ P a I9) ∨ ∃ e, o = .inr e ∧ E e I9)
def xRet {α : Type} (res : α → Option xV) (X : xX) (z : xM) (d : Nat) (av : List xV) (c : xCx) (I : xIn) (mc ms : Nat) (P : α → xIn → Prop) (E : String → xIn → Prop) : Prop := xMet X z d av (I, xst c) mc ms (xPost res c P E)
def xNo : String → xIn → Prop := fun _ _ => False
theorem xRet_of {α : Type} {res : α → Option xV} {X : xX} {y : xM} {na d mc ms : Nat} {av : List xV} {c : xCx} {I : xIn} {P : α → xIn → Prop} {E : String → xIn → Prop} (hX : xBase X) (hp : xPl y na) (hsz : (av.map fun v => if x2 v then 2 else 1).sum ≤ y.2.2.1) (body : ∀ V : xT, xEnd X y d mc ms (xPost res c P E) V → V 0 (xargs 0 av) [] (I, xst c) 0 0) : xRet res X y d av c I mc ms P E := xMet_of hX hp.1 (fun w hw => (hp.2.2.1 w hw).1) hsz body
section XR
variable {X : xX} {y : xM} {d mc ms : Nat} {V : xT} {pc : Nat} {lo : List (Nat × xV)} {st : List xV} {h : xS} {k n : Nat} {α β : Type} {res : α → Option xV} {res9 : β → Option xV} {P : α → xIn → Prop} {E E9 : String → xIn → Prop} {P9 : β → xIn → Prop} {c : xCx} {I : xIn}
theorem x_cr (hV : xEng X y d mc ms V) {z : xM} {na d9 mc9 ms9 : Nat} {as : List xV} {ins : Instr} {q : xP} {ci N : Nat} {T : u_T} (hd : decode y.2.1 pc = .ok (ins, 3)) (hpl : xPl z na) (hlk : xLk y.1.cls ins z true) (hal : as.length = na) (hq : q ∈ lvL c.1 c.2.1) (hkd : kd q = (0, ci)) (hcl : vwCl[ci]? = some (z.1.cls, T, N)) (hd9 : d9 + 1 ≤ d) (hk : k + mc9 ≤ mc) (hn : n + ms9 ≤ ms) (hst : (st.map fun v => (xc c.2.2.2 v).category).sum ≤ 8) (hM : xRet res9 X z d9 (xr q :: as) c I mc9 ms9 P9 xNo) (kk : ∀ a I9, P9 a I9 → V (pc + 3) lo ((res9 a).toList ++ st) (I9, xst c) (k + mc9) (n + ms9)) : V pc lo ((xr q :: as).reverse ++ st) (I, xst c) k n := by
  refine x_callV hV hM hd hpl hlk hal hq hkd hcl hd9 hk hn hst ?_ ?_
  · rintro e h9 ⟨I9, -, ⟨a, ha, -⟩ | ⟨e, -, he⟩⟩
    · cases ha
    · exact he
  · rintro r h9 ⟨I9, rfl, ⟨a, ha, hp⟩ | ⟨e, he, -⟩⟩
    · cases ha
      exact ⟨xsame_A rfl, kk a I9 hp⟩
    · cases he
theorem x_cs (hV : xEng X y d mc ms V) {z : xM} {na d9 mc9 ms9 : Nat} {as : List xV} {ins : Instr} (hd : decode y.2.1 pc = .ok (ins, 3)) (hpl : xPl z na) (hlk : xLk y.1.cls ins z false) (hal : as.length = na) (hd9 : d9 + 1 ≤ d) (hk : k + mc9 ≤ mc) (hn : n + ms9 ≤ ms) (hst : (st.map fun v => (xc c.2.2.2 v).category).sum ≤ 8) (hM : xRet res9 X z d9 as c I mc9 ms9 P9 xNo) (kk : ∀ a I9, P9 a I9 → V (pc + 3) lo ((res9 a).toList ++ st) (I9, xst c) (k + mc9) (n + ms9)) : V pc lo (as.reverse ++ st) (I, xst c) k n := by
  refine x_callS hV hM hd hpl hlk hal hd9 hk hn hst ?_ ?_
  · rintro e h9 ⟨I9, -, ⟨a, ha, -⟩ | ⟨e, -, he⟩⟩
    · cases ha
    · exact he
  · rintro r h9 ⟨I9, rfl, ⟨a, ha, hp⟩ | ⟨e, he, -⟩⟩
    · cases ha
      exact ⟨xsame_A rfl, kk a I9 hp⟩
    · cases he
theorem x_crT (hV : xEnd X y d mc ms (xPost res c P E) V) {z : xM} {na d9 mc9 ms9 : Nat} {as : List xV} {ins : Instr} {q : xP} {ci N : Nat} {T : u_T} (hd : decode y.2.1 pc = .ok (ins, 3)) (hpl : xPl z na) (hlk : xLk y.1.cls ins z true) (hal : as.length = na) (hq : q ∈ lvL c.1 c.2.1) (hkd : kd q = (0, ci)) (hcl : vwCl[ci]? = some (z.1.cls, T, N)) (hd9 : d9 + 1 ≤ d) (hk : k + mc9 ≤ mc) (hn : n + ms9 ≤ ms) (hst : (st.map fun v => (xc c.2.2.2 v).category).sum ≤ 8) (hh0 : y.2.2.2.2 = []) (hM : xRet res9 X z d9 (xr q :: as) c I mc9 ms9 P9 E9) (hx : ∀ e I9, E9 e I9 → E e I9) (kk : ∀ a I9, P9 a I9 → V (pc + 3) lo ((res9 a).toList ++ st) (I9, xst c) (k + mc9) (n + ms9)) : V pc lo ((xr q :: as).reverse ++ st) (I, xst c) k n := by
  refine x_callVT hV hM hd hpl hlk hal hq hkd hcl hd9 hk hn hst hh0 ?_ ?_
  · rintro e h9 ⟨I9, rfl, ⟨a, ha, -⟩ | ⟨e, he0, he⟩⟩
    · cases ha
    · exact ⟨I9, rfl, Or.inr ⟨e, he0, hx e I9 he⟩⟩
  · rintro r h9 ⟨I9, rfl, ⟨a, ha, hp⟩ | ⟨e, he, -⟩⟩
    · cases ha
      exact ⟨xsame_A rfl, kk a I9 hp⟩
    · cases he
theorem x_csT (hV : xEnd X y d mc ms (xPost res c P E) V) {z : xM} {na d9 mc9 ms9 : Nat} {as : List xV} {ins : Instr} (hd : decode y.2.1 pc = .ok (ins, 3)) (hpl : xPl z na) (hlk : xLk y.1.cls ins z false) (hal : as.length = na) (hd9 : d9 + 1 ≤ d) (hk : k + mc9 ≤ mc) (hn : n + ms9 ≤ ms) (hst : (st.map fun v => (xc c.2.2.2 v).category).sum ≤ 8) (hh0 : y.2.2.2.2 = []) (hM : xRet res9 X z d9 as c I mc9 ms9 P9 E9) (hx : ∀ e I9, E9 e I9 → E e I9) (kk : ∀ a I9, P9 a I9 → V (pc + 3) lo ((res9 a).toList ++ st) (I9, xst c) (k + mc9) (n + ms9)) : V pc lo (as.reverse ++ st) (I, xst c) k n := by
  refine x_callST hV hM hd hpl hlk hal hd9 hk hn hst hh0 ?_ ?_
  · rintro e h9 ⟨I9, rfl, ⟨a, ha, -⟩ | ⟨e, he0, he⟩⟩
    · cases ha
    · exact ⟨I9, rfl, Or.inr ⟨e, he0, hx e I9 he⟩⟩
  · rintro r h9 ⟨I9, rfl, ⟨a, ha, hp⟩ | ⟨e, he, -⟩⟩
    · cases ha
      exact ⟨xsame_A rfl, kk a I9 hp⟩
    · cases he
/-! ends in these words -/
theorem x_eI {P : Int → xIn → Prop} (hV : xEnd X y d mc ms (xPost rI c P E) V) {v : Int} (hd : decode y.2.1 pc = .ok (.ireturn, 1)) (hr : y.2.2.2.1 = some .int) (hk : k ≤ mc) (hn : n ≤ ms) (hp : P v I) : V pc lo [xi v] (I, xst c) k n := x_reti hV hd hr hk hn ⟨I, rfl, Or.inl ⟨v, rfl, hp⟩⟩
theorem x_eB {P : Bool → xIn → Prop} (hV : xEnd X y d mc ms (xPost rB c P E) V) {b : Bool} (hd : decode y.2.1 pc = .ok (.ireturn, 1)) (hr : y.2.2.2.1 = some .boolean) (hk : k ≤ mc) (hn : n ≤ ms) (hp : P b I) : V pc lo [xi (xbi b)] (I, xst c) k n := x_retz hV hd hr hk hn (xbi_01 b) ⟨I, rfl, Or.inl ⟨b, rfl, hp⟩⟩
theorem x_eU {P : Unit → xIn → Prop} (hV : xEnd X y d mc ms (xPost rU c P E) V) (hd : decode y.2.1 pc = .ok (.return_, 1)) (hr : y.2.2.2.1 = none) (hk : k ≤ mc) (hn : n ≤ ms) (hp : P () I) : V pc lo [] (I, xst c) k n := x_retv hV hd hr hk hn ⟨I, rfl, Or.inl ⟨(), rfl, hp⟩⟩
theorem x_eL {P : Int64 → xIn → Prop} (hV : xEnd X y d mc ms (xPost rL c P E) V) {v : Int64} (hd : decode y.2.1 pc = .ok (.lreturn, 1)) (hr : y.2.2.2.1 = some .long) (hk : k ≤ mc) (hn : n ≤ ms) (hp : P v I) : V pc lo [xl v] (I, xst c) k n := x_retl hV hd hr hk hn ⟨I, rfl, Or.inl ⟨v, rfl, hp⟩⟩
theorem x_eF {P : UInt32 → xIn → Prop} (hV : xEnd X y d mc ms (xPost rF c P E) V) {v : UInt32} (hd : decode y.2.1 pc = .ok (.freturn, 1)) (hr : y.2.2.2.1 = some .float) (hk : k ≤ mc) (hn : n ≤ ms) (hp : P v I) : V pc lo [xf v] (I, xst c) k n := x_retf hV hd hr hk hn ⟨I, rfl, Or.inl ⟨v, rfl, hp⟩⟩
theorem x_eD {P : UInt64 → xIn → Prop} (hV : xEnd X y d mc ms (xPost rD c P E) V) {v : UInt64} (hd : decode y.2.1 pc = .ok (.dreturn, 1)) (hr : y.2.2.2.1 = some .double) (hk : k ≤ mc) (hn : n ≤ ms) (hp : P v I) : V pc lo [xd v] (I, xst c) k n := x_retd hV hd hr hk hn ⟨I, rfl, Or.inl ⟨v, rfl, hp⟩⟩
theorem x_eN {P : Nat → xIn → Prop} (hV : xEnd X y d mc ms (xPost rN c P E) V) {i : Nat} {C : String} (hd : decode y.2.1 pc = .ok (.areturn, 1)) (hr : y.2.2.2.1 = some (.object C)) (hk : k ≤ mc) (hn : n ≤ ms) (hp : P i I) : V pc lo [xr (i + 3, 0)] (I, xst c) k n := x_reta hV hd hr hk hn ⟨I, rfl, Or.inl ⟨i, rfl, hp⟩⟩
theorem x_eX (hV : xEnd X y d mc ms (xPost res c P E) V) {ik is ic : Nat} {e tx : String} (ht : xThr y.1.cls ik ic e) (hs : Cond.stringRef y.1.cls is tx ∈ lw_tbl) (hh0 : y.2.2.2.2 = [])
    (hdd : (decode y.2.1 pc = .ok (.new ik, 3) ∧ decode y.2.1 (pc + 3) = .ok (.dup, 1)) ∧ ((decode y.2.1 (pc + 4) = .ok (.ldc is, 2) ∧ decode y.2.1 (pc + 6) = .ok (.invokespecial ic, 3) ∧ decode y.2.1 (pc + 9) = .ok (.athrow, 1)) ∨ (decode y.2.1 (pc + 4) = .ok (.ldc_w is, 3) ∧ decode y.2.1 (pc + 7) = .ok (.invokespecial ic, 3) ∧ decode y.2.1 (pc + 10) = .ok (.athrow, 1))))
    (hd : 7 ≤ d) (hst : (st.map fun v => (xc c.2.2.2 v).category).sum ≤ 8) (hk : k + 1 ≤ mc) (hn : n + 6 ≤ ms) (hp : E e I) : V pc lo st (I, xst c) k n := x_throw0 hV ht hs hh0 hdd hd hst hk hn ⟨I, rfl, Or.inr ⟨e, rfl, hp⟩⟩
/-! branches on booleans, locals put in order, an array of nets -/
theorem x_ifb_eq (hV : xEng X y d mc ms V) {b : Bool} {off : Int} {tgt : Nat} (hd : decode y.2.1 pc = .ok (.ifCond .eq off, 3)) (ht : (pc : Int) + off = (tgt : Int)) (k1 : b = false → V tgt lo st h k n) (k2 : b = true → V (pc + 3) lo st h k n) : V pc lo (xi (xbi b) :: st) h k n := x_if_eq hV hd ht (xbi_in b) (fun z => k1 (xbi_0.mp z)) (fun z => k2 (xbi_n0.mp z))
theorem x_ifb_ne (hV : xEng X y d mc ms V) {b : Bool} {off : Int} {tgt : Nat} (hd : decode y.2.1 pc = .ok (.ifCond .ne off, 3)) (ht : (pc : Int) + off = (tgt : Int)) (k1 : b = true → V tgt lo st h k n) (k2 : b = false → V (pc + 3) lo st h k n) : V pc lo (xi (xbi b) :: st) h k n := x_if_ne hV hd ht (xbi_in b) (fun z => k1 (xbi_n0.mp z)) (fun z => k2 (xbi_0.mp z))
theorem x_icb_ne (hV : xEng X y d mc ms V) {a b : Bool} {off : Int} {tgt : Nat} (hd : decode y.2.1 pc = .ok (.if_icmp .ne off, 3)) (ht : (pc : Int) + off = (tgt : Int)) (k1 : a ≠ b → V tgt lo st h k n) (k2 : a = b → V (pc + 3) lo st h k n) : V pc lo (xi (xbi b) :: xi (xbi a) :: st) h k n := x_icmp_ne hV hd ht (xbi_in a) (xbi_in b) (fun z => k1 (fun w => z (xbi_eq.mpr w))) (fun z => k2 (xbi_eq.mp z))
theorem x_icb_eq (hV : xEng X y d mc ms V) {a b : Bool} {off : Int} {tgt : Nat} (hd : decode y.2.1 pc = .ok (.if_icmp .eq off, 3)) (ht : (pc : Int) + off = (tgt : Int)) (k1 : a = b → V tgt lo st h k n) (k2 : a ≠ b → V (pc + 3) lo st h k n) : V pc lo (xi (xbi b) :: xi (xbi a) :: st) h k n := x_icmp_eq hV hd ht (xbi_in a) (xbi_in b) (fun z => k1 (xbi_eq.mp z)) (fun z => k2 (fun w => z (xbi_eq.mpr w)))
theorem x_loc (hV : xEng X y d mc ms V) (ks : List Nat) {lo9 : List (Nat × xV)} (hl9 : ks.filterMap (fun i => lo[i]?) = lo9) (kk : V pc lo9 st h k n) : V pc lo st h k n := by
  obtain ⟨hX, p, e, s, m, args, below, meth, c, Q, hA, rfl⟩ := hV
  intro H locs ls hP hD hS hl
  refine kk H locs ls hP hD hS ⟨hl.1, hl.2.1, fun q hq => ?_⟩
  obtain ⟨z, hz, rfl⟩ := List.mem_map.mp hq
  rw [← hl9] at hz
  obtain ⟨i, -, hi⟩ := List.mem_filterMap.mp hz
  exact hl.2.2 _ (List.mem_map_of_mem (List.mem_of_getElem? hi))
theorem x_more (hV : xEng X y d mc ms V) {k9 n9 : Nat} (h1 : k ≤ k9) (h2 : n ≤ n9) (kk : V pc lo st h k9 n9) : V pc lo st h k n := by
  obtain ⟨hX, p, e, s, m, args, below, meth, c, Q, hA, rfl⟩ := hV
  intro H locs ls hP hD hS hl
  exact W.widen h1 h2 (kk H locs ls hP hD hS hl)
theorem x_netload (hV : xEng X y d mc ms V) {a : Int} (hd : decode y.2.1 pc = .ok (.aaload, 1)) (h0 : 0 ≤ a) (h1 : a < 4) (k1 : ∀ i : Nat, i < c.1 → a = (i : Int) → V (pc + 1) lo (xr (i + 3, 0) :: st) (I, xst c) k n) (k2 : (c.1 : Int) ≤ a → V (pc + 1) lo (xz :: st) (I, xst c) k n) : V pc lo (xi a :: xr (0, 1) :: st) (I, xst c) k n := by
  obtain ⟨j, rfl⟩ := Int.eq_ofNat_of_zero_le h0
  by_cases hj : j < c.1
  · exact x_aaload (t := some (j + 3, 0)) hV hd rfl (lvm0 c.1 (by decide)) h0 h1 (if_pos hj) (k1 j hj rfl)
  · exact x_aaload (t := none) hV hd rfl (lvm0 c.1 (by decide)) h0 h1 (if_neg hj) (k2 (by omega))
end XR
theorem xin_ti (x : Int32) : xin x.toInt := ⟨Int32.le_toInt x, by have := Int32.toInt_lt x; omega⟩
theorem xin_of {x v : Int} (h : x = v) (hv : xin v) : xin x := h ▸ hv
theorem x_nm {α : Sort _} {v : α} {Q : α → Prop} (f : ∀ x, x = v → Q x) : Q v := f v rfl
theorem x_in {X : xX} {y : xM} {d mc ms : Nat} {V : xT} {pc : Nat} {lo : List (Nat × xV)} {st : List xV} {I : xIn} {c : xCx} {k n : Nat} (hV : xEng X y d mc ms V) (kk : (∀ (q : xP) (j : Nat), xin (I q j)) → V pc lo st (I, xst c) k n) : V pc lo st (I, xst c) k n := by
  obtain ⟨hX, p, e, s, m, args, below, meth, c, Q, hA, rfl⟩ := hV
  intro H locs ls hP hD hS hl
  exact kk hD.2 H locs ls hP hD hS hl
section XR
variable {X : xX} {y : xM} {d mc ms : Nat} {V : xT} {pc : Nat} {lo : List (Nat × xV)} {st : List xV} {h : xS} {k n : Nat}
theorem x_ifnullN (hV : xEng X y d mc ms V) {off : Int} {tgt : Nat} (hd : decode y.2.1 pc = .ok (.ifnull off, 3)) (ht : (pc : Int) + off = (tgt : Int)) (kk : V tgt lo st h k n) : V pc lo (xz :: st) h k n := by
  obtain ⟨hX, p, e, s, m, args, below, meth, c, Q, ⟨hx, hb, hml, hown, hlk, hrt, htb, hnm, hB⟩, rfl⟩ := hV
  intro H locs ls hP hD hS hl
  exact lv_ifnullN hx hb hd ht (kk H locs ls hP hD hS hl)
theorem x_ldc_w (hV : xEng X y d mc ms V) {i : Nat} {v : Int} (hd : decode y.2.1 pc = .ok (.ldc_w i, 3)) (hw : Cond.constant y.1.cls i (Int32.ofInt v) ∈ lw_tbl) (kk : V (pc + 3) lo (xi v :: st) h k n) : V pc lo st h k n := by
  obtain ⟨hX, p, e, s, m, args, below, meth, c, Q, ⟨hx, hb, hml, hown, hlk, hrt, htb, hnm, hB⟩, rfl⟩ := hV
  intro H locs ls hP hD hS hl
  exact lv_ldcw hx hb hown (xB.word hX hB hw rfl) hd (kk H locs ls hP hD hS hl)
theorem x_aload_nN (hV : xEng X y d mc ms V) {i : Fin 4} {j : Nat} (hd : decode y.2.1 pc = .ok (.aload_n i, 1)) (hk : lo[j]? = some ((i : Nat), xz)) (kk : V (pc + 1) lo (xz :: st) h k n) : V pc lo st h k n := by
  obtain ⟨hX, p, e, s, m, args, below, meth, c, Q, ⟨hx, hb, hml, hown, hlk, hrt, htb, hnm, hB⟩, rfl⟩ := hV
  intro H locs ls hP hD hS hl
  exact lv_aload_nN hx hb hd rfl (lv_at hl j (by rw [List.getElem?_map, hk]; rfl)) (kk H locs ls hP hD hS hl)
theorem x_astore_nN (hV : xEng X y d mc ms V) {i : Fin 4} {lo9 : List (Nat × xV)} (hd : decode y.2.1 pc = .ok (.astore_n i, 1)) (hn : (i : Nat) < y.2.2.1) (hl9 : xput i xz lo = lo9) (kk : V (pc + 1) lo9 st h k n) : V pc lo (xz :: st) h k n := by
  obtain ⟨hX, p, e, s, m, args, below, meth, c, Q, ⟨hx, hb, hml, hown, hlk, hrt, htb, hnm, hB⟩, rfl⟩ := hV
  intro H locs ls hP hD hS hl
  exact lv_astore_nN hx hb hd rfl hl hn (by rw [← hl9, xput_map]; rfl) (fun ls hl => kk H locs ls hP hD hS hl)
end XR
