def xsame (h h9 : xS) (lo : List (Nat × xV)) (st : List xV) : Prop := (lo.map fun q => (q.1, xc h9.A q.2)) = (lo.map fun q => (q.1, xc h.A q.2)) ∧ st.map (xc h9.A) = st.map (xc h.A)
theorem xsame_A {h h9 : xS} {lo : List (Nat × xV)} {st : List xV} (hA : h9.A = h.A) : xsame h h9 lo st := by
  unfold xsame
  rw [hA]
  exact ⟨rfl, rfl⟩
/-- a thrown E at pc is caught in y, and v handed back -/
def xHnd (y : xM) (pc : Nat) (E : String) (v : Int) : Prop := ∃ (pre : List ExceptionTableEntry) (x : ExceptionTableEntry) (suf : List ExceptionTableEntry), tableOf y.2.2.2.2 = pre ++ x :: suf ∧ (∀ z ∈ pre, covers z pc = false ∨ (z.catchType ≠ 0 ∧ ∃ nm : String, Cond.classLink y.1.cls z.catchType nm ∈ lw_tbl ∧ (E, nm) ∈ xnc)) ∧ covers x pc = true ∧ x.catchType ≠ 0 ∧
  (∃ nm : String, Cond.classLink y.1.cls x.catchType nm ∈ lw_tbl ∧ Cond.castable E nm ∈ lw_tbl) ∧ y.2.2.2.1 = some .int ∧ ∃ (i : Nat) (ln : Nat), ((∃ j : Fin 4, i = j ∧ ln = 1 ∧ decode y.2.1 x.handlerPc = .ok (.astore_n j, 1)) ∨ (ln = 2 ∧ decode y.2.1 x.handlerPc = .ok (.astore i, 2))) ∧ i < y.2.2.1 ∧ decode y.2.1 (x.handlerPc + ln) = .ok (.iconst v, 1) ∧ decode y.2.1 (x.handlerPc + ln + 1) = .ok (.ireturn, 1)
section XR
variable {X : xX} {y : xM} {d mc ms : Nat} {V : xT} {pc : Nat} {lo : List (Nat × xV)} {st : List xV} {h : xS} {k n : Nat} {post : xO → xS → Prop}
theorem x_callV (hV : xEng X y d mc ms V) {z : xM} {na d9 mc9 ms9 : Nat} {as : List xV} {ps : xO → xS → Prop} {ins : Instr} {q : xP} {ci N : Nat} {T : u_T} (hM : xMet X z d9 (xr q :: as) h mc9 ms9 ps) (hd : decode y.2.1 pc = .ok (ins, 3)) (hpl : xPl z na) (hlk : xLk y.1.cls ins z true) (hal : as.length = na) (hq : q ∈ h.L) (hkd : kd q = (0, ci)) (hcl : vwCl[ci]? = some (z.1.cls, T, N)) (hd9 : d9 + 1 ≤ d) (hk : k + mc9 ≤ mc) (hn : n + ms9 ≤ ms) (hst : (st.map fun v => (xc h.A v).category).sum ≤ 8) (hx9 : ∀ (E : String) (h9 : xS), ps (.inr E) h9 → False) (kk : ∀ (r : Option xV) (h9 : xS), ps (.inl r) h9 → xsame h h9 lo st ∧ V (pc + 3) lo (r.toList ++ st) h9 (k + mc9) (n + ms9)) : V pc lo ((xr q :: as).reverse ++ st) h k n := by
  obtain ⟨hX, p, e, s, m, args, below, meth, c, Q, hA, rfl⟩ := hV
  obtain ⟨hx, hb, hml, hown, hlk9, hrt, htb, hnm, hB⟩ := id hA
  intro H locs ls hP hD hS hl
  refine x_ran hS (x_runs (av := (xr q :: as)) (rv := true) hX hA hP hD hS hl.1 hM hpl hlk (fun _ => ⟨q, as, ci, N, T, rfl, hal, hq, hkd, hcl⟩) (fun z => by cases z) hd9 hk hn hst hd) (fun E h9 H1 locs1 q9 ce hp gP gD gS hce hcv hcl9 => ?_) (fun r h9 H1 locs1 hp gP gD gS => ?_)
  · exact (hx9 E h9 hp).elim
  · obtain ⟨⟨e1, e2⟩, k9⟩ := kk r h9 hp
    have := k9 H1 locs1 ls gP gD gS (by rw [e1]; exact hl)
    rw [List.map_append, e2] at this
    cases r <;> exact this
theorem x_callVT (hV : xEnd X y d mc ms post V) {z : xM} {na d9 mc9 ms9 : Nat} {as : List xV} {ps : xO → xS → Prop} {ins : Instr} {q : xP} {ci N : Nat} {T : u_T} (hM : xMet X z d9 (xr q :: as) h mc9 ms9 ps) (hd : decode y.2.1 pc = .ok (ins, 3)) (hpl : xPl z na) (hlk : xLk y.1.cls ins z true) (hal : as.length = na) (hq : q ∈ h.L) (hkd : kd q = (0, ci)) (hcl : vwCl[ci]? = some (z.1.cls, T, N)) (hd9 : d9 + 1 ≤ d) (hk : k + mc9 ≤ mc) (hn : n + ms9 ≤ ms) (hst : (st.map fun v => (xc h.A v).category).sum ≤ 8) (hh0 : y.2.2.2.2 = []) (hx9 : ∀ (E : String) (h9 : xS), ps (.inr E) h9 → post (.inr E) h9) (kk : ∀ (r : Option xV) (h9 : xS), ps (.inl r) h9 → xsame h h9 lo st ∧ V (pc + 3) lo (r.toList ++ st) h9 (k + mc9) (n + ms9)) : V pc lo ((xr q :: as).reverse ++ st) h k n := by
  obtain ⟨hX, p, e, s, m, args, below, meth, c, hA, rfl⟩ := hV
  obtain ⟨hx, hb, hml, hown, hlk9, hrt, htb, hnm, hB⟩ := id hA
  intro H locs ls hP hD hS hl
  refine x_ran hS (x_runs (av := (xr q :: as)) (rv := true) hX hA hP hD hS hl.1 hM hpl hlk (fun _ => ⟨q, as, ci, N, T, rfl, hal, hq, hkd, hcl⟩) (fun z => by cases z) hd9 hk hn hst hd) (fun E h9 H1 locs1 q9 ce hp gP gD gS hce hcv hcl9 => ?_) (fun r h9 H1 locs1 hp gP gD gS => ?_)
  · exact vx_out (mc := mc) (ms := ms) (fun x hx8 => by rw [htb, hh0] at hx8; cases hx8) hlk9 hce hcv hcl9 (fun t ht _ => ⟨h9, hx9 E h9 hp, ⟨by rw [ht]; exact gP, gD⟩, by rw [va_F, ht]; exact ⟨gS.1, gS.2.1⟩⟩) gS.2.2 hk hn
  · obtain ⟨⟨e1, e2⟩, k9⟩ := kk r h9 hp
    have := k9 H1 locs1 ls gP gD gS (by rw [e1]; exact hl)
    rw [List.map_append, e2] at this
    cases r <;> exact this
theorem x_callS (hV : xEng X y d mc ms V) {z : xM} {na d9 mc9 ms9 : Nat} {as : List xV} {ps : xO → xS → Prop} {ins : Instr} (hM : xMet X z d9 as h mc9 ms9 ps) (hd : decode y.2.1 pc = .ok (ins, 3)) (hpl : xPl z na) (hlk : xLk y.1.cls ins z false) (hal : as.length = na) (hd9 : d9 + 1 ≤ d) (hk : k + mc9 ≤ mc) (hn : n + ms9 ≤ ms) (hst : (st.map fun v => (xc h.A v).category).sum ≤ 8) (hx9 : ∀ (E : String) (h9 : xS), ps (.inr E) h9 → False) (kk : ∀ (r : Option xV) (h9 : xS), ps (.inl r) h9 → xsame h h9 lo st ∧ V (pc + 3) lo (r.toList ++ st) h9 (k + mc9) (n + ms9)) : V pc lo (as.reverse ++ st) h k n := by
  obtain ⟨hX, p, e, s, m, args, below, meth, c, Q, hA, rfl⟩ := hV
  obtain ⟨hx, hb, hml, hown, hlk9, hrt, htb, hnm, hB⟩ := id hA
  intro H locs ls hP hD hS hl
  refine x_ran hS (x_runs (av := as) (rv := false) hX hA hP hD hS hl.1 hM hpl hlk (fun z => by cases z) (fun _ => hal) hd9 hk hn hst hd) (fun E h9 H1 locs1 q9 ce hp gP gD gS hce hcv hcl9 => ?_) (fun r h9 H1 locs1 hp gP gD gS => ?_)
  · exact (hx9 E h9 hp).elim
  · obtain ⟨⟨e1, e2⟩, k9⟩ := kk r h9 hp
    have := k9 H1 locs1 ls gP gD gS (by rw [e1]; exact hl)
    rw [List.map_append, e2] at this
    cases r <;> exact this
theorem x_callST (hV : xEnd X y d mc ms post V) {z : xM} {na d9 mc9 ms9 : Nat} {as : List xV} {ps : xO → xS → Prop} {ins : Instr} (hM : xMet X z d9 as h mc9 ms9 ps) (hd : decode y.2.1 pc = .ok (ins, 3)) (hpl : xPl z na) (hlk : xLk y.1.cls ins z false) (hal : as.length = na) (hd9 : d9 + 1 ≤ d) (hk : k + mc9 ≤ mc) (hn : n + ms9 ≤ ms) (hst : (st.map fun v => (xc h.A v).category).sum ≤ 8) (hh0 : y.2.2.2.2 = []) (hx9 : ∀ (E : String) (h9 : xS), ps (.inr E) h9 → post (.inr E) h9) (kk : ∀ (r : Option xV) (h9 : xS), ps (.inl r) h9 → xsame h h9 lo st ∧ V (pc + 3) lo (r.toList ++ st) h9 (k + mc9) (n + ms9)) : V pc lo (as.reverse ++ st) h k n := by
  obtain ⟨hX, p, e, s, m, args, below, meth, c, hA, rfl⟩ := hV
  obtain ⟨hx, hb, hml, hown, hlk9, hrt, htb, hnm, hB⟩ := id hA
  intro H locs ls hP hD hS hl
  refine x_ran hS (x_runs (av := as) (rv := false) hX hA hP hD hS hl.1 hM hpl hlk (fun z => by cases z) (fun _ => hal) hd9 hk hn hst hd) (fun E h9 H1 locs1 q9 ce hp gP gD gS hce hcv hcl9 => ?_) (fun r h9 H1 locs1 hp gP gD gS => ?_)
  · exact vx_out (mc := mc) (ms := ms) (fun x hx8 => by rw [htb, hh0] at hx8; cases hx8) hlk9 hce hcv hcl9 (fun t ht _ => ⟨h9, hx9 E h9 hp, ⟨by rw [ht]; exact gP, gD⟩, by rw [va_F, ht]; exact ⟨gS.1, gS.2.1⟩⟩) gS.2.2 hk hn
  · obtain ⟨⟨e1, e2⟩, k9⟩ := kk r h9 hp
    have := k9 H1 locs1 ls gP gD gS (by rw [e1]; exact hl)
    rw [List.map_append, e2] at this
    cases r <;> exact this
theorem x_callVH (hV : xEnd X y d mc ms post V) {z : xM} {na d9 mc9 ms9 : Nat} {as : List xV} {ps : xO → xS → Prop} {ins : Instr} {q : xP} {ci N : Nat} {T : u_T} (hM : xMet X z d9 (xr q :: as) h mc9 ms9 ps) (hd : decode y.2.1 pc = .ok (ins, 3)) (hpl : xPl z na) (hlk : xLk y.1.cls ins z true) (hal : as.length = na) (hq : q ∈ h.L) (hkd : kd q = (0, ci)) (hcl : vwCl[ci]? = some (z.1.cls, T, N)) (hd9 : d9 + 1 ≤ d) (hk : k + mc9 ≤ mc) (hn : n + ms9 ≤ ms) (hst : (st.map fun v => (xc h.A v).category).sum ≤ 8) (hx9 : ∀ (E : String) (h9 : xS), ps (.inr E) h9 → ∃ v : Int, xHnd y pc E v ∧ post (.inl (some (xi v))) h9) (kk : ∀ (r : Option xV) (h9 : xS), ps (.inl r) h9 → xsame h h9 lo st ∧ V (pc + 3) lo (r.toList ++ st) h9 (k + mc9) (n + ms9)) : V pc lo ((xr q :: as).reverse ++ st) h k n := by
  obtain ⟨hX, p, e, s, m, args, below, meth, c, hA, rfl⟩ := hV
  obtain ⟨hx, hb, hml, hown, hlk9, hrt, htb, hnm, hB⟩ := id hA
  intro H locs ls hP hD hS hl
  refine x_ran hS (x_runs (av := (xr q :: as)) (rv := true) hX hA hP hD hS hl.1 hM hpl hlk (fun _ => ⟨q, as, ci, N, T, rfl, hal, hq, hkd, hcl⟩) (fun z => by cases z) hd9 hk hn hst hd) (fun E h9 H1 locs1 q9 ce hp gP gD gS hce hcv hcl9 => ?_) (fun r h9 H1 locs1 hp gP gD gS => ?_)
  · obtain ⟨v, ⟨pre, x, suf, w1, w2, w3, w4, ⟨nm, w5, w6⟩, w7, i, ln, w8, w9, w10, w11⟩, hp9⟩ := hx9 E h9 hp
    refine vx_catch (E := E) hown pre x suf (by rw [htb, w1]) (fun z8 hz8 => ?_) w3 w4 (xB.word hX hB w5 rfl) (va_Nw.use rfl (va_Nw.warmC hB.1 (va_Nw.of (A := X.2.2.1) rfl (hX.2.1 _ w6)))) hce hcv hcl9 ?_
    · rcases w2 z8 hz8 with u | ⟨u1, nm8, u2, u3⟩
      · exact Or.inl u
      · exact Or.inr ⟨u1, nm8, xB.word hX hB u2 rfl, va_Nc.moved hB.1.alike (hX.2.2.2.2.2.2 _ u3)⟩
    · have fin : ∀ ls9 : Array Slot, W p X.1 e (xrm d mc ms) s m args below meth c H1 locs1 (k + mc9) (n + ms9) (vx_MQ below (xQ X post) (xE X post) args s mc ms (xA X)) (F0 m (x.handlerPc + ln) ls9 []) := by
        intro ls9
        refine lv_iconst hx hb w10 rfl ?_
        refine vx_ret (W.widen hk hn ?_)
        exact W.iret hx hb (by rw [hrt, w7]) (fun t ht _ => ⟨⟨some (xi v), h9, rfl, hp9, by rw [xWd, ht]; exact ⟨gP, gD⟩⟩, by rw [va_F, ht]; exact ⟨gS.1, gS.2.1⟩⟩) gS.2.2 w11
      have hl0 : lv_has ls y.2.2.1 [] := ⟨hl.1, hl.2.1, fun z hz => by cases hz⟩
      rcases w8 with ⟨j, rfl, rfl, w8⟩ | ⟨rfl, w8⟩
      · exact lv_astore_n hx hb w8 rfl hl0 w9 rfl (fun ls9 _ => fin ls9)
      · exact lv_astore hx hb w8 hl0 w9 rfl (fun ls9 _ => fin ls9)
  · obtain ⟨⟨e1, e2⟩, k9⟩ := kk r h9 hp
    have := k9 H1 locs1 ls gP gD gS (by rw [e1]; exact hl)
    rw [List.map_append, e2] at this
    cases r <;> exact this
theorem x_reti (hV : xEnd X y d mc ms post V) {v : Int} (hd : decode y.2.1 pc = .ok (.ireturn, 1)) (hr : y.2.2.2.1 = some .int) (hk : k ≤ mc) (hn : n ≤ ms) (hp : post (.inl (some (xi v))) h) : V pc lo [xi v] h k n := by
  obtain ⟨hX, p, e, s, m, args, below, meth, c, hA, rfl⟩ := hV
  obtain ⟨hx, hb, hml, hown, hlk9, hrt, htb, hnm, hB⟩ := id hA
  intro H locs ls hP hD hS hl
  refine vx_ret (W.widen hk hn ?_)
  exact W.iret hx hb (by rw [hrt, hr]) (fun t ht _ => ⟨⟨(some (xi v)), h, rfl, hp, by rw [xWd, ht]; exact ⟨hP, hD⟩⟩, by rw [va_F, ht]; exact ⟨hS.1, hS.2.1⟩⟩) hS.2.2 hd
theorem x_retz (hV : xEnd X y d mc ms post V) {v : Int} (hd : decode y.2.1 pc = .ok (.ireturn, 1)) (hr : y.2.2.2.1 = some .boolean) (hk : k ≤ mc) (hn : n ≤ ms) (hv : v = 0 ∨ v = 1) (hp : post (.inl (some (xi v))) h) : V pc lo [xi v] h k n := by
  obtain ⟨hX, p, e, s, m, args, below, meth, c, hA, rfl⟩ := hV
  obtain ⟨hx, hb, hml, hown, hlk9, hrt, htb, hnm, hB⟩ := id hA
  intro H locs ls hP hD hS hl
  refine vx_ret (W.widen hk hn ?_)
  exact W.zret hx hb (by rw [hrt, hr]) (by rcases hv with rfl | rfl <;> rfl) (fun t ht _ => ⟨⟨(some (xi v)), h, rfl, hp, by rw [xWd, ht]; exact ⟨hP, hD⟩⟩, by rw [va_F, ht]; exact ⟨hS.1, hS.2.1⟩⟩) hS.2.2 hd
theorem x_retv (hV : xEnd X y d mc ms post V) (hd : decode y.2.1 pc = .ok (.return_, 1)) (hr : y.2.2.2.1 = none) (hk : k ≤ mc) (hn : n ≤ ms) (hp : post (.inl none) h) : V pc lo [] h k n := by
  obtain ⟨hX, p, e, s, m, args, below, meth, c, hA, rfl⟩ := hV
  obtain ⟨hx, hb, hml, hown, hlk9, hrt, htb, hnm, hB⟩ := id hA
  intro H locs ls hP hD hS hl
  refine vx_ret (W.widen hk hn ?_)
  exact W.vret hx hb (by rw [hrt, hr]) (fun t ht _ => ⟨⟨none, h, rfl, hp, by rw [xWd, ht]; exact ⟨hP, hD⟩⟩, by rw [va_F, ht]; exact ⟨hS.1, hS.2.1⟩⟩) hS.2.2 hd
theorem x_reta (hV : xEnd X y d mc ms post V) {q : xP} {C : String} (hd : decode y.2.1 pc = .ok (.areturn, 1)) (hr : y.2.2.2.1 = some (.object C)) (hk : k ≤ mc) (hn : n ≤ ms) (hp : post (.inl (some (xr q))) h) : V pc lo [xr q] h k n := by
  obtain ⟨hX, p, e, s, m, args, below, meth, c, hA, rfl⟩ := hV
  obtain ⟨hx, hb, hml, hown, hlk9, hrt, htb, hnm, hB⟩ := id hA
  intro H locs ls hP hD hS hl
  refine vx_ret (W.widen hk hn ?_)
  exact W.aret hx hb (by rw [hrt, hr]) (Or.inl ⟨_, rfl⟩) (Or.inr ⟨_, rfl⟩) (fun t ht _ => ⟨⟨(some (xr q)), h, rfl, hp, by rw [xWd, ht]; exact ⟨hP, hD⟩⟩, by rw [va_F, ht]; exact ⟨hS.1, hS.2.1⟩⟩) hS.2.2 hd
theorem x_retl (hV : xEnd X y d mc ms post V) {v : Int64} (hd : decode y.2.1 pc = .ok (.lreturn, 1)) (hr : y.2.2.2.1 = some .long) (hk : k ≤ mc) (hn : n ≤ ms) (hp : post (.inl (some (xl v))) h) : V pc lo [xl v] h k n := by
  obtain ⟨hX, p, e, s, m, args, below, meth, c, hA, rfl⟩ := hV
  obtain ⟨hx, hb, hml, hown, hlk9, hrt, htb, hnm, hB⟩ := id hA
  intro H locs ls hP hD hS hl
  refine vx_ret (W.widen hk hn ?_)
  exact W.lret hx hb (by rw [hrt, hr]) (fun t ht _ => ⟨⟨(some (xl v)), h, rfl, hp, by rw [xWd, ht]; exact ⟨hP, hD⟩⟩, by rw [va_F, ht]; exact ⟨hS.1, hS.2.1⟩⟩) hS.2.2 hd
theorem x_retf (hV : xEnd X y d mc ms post V) {v : UInt32} (hd : decode y.2.1 pc = .ok (.freturn, 1)) (hr : y.2.2.2.1 = some .float) (hk : k ≤ mc) (hn : n ≤ ms) (hp : post (.inl (some (xf v))) h) : V pc lo [xf v] h k n := by
  obtain ⟨hX, p, e, s, m, args, below, meth, c, hA, rfl⟩ := hV
  obtain ⟨hx, hb, hml, hown, hlk9, hrt, htb, hnm, hB⟩ := id hA
  intro H locs ls hP hD hS hl
  refine vx_ret (W.widen hk hn ?_)
  exact W.fret hx hb (by rw [hrt, hr]) (fun t ht _ => ⟨⟨(some (xf v)), h, rfl, hp, by rw [xWd, ht]; exact ⟨hP, hD⟩⟩, by rw [va_F, ht]; exact ⟨hS.1, hS.2.1⟩⟩) hS.2.2 hd
theorem x_retd (hV : xEnd X y d mc ms post V) {v : UInt64} (hd : decode y.2.1 pc = .ok (.dreturn, 1)) (hr : y.2.2.2.1 = some .double) (hk : k ≤ mc) (hn : n ≤ ms) (hp : post (.inl (some (xd v))) h) : V pc lo [xd v] h k n := by
  obtain ⟨hX, p, e, s, m, args, below, meth, c, hA, rfl⟩ := hV
  obtain ⟨hx, hb, hml, hown, hlk9, hrt, htb, hnm, hB⟩ := id hA
  intro H locs ls hP hD hS hl
  refine vx_ret (W.widen hk hn ?_)
  exact W.dret hx hb (by rw [hrt, hr]) (fun t ht _ => ⟨⟨(some (xd v)), h, rfl, hp, by rw [xWd, ht]; exact ⟨hP, hD⟩⟩, by rw [va_F, ht]; exact ⟨hS.1, hS.2.1⟩⟩) hS.2.2 hd
theorem x_objInit (hV : xEng X y d mc ms V) {q : xP} {idx : Nat} (hd : decode y.2.1 pc = .ok (.invokespecial idx, 3)) (hw : Cond.methodLink y.1.cls idx Lib.objectInit ∈ lw_tbl) (hw2 : Cond.instanceMethod Lib.objectInit ∈ lw_tbl) (hw3 : Cond.code Lib.objectInit ⟨#[0xb1]⟩ 1 none ∈ lw_tbl) (hd1 : 1 ≤ d) (hst : (st.map fun v => (xc h.A v).category).sum ≤ 8) (kk : V (pc + 3) lo st h k n) : V pc lo (xr q :: st) h k n := by
  obtain ⟨hX, p, e, s, m, args, below, meth, c, Q, hA, rfl⟩ := hV
  obtain ⟨hx, hb, hml, hown, hlk9, hrt, htb, hnm, hB⟩ := id hA
  intro H locs ls hP hD hS hl
  refine W.objInit (rest := st.map (xc h.A)) hx hb hown (xB.word hX hB hw rfl) (xB.word hX hB hw2 rfl) (xB.word hX hB hw3 rfl) rfl (hl.1.trans hml.symm) rfl hd hd1 ?_ (kk H locs ls hP hD hS hl)
  show 2 * 0 + _ + 12 ≤ 36 * d + 48
  rw [List.map_map]
  have : ((st.map ((fun v : Value => v.category) ∘ xc h.A))).sum ≤ 8 := hst
  omega
def xokm : Cond → Bool
  | .castable .. => true
  | .declares _ => true
  | _ => false
def xok (w : Cond) : Bool := goodWord w || xokm w
theorem xB.ok {X : xX} {s : State} {w : Cond} {args : Array Value} (hX : xBase X) (hB : xB X s) (hw : w ∈ lw_tbl) (hg : xok w = true) : w.before args s = true := by
  by_cases h1 : goodWord w = true
  · exact xB.word hX hB hw h1
  · have h2 : xokm w = true := by
      unfold xok at hg
      simpa [h1] using hg
    cases w <;> first | (cases h2; done) | exact va_Nw.use rfl (va_Nw.warmC hB.1 (va_Nw.of (A := X.2.2.1) rfl (hX.2.1 _ hw))) | exact va_Nw.use rfl (va_Nw.warmD hB.1 (va_Nw.of (A := X.2.2.1) rfl (hX.2.1 _ hw)))
/-- 'throw new E(text)' in class own: what the tables say of it -/
def xThr (own : String) (ik ic : Nat) (E : String) : Prop := ∃ names : List String, names.length ≤ 3 ∧ Bundle.fit E = true ∧ (∀ n ∈ names, Bundle.fit n = true) ∧ Cond.classLink own ik E ∈ lw_tbl ∧ Cond.initialized E ∈ lw_tbl ∧ ((∀ w ∈ vx_atS own ic E names, w ∈ lw_tbl ∧ xok w = true ∧ vx_ot w = true) ∨ ∃ (Y9 : String) (r9 : List String) (ix : Nat) (rx : ByteArray), names = Y9 :: r9 ∧ decode rx 0 = .ok (.aload_n 0, 1) ∧ decode rx 1 = .ok (.aload_n 1, 1) ∧ decode rx 2 = .ok (.invokespecial ix, 3) ∧ decode rx 5 = .ok (.return_, 1) ∧ ∀ w ∈ xx_at own ic E ix rx Y9 r9, w ∈ lw_tbl ∧ xok w = true ∧ vx_ot w = true)
theorem x_throw0 (hV : xEnd X y d mc ms post V) {ik is ic : Nat} {E tx : String} (ht : xThr y.1.cls ik ic E) (hs : Cond.stringRef y.1.cls is tx ∈ lw_tbl) (hh0 : y.2.2.2.2 = [])
    (hdd : (decode y.2.1 pc = .ok (.new ik, 3) ∧ decode y.2.1 (pc + 3) = .ok (.dup, 1)) ∧ ((decode y.2.1 (pc + 4) = .ok (.ldc is, 2) ∧ decode y.2.1 (pc + 6) = .ok (.invokespecial ic, 3) ∧ decode y.2.1 (pc + 9) = .ok (.athrow, 1)) ∨ (decode y.2.1 (pc + 4) = .ok (.ldc_w is, 3) ∧ decode y.2.1 (pc + 7) = .ok (.invokespecial ic, 3) ∧ decode y.2.1 (pc + 10) = .ok (.athrow, 1))))
    (hd : 7 ≤ d) (hst : (st.map fun v => (xc h.A v).category).sum ≤ 8) (hk : k + 1 ≤ mc) (hn : n + 6 ≤ ms) (hp : post (.inr E) h) : V pc lo st h k n := by
  obtain ⟨hX, p, e, s, m, args, below, meth, c, hA, rfl⟩ := hV
  obtain ⟨hx, hb, hml, hown, hlk9, hrt, htb, hnm, hB⟩ := id hA
  intro H locs ls hP hD hS hl
  obtain ⟨names, hn3, hf, hfn, hw1, hw2, hat⟩ := ht
  obtain ⟨sa, hsa⟩ := hX.2.2.2.2.2.1 _ _ _ hs
  have hsa : vk_R y.1.cls is tx sa s := vk_R.warm hB.1 hsa
  have hx4 : ∀ a : Nat, a < X.S.heap.size → ¬ xA X a → s.heap[a]? = X.S.heap[a]? := fun a h1 h2 => hB.2.2 a h1
  have hU : vx_Zq Bundle.tN "UNASSIGNED_STACK" Bundle.steD (xA X) s s.heap := (vx_Zq.moved hB.1.alike hX.2.2.2.1).kept hx4
  have hN : vx_Zq Bundle.tN "SUPPRESSED_SENTINEL" Bundle.listD (xA X) s s.heap := (vx_Zq.moved hB.1.alike hX.2.2.2.2.1).kept hx4
  have hgood : ∀ L : List Cond, (∀ w ∈ L, w ∈ lw_tbl ∧ xok w = true ∧ vx_ot w = true) → ∀ w ∈ Cond.classLink y.1.cls ik E :: Cond.initialized E :: L, vx_ot w = true := by
    intro L hL w hw
    rcases List.mem_cons.mp hw with rfl | hw
    · rfl
    rcases List.mem_cons.mp hw with rfl | hw
    · rfl
    exact (hL w hw).2.2
  have hloc : ((st.map (xc h.A)).map fun v => v.category).sum + (13 * (names.length + 1) + 43) ≤ (xrm d mc ms).locals := by
    show _ ≤ 36 * d + 48
    rw [List.map_map]
    have : ((st.map ((fun v : Value => v.category) ∘ xc h.A))).sum ≤ 8 := hst
    omega
  have hfr : names.length + 3 < (xrm d mc ms).frames := by show names.length + 3 < d; omega
  have hxc : ∀ t : State, s.vm.Alike t.vm → H.size ≤ t.heap.size → (∀ q : Nat, q < H.size → t.heap[q]? = H[q]?) → xE X post E s t := by
    intro t _ h1 h2
    refine ⟨h, hp, ⟨hP.kept (fun j q hq => h2 q.1 ((hP j q hq).lt)), hD⟩, Nat.le_trans hS.1 h1, fun q h3 h4 => ?_⟩
    rw [h2 q (Nat.lt_of_lt_of_le h3 hS.1)]
    exact hS.2.1 q h3 h4
  have hout : ∀ j : Nat, ∀ x ∈ c.exceptionTable.toList, covers x j = false := fun j x hx8 => by rw [htb, hh0] at hx8; cases hx8
  have hsz : ls.size = c.maxLocals := hl.1.trans hml.symm
  rcases hat with hat | ⟨Y9, r9, ix, rx, hn9, z0, z1, z2, z5, hat⟩
  · rcases hdd with ⟨⟨d0, d3⟩, ⟨d4, d6, d9⟩ | ⟨d4, d7, d10⟩⟩
    · exact vx_throwS (names := names) hx hb hX.1 hown hf hfn (xB.word hX hB hw1 rfl) (xB.word hX hB hw2 rfl) hsa (fun w hw => xB.ok hX hB (hat w hw).1 (hat w hw).2.1) (hgood _ hat) hU hN hS hsz d0 d3 d4 d6 d9 (hout _) hfr hloc hk hn hlk9 hxc hS.2.2 hk hn
    · exact vx_throwSW (names := names) hx hb hX.1 hown hf hfn (xB.word hX hB hw1 rfl) (xB.word hX hB hw2 rfl) hsa (fun w hw => xB.ok hX hB (hat w hw).1 (hat w hw).2.1) (hgood _ hat) hU hN hS hsz d0 d3 d4 d7 d10 (hout _) hfr hloc hk hn hlk9 hxc hS.2.2 hk hn
  · rcases hdd with ⟨⟨d0, d3⟩, ⟨d4, d6, d9⟩ | ⟨d4, d7, d10⟩⟩
    · exact xx_throwS (names := names) hx hb hX.1 hn9 z0 z1 z2 z5 hown hf hfn (xB.word hX hB hw1 rfl) (xB.word hX hB hw2 rfl) hsa (fun w hw => xB.ok hX hB (hat w hw).1 (hat w hw).2.1) (hgood _ hat) hU hN hS hsz d0 d3 d4 d6 d9 (hout _) hfr hloc hk hn hlk9 hxc hS.2.2 hk hn
    · exact xx_throwSW (names := names) hx hb hX.1 hn9 z0 z1 z2 z5 hown hf hfn (xB.word hX hB hw1 rfl) (xB.word hX hB hw2 rfl) hsa (fun w hw => xB.ok hX hB (hat w hw).1 (hat w hw).2.1) (hgood _ hat) hU hN hS hsz d0 d3 d4 d7 d10 (hout _) hfr hloc hk hn hlk9 hxc hS.2.2 hk hn
end XR
/-! entry -/
def xargs : Nat → List xV → List (Nat × xV)
  | _, [] => []
  | i, v :: vs => (i, v) :: xargs (if x2 v then i + 2 else i + 1) vs
theorem xargs_map (a : xP → Nat) : ∀ (av : List xV) (i : Nat), (xargs i av).map (fun q => (q.1, xc a q.2)) = lv_args i (av.map (xc a))
  | [], i => rfl
  | v :: vs, i => by
    show (i, xc a v) :: _ = (i, xc a v) :: _
    rw [xargs_map a vs]
    congr 2
    have := xc_cat a v
    cases hv : x2 v <;> rw [hv] at this <;> simp_all
theorem xsl_len (a : xP → Nat) : ∀ av : List xV, (lg_sl (av.map (xc a))).length = (av.map fun v => if x2 v then 2 else 1).sum
  | [] => rfl
  | v :: vs => by
    have := xc_cat a v
    rw [List.map_cons, List.map_cons, List.sum_cons, ← xsl_len a vs]
    cases hv : x2 v <;> rw [hv] at this
    · have h1 : ¬ (xc a v).category = 2 := by simpa using this
      simp [lg_sl, h1]
      omega
    · have h1 : (xc a v).category = 2 := by simpa using this
      simp [lg_sl, h1]
      omega
theorem xMet_of {X : xX} {y : xM} {d mc ms : Nat} {av : List xV} {h : xS} {post : xO → xS → Prop} (hX : xBase X) (hpn : plainName y.1.cls = true) (hwt : ∀ w ∈ xws y, w ∈ lw_tbl) (hsz : (av.map fun v => if x2 v then 2 else 1).sum ≤ y.2.2.1) (body : ∀ V : xT, xEnd X y d mc ms post V → V 0 (xargs 0 av) [] h 0 0) : xMet X y d av h mc ms post := by
  have main : ∀ (p : Program) (e : Env) (s : State) (m : MethodId) (args : Array Value) (below : List Frame) (meth : Method) (c : Code) (s₁ : State), BodyLoose p X.1 y.1 (headSpec (xws y) (xrm d mc ms)) y.2.1 y.2.2.1 y.2.2.2.1 e s m args below meth c s₁ → c.maxLocals = y.2.2.1 → c.exceptionTable.toList = tableOf y.2.2.2.2 → va_Pc (av.map (xc h.A)) (fun U => xB X U ∧ xWd X h U) args s →
      W p X.1 e (xrm d mc ms) s m args below meth c s.heap [] 0 0 (vx_MQ below (xQ X post) (xE X post) args s mc ms (xA X)) (entryFrame m args y.2.2.1) := by
    intro p e s m args below meth c s₁ B hml htb hv
    obtain ⟨rfl, hB, hP, hD⟩ := hv
    have hact : xAct X y p s m meth c := ⟨B.exec, B.bytes, hml, findClass_of_methodNamed B.named, B.notSynchronized, B.returns, htb, (name_of_methodNamed B.named B.method).1, hB⟩
    have := body (xAW X y d mc ms p e s m (av.map (xc h.A)).toArray below meth c (vx_MQ below (xQ X post) (xE X post) (av.map (xc h.A)).toArray s mc ms (xA X))) ⟨hX, p, e, s, m, _, below, meth, c, hact, rfl⟩
    have hlen : (lg_sl (av.map (xc h.A))).length ≤ y.2.2.1 := by rw [xsl_len]; exact hsz
    rw [lg_entry_eq]
    exact this s.heap [] _ hP hD va_S.rf (by rw [xargs_map]; exact lv_entry _ hlen)
  unfold xMet
  cases hh : y.2.2.2.2 with
  | nil =>
    refine vx_ofW (cc := y.2.1) (maxL := y.2.2.1) (ret := y.2.2.2.1) hpn (xws_nil hh) ?_
    intro p e s m args below meth c s₁ B hml htb hv
    refine main p e s m args below meth c s₁ B hml ?_ hv
    rw [hh]
    exact List.eq_nil_iff_forall_not_mem.mpr htb
  | cons q t =>
    refine vx_ofWH (cc := y.2.1) (maxL := y.2.2.1) (ret := y.2.2.2.1) (hh := q :: t) hpn (xws_cons hh) ?_
    intro p e s m args below meth c s₁ B hml hv
    refine main p e s m args below meth c s₁ B hml ?_ hv
    rw [hh]
    have hw : Cond.codeWith y.1 y.2.1 y.2.2.1 y.2.2.2.1 (q :: t) ∈ xws y := by rw [xws_cons hh]; exact List.mem_cons_self
    obtain ⟨-, hB, -⟩ := hv
    exact vx_table (x := y.1) B (xB.word (args := args) hX hB (hwt _ hw) rfl)
