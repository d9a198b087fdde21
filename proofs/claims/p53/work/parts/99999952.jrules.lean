/-! what a list under construction asks for: new rows of objects, the static empty row, calls of a superclass's constructor -/
/-- the empty row that new lists share -/
def DEs (X : xX) (z : Nat) : Prop := va_Z "java/util/ArrayList" "DEFAULTCAPACITY_EMPTY_ELEMENTDATA" "[Ljava/lang/Object;" (.ref z) (xA X) X.S X.S.heap ∧ va_T (.object "java/lang/Object") z 0 (fun _ => .null) (xA X) X.S X.S.heap
theorem DEs.at {X : xX} {z : Nat} {s : State} (h : DEs X z) (hB : xB X s) : va_Z "java/util/ArrayList" "DEFAULTCAPACITY_EMPTY_ELEMENTDATA" "[Ljava/lang/Object;" (.ref z) (xA X) s s.heap ∧ va_T (.object "java/lang/Object") z 0 (fun _ => .null) (xA X) s s.heap :=
  ⟨(va_Z.moved hB.1.alike h.1).kept (fun a ha _ => hB.2.2 a ha), (va_T.moved hB.1.alike h.2).kept (fun a ha _ => hB.2.2 a ha)⟩
def xLkI (own : String) (ins : Instr) (z : xM) : Prop := ∃ idx, ins = .invokespecial idx ∧ z.2.2.2.2 = [] ∧ z.1.name = "<init>" ∧ z.2.2.2.1 = none ∧ Cond.instanceMethod z.1 ∈ lw_tbl ∧ (Cond.methodLink own idx z.1 ∈ lw_tbl ∨ ∃ host, Cond.methodLinkNest own idx z.1 host ∈ lw_tbl)
theorem xLk.sp {own : String} {idx : Nat} {z : xM} {rv : Bool} (h : xLk own (.invokespecial idx) z rv) : xLkI own (.invokespecial idx) z := by
  rcases h with ⟨_, _, h, _⟩ | ⟨_, _, h, _⟩ | ⟨i, _, h, h2⟩
  · cases h
  · cases h
  · exact ⟨i, h, h2⟩
section XR
variable {X : xX} {y : xM} {d mc ms : Nat} {V : xT} {pc : Nat} {lo : List (Nat × xV)} {st : List xV} {h : xS} {k n : Nat}
theorem x_newOA (hV : xEng X y d mc ms V) {nn idx : Nat} {v : Int} {q : xP} (hd : decode y.2.1 pc = .ok (.anewarray idx, 3)) (hw : Cond.classLink y.1.cls idx "java/lang/Object" ∈ lw_tbl) (hv : v = nn) (hkd : kd q = (5, nn)) (hq : q ∉ h.L) (hnr : ∀ (p : xP) (k : Nat), h.R p k ≠ some q) (hfr : ∀ v ∈ lo.map Prod.snd ++ st, xhas q v = false) (hk1 : k + 1 ≤ mc) (hn1 : n + nn ≤ ms) (kk : ∀ a : Nat, V (pc + 3) lo (xr q :: st) (xnew h q a) (k + 1) (n + nn)) : V pc lo (xi v :: st) h k n := by
  obtain ⟨hX, p, e, s, m, args, below, meth, c, Q, ⟨hx, hb, hml, hown, hlk, hrt, htb, hnm, hB⟩, rfl⟩ := hV
  intro H locs ls hP hD hS hl
  have hsm := kd_small q
  rw [hkd] at hsm
  have hsm : nn ≤ 256 := hsm
  subst hv
  have hw9 : Cond.arrayOver (.object "java/lang/Object") ∈ lw_tbl := by decide +kernel
  refine va_newq (C := "java/lang/Object") (N' := nn) hx hb hown (xB.word hX hB hw rfl) (va_AO.moved hB.1.alike (va_AO.of (A := X.2.2.1) (hX.2.1 _ hw9))) (xB.K hX hB) hP hD.1 hS (fun z hz => Nat.le_trans hB.2.1 hz) (by rw [xo_0, xo_lt ⟨by omega, by omega⟩ x0in]; omega) (by rw [xo_cl (by omega) (by omega)]; omega) (by omega) hk1 hn1 hd (fun a cA H1 gK gP gD gS => ?_)
  have hcA : cA = X.T 5 := by
    obtain ⟨_, _, -, -, -, z1⟩ := (gK.2 4 (cA, .object "java/lang/Object") rfl).2
    obtain ⟨_, _, -, -, -, z2⟩ := (gK.2 3 (X.T 5, .object "java/lang/Object") rfl).2
    exact Option.some.inj (z1.symm.trans z2)
  subst hcA
  have hmap : (lo.map fun z => (z.1, xc (xnew h q a).A z.2)) = lo.map fun z => (z.1, xc h.A z.2) := List.map_congr_left fun z hz => by rw [xc_new (hfr z.2 (List.mem_append_left _ (List.mem_map_of_mem hz)))]
  have hmap2 : st.map (xc (xnew h q a).A) = st.map (xc h.A) := List.map_congr_left fun z hz => xc_new (hfr z (List.mem_append_right _ hz))
  have hqa : (xnew h q a).A q = a := by simp [xS.I, xS.R, xS.J, xS.F, xS.L, xS.A, xnew]
  have hxe : xe X.T (xnew h q a) q = .inl (X.T 5, nn, .inr (.inr (.inr (.inr fun _ => none)))) := by
    unfold xe
    rw [hkd]
    simp only [xS.R, xnew, if_true] <;> rfl
  have hxw := xw_new (T := X.T) (a := a) hq hnr
  rw [hxe] at hxw
  rw [← hxw] at gP gD
  have := kk a H1 locs ls gP ⟨gD, xnew_in hD.2⟩ gS (by rw [hmap]; exact hl)
  simp only [List.map_cons, xc, hmap2, hqa] at this
  exact this
theorem x_mmax (hV : xEng X y d mc ms V) {idx : Nat} {a b : Int} (hd : decode y.2.1 pc = .ok (.invokestatic idx, 3)) (hlk9 : Cond.methodLink y.1.cls idx Lib.Math.max.name ∈ lw_tbl) (ha : xin a) (hb9 : xin b) (hst : (st.map fun v => (xc h.A v).category).sum ≤ 8) (hk : k ≤ mc) (hn : n ≤ ms) (hd1 : 1 ≤ d) (kk : V (pc + 3) lo (xi (max a b) :: st) h k n) : V pc lo (xi b :: xi a :: st) h k n := by
  obtain ⟨hX, p, e, s, m, args, below, meth, c, Q, ⟨hx, hb, hml, hown, hlk, hrt, htb, hnm, hB⟩, rfl⟩ := hV
  intro H locs ls hP hD hS hl
  have hc9 : ((st.map (xc h.A)).map fun v => v.category).sum + 13 ≤ (xrm d mc ms).locals := by
    have e1 : ((st.map (xc h.A)).map fun v => v.category).sum = (st.map fun v => (xc h.A v).category).sum := by rw [List.map_map]; rfl
    rw [e1]
    show _ ≤ 36 * d + 48
    omega
  have := kk H locs ls hP hD hS hl
  refine va_mmax hx hb (by rw [hml, hl.1]) hown (xB.word hX hB hlk9 rfl) (xB.word hX hB (w := Cond.static Lib.Math.max.name) (by decide +kernel) rfl) (xB.word hX hB (w := Cond.initialized "java/lang/Math") (by decide +kernel) rfl) (xB.word hX hB (w := Cond.code Lib.Math.max.name Lib.Math.max.code 2 (some .int)) (by decide +kernel) rfl) hd1 hc9 hk hn hd ?_
  have e2 : (if Int32.ofInt a < Int32.ofInt b then Int32.ofInt b else Int32.ofInt a) = Int32.ofInt (max a b) := by
    by_cases hba : a < b
    · rw [if_pos ((xo_lt ha hb9).mpr hba), Int.max_eq_right (by omega)]
    · rw [if_neg (fun z => hba ((xo_lt ha hb9).mp z)), Int.max_eq_left (by omega)]
  rw [e2]
  exact this
theorem x_runsN {p : Program} {e : Env} {s : State} {m : MethodId} {args : Array Value} {below : List Frame} {meth : Method} {c : Code} {H : Heap} {locs : List Loc} {ls : Array Slot} (hX : xBase X) (hA : xAct X y p s m meth c) (hP : va_P X.G vwCl (xw X.T h) H) (hD : xDD X h) (hS : va_S (xA X) s.heap H locs) (hsz : ls.size = y.2.2.1)
    {z : xM} {na d9 mc9 ms9 : Nat} {av : List xV} {post : xO → xS → Prop} {ins : Instr} (hM : xMet X z d9 av h mc9 ms9 post) (hpl : xPl z na) (hlk : xLkI y.1.cls ins z) (hrv : ∃ (q : xP) (as : List xV) (ci : Nat), av = xr q :: as ∧ as.length = na ∧ q ∈ h.L ∧ kd q = (0, ci))
    (hd9 : d9 + 1 ≤ d) (hk : k + mc9 ≤ mc) (hn : n + ms9 ≤ ms) (hst : (st.map fun v => (xc h.A v).category).sum ≤ 8) (hdec : decode y.2.1 pc = .ok (ins, 3)) :
    vx_Run p X.1 e (xrm d mc ms) s m args below meth c H locs k n mc9 ms9 (F0 m pc ls ((av.reverse ++ st).map (xc h.A))) (st.map (xc h.A)) (xQ X post (av.map (xc h.A)).toArray) (xE X post) (xA X) := by
  obtain ⟨hx, hb, hml, hown, hlk9, hrt, htb, hnm, hB⟩ := hA
  obtain ⟨hpn, hdn, hws, hini, hmx⟩ := hpl
  have hS9 : CallFix p m c y.2.1 y.2.2.1 s args [] y.1.cls := ⟨hx, hb, hml, hown, fun w hw => by cases hw⟩
  have hR : (xrm d9 mc9 ms9).frames + 1 ≤ (xrm d mc ms).frames ∧ 8 + (z.2.2.1 + 11) + (xrm d9 mc9 ms9).locals ≤ (xrm d mc ms).locals := ⟨hd9, by show 8 + (z.2.2.1 + 11) + (36 * d9 + 48) ≤ 36 * d + 48; omega⟩
  have hww : ∀ w ∈ xws z, ∀ (a' : Array Value) (U : State), s.WarmedH U.vm → w.before a' U = true := fun w hw a' U hW => word_at hW (good_of_word (hws w hw).2) (xB.word (args := args) hX hB (hws w hw).1 (hws w hw).2)
  have hin9 : (Cond.initialized z.1.cls).before args s = true := xB.word hX hB hini rfl
  have hlen : ∀ sig, parseMethodDescriptor z.1.desc = some sig → na = sig.parameters.length := fun sig hs => by
    have h2 := hdn.2.2
    rw [hs] at h2
    exact (Option.some.inj h2).symm
  have hPc : ∀ U : State, U.heap = H → s.WarmedH U.vm → va_Pc (av.map (xc h.A)) (fun U => xB X U ∧ xWd X h U) (av.map (xc h.A)).toArray U := fun U hU hW => ⟨rfl, xB.at hB hS hU hW, by rw [xWd, hU]; exact ⟨hP, hD⟩⟩
  have hstk : (av.reverse ++ st).map (xc h.A) = (av.map (xc h.A)).reverse ++ st.map (xc h.A) := by rw [List.map_append, List.map_reverse]
  have hcat : 2 * (F0 m pc ls ((av.reverse ++ st).map (xc h.A))).monitorRoom + ((st.map (xc h.A)).map fun v => v.category).sum ≤ 8 := by
    show 2 * 0 + _ ≤ 8
    rw [List.map_map]
    simpa [Function.comp_def] using hst
  obtain ⟨idx, rfl, hh, hi0, hi3, hi1, hl1⟩ := hlk
  obtain ⟨q, as, ci, rfl, hal, hq, hkd⟩ := hrv
  have hcode : Cond.code z.1 z.2.1 z.2.2.1 none ∈ xws z := by rw [xws_nil hh, hi3]; exact List.mem_cons_self
  have hpre : PreS s H (va_Pc ((xr q :: as).map (xc h.A)) (fun U => xB X U ∧ xWd X h U)) (.ref (h.A q) :: as.map (xc h.A)) := ⟨xPc_blind, fun U hU hW => hPc U hU hW⟩
  have hstk2 : (((xr q :: as).reverse ++ st).map (xc h.A)) = (as.map (xc h.A)).reverse ++ Value.ref (h.A q) :: st.map (xc h.A) := by simp [List.map_reverse, xc]
  rcases hl1 with hl1 | ⟨host, hl1⟩
  · exact vx_runI hS9 hM ⟨⟨rfl, rfl, hR.1, hR.2, hww, hcode, xB.word hX hB (hws _ hcode).1 rfl, hin9, ⟨hdn.1, hdn.2.1⟩, hlen, xB.word hX hB hl1 rfl⟩, hi0, xB.word hX hB hi1 rfl⟩ hpre rfl (by rw [List.length_map]; exact hal) hsz hstk2 hcat hdec ⟨hk, hn⟩
  · exact vx_runIN hS9 hM ⟨⟨⟨rfl, rfl, hR.1, hR.2, hww, hcode⟩, xB.word hX hB (hws _ hcode).1 rfl, hin9, ⟨hdn.1, hdn.2.1⟩, hlen, va_Nw.use rfl (xB.nestM hX hB hl1)⟩, hi0, xB.word hX hB hi1 rfl⟩ hpre rfl (by rw [List.length_map]; exact hal) hsz hstk2 hcat hdec ⟨hk, hn⟩

theorem x_callN (hV : xEng X y d mc ms V) {z : xM} {na d9 mc9 ms9 : Nat} {as : List xV} {ps : xO → xS → Prop} {idx : Nat} {q : xP} {ci : Nat} (hM : xMet X z d9 (xr q :: as) h mc9 ms9 ps) (hd : decode y.2.1 pc = .ok (.invokespecial idx, 3)) (hpl : xPl z na) (hlk : xLk y.1.cls (.invokespecial idx) z true) (hal : as.length = na) (hq : q ∈ h.L) (hkd : kd q = (0, ci)) (hd9 : d9 + 1 ≤ d) (hk : k + mc9 ≤ mc) (hn : n + ms9 ≤ ms) (hst : (st.map fun v => (xc h.A v).category).sum ≤ 8) (hx9 : ∀ (E : String) (h9 : xS), ps (.inr E) h9 → False) (kk : ∀ (r : Option xV) (h9 : xS), ps (.inl r) h9 → xsame h h9 lo st ∧ V (pc + 3) lo (r.toList ++ st) h9 (k + mc9) (n + ms9)) : V pc lo ((xr q :: as).reverse ++ st) h k n := by
  obtain ⟨hX, p, e, s, m, args, below, meth, c, Q, hA, rfl⟩ := hV
  obtain ⟨hx, hb, hml, hown, hlk9, hrt, htb, hnm, hB⟩ := id hA
  intro H locs ls hP hD hS hl
  refine x_ran hS (x_runsN (av := (xr q :: as)) hX hA hP hD hS hl.1 hM hpl hlk.sp ⟨q, as, ci, rfl, hal, hq, hkd⟩ hd9 hk hn hst hd) (fun E h9 H1 locs1 q9 ce hp gP gD gS hce hcv hcl9 => ?_) (fun r h9 H1 locs1 hp gP gD gS => ?_)
  · exact (hx9 E h9 hp).elim
  · obtain ⟨⟨e1, e2⟩, k9⟩ := kk r h9 hp
    have := k9 H1 locs1 ls gP gD gS (by rw [e1]; exact hl)
    rw [List.map_append, e2] at this
    cases r <;> exact this
end XR
section XC
variable {X : xX} {y : xM} {d mc ms : Nat} {V : xT} {pc : Nat} {lo : List (Nat × xV)} {st : List xV} {c : xCx} {I : xIn} {k n : Nat}
theorem x_gets (hV : xEng X y d mc ms V) {z idx : Nat} (hz : DEs X z) (hA : c.2.2.2 (2, 8) = z) (hd : decode y.2.1 pc = .ok (.getstatic idx, 3)) (hw : Cond.fieldLink y.1.cls idx "java/util/ArrayList" "DEFAULTCAPACITY_EMPTY_ELEMENTDATA" "[Ljava/lang/Object;" ∈ lw_tbl) (kk : V (pc + 3) lo (xr (2, 8) :: st) (I, xst c) k n) : V pc lo st (I, xst c) k n := by
  obtain ⟨hX, p, e, s, m0, args, below, meth, c0, Q, ⟨hx, hb, hml, hown, hlk, hrt, htb, hnm, hB⟩, rfl⟩ := hV
  intro H locs ls hP hD hS hl
  have kk : W p X.1 e (xrm d mc ms) s m0 args below meth c0 H locs k n Q (F0 m0 (pc + 3) ls (.ref (c.2.2.2 (2, 8)) :: st.map (xc c.2.2.2))) := kk H locs ls hP hD hS hl
  rw [hA] at kk
  exact va_gets hx hb (hz.at hB).1 hS hown (xB.word hX hB hw rfl) (fun _ h => h) hd kk
theorem x_delen (hV : xEng X y d mc ms V) {z : Nat} (hz : DEs X z) (hA : c.2.2.2 (2, 8) = z) (hd : decode y.2.1 pc = .ok (.arraylength, 1)) (kk : V (pc + 1) lo (xi 0 :: st) (I, xst c) k n) : V pc lo (xr (2, 8) :: st) (I, xst c) k n := by
  obtain ⟨hX, p, e, s, m0, args, below, meth, c0, Q, ⟨hx, hb, hml, hown, hlk, hrt, htb, hnm, hB⟩, rfl⟩ := hV
  intro H locs ls hP hD hS hl
  have kk := kk H locs ls hP hD hS hl
  show W p X.1 e (xrm d mc ms) s m0 args below meth c0 H locs k n Q (F0 m0 pc ls (.ref (c.2.2.2 (2, 8)) :: st.map (xc c.2.2.2)))
  rw [hA]
  exact va_tlen hx hb (hz.at hB).2 hS (v := Int32.ofInt 0) rfl hd kk
theorem x_acmp_same (hV : xEng X y d mc ms V) {off : Int} {tgt : Nat} {q : xP} (hd : decode y.2.1 pc = .ok (.if_acmp .eq off, 3)) (ht : (pc : Int) + off = (tgt : Int)) (kk : V tgt lo st (I, xst c) k n) : V pc lo (xr q :: xr q :: st) (I, xst c) k n := by
  obtain ⟨hX, p, e, s, m0, args, below, meth, c0, Q, ⟨hx, hb, hml, hown, hlk, hrt, htb, hnm, hB⟩, rfl⟩ := hV
  intro H locs ls hP hD hS hl
  exact lv_acmp_eq (rx := some (c.2.2.2 q)) (ry := some (c.2.2.2 q)) hx hb hd ht (fun _ => kk H locs ls hP hD hS hl) (fun z => absurd rfl z)
end XC
/-- one reference written, of a place that the law itself has -/
def cPut (c : xCx) (q : xP) (k : Nat) (t : xP) : xCx := (c.1, c.2.1, (fun p j => if p = q ∧ j = k then some t else c.2.2.1 p j), c.2.2.2)
theorem xst_put {I : xIn} {c : xCx} {q t : xP} {k : Nat} (hq : q.1 = 2) : ((I, xuR (rst c.1 c.2.2.1) q k (some t), (xst c).2) : xS) = (I, xst (cPut c q k t)) := by
  have e : xuR (rst c.1 c.2.2.1) q k (some t) = rst c.1 (cPut c q k t).2.2.1 := by
    funext p j
    unfold xuR
    obtain ⟨a, b⟩ := q
    have hq : a = 2 := hq
    subst hq
    by_cases hp : p = (2, b) ∧ j = k
    · rw [if_pos hp]
      obtain ⟨rfl, rfl⟩ := hp
      show some t = (if ((2, b) : xP) = (2, b) ∧ j = j then some t else c.2.2.1 (2, b) j)
      rw [if_pos ⟨rfl, rfl⟩]
    · rw [if_neg hp]
      unfold rst
      split
      · rfl
      · rfl
      · show c.2.2.1 p j = (if p = (2, b) ∧ j = k then some t else c.2.2.1 p j)
        rw [if_neg hp]
      · rfl
  rw [e]
  rfl
