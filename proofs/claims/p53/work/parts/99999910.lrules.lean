/-! the law's own rules: less of the heap, new rows, what is caught, calls by an interface -/
/-- h0 is a part of h -/
def xLe (h h0 : xS) : Prop := h0.L.Nodup ∧ (∀ p ∈ h0.L, p ∈ h.L ∧ h0.I p = h.I p ∧ h0.R p = h.R p ∧ h0.A p = h.A p ∧ ∀ (k : Nat) (t : xP), h.R p k = some t → h0.A t = h.A t) ∧ ((∀ (q : xP) (k : Nat), xin (h.I q k)) → ∀ (q : xP) (k : Nat), xin (h0.I q k))
theorem xe_le {T : Nat → ClassId} {h h0 : xS} {p : xP} (hl : xLe h h0) (hp : p ∈ h0.L) : xe T h0 p = xe T h p := by
  obtain ⟨-, h1, h2, -, h3⟩ := hl.2.1 p hp
  have hR : ∀ k, (h0.R p k).map h0.A = (h.R p k).map h.A := by
    intro k
    rw [h2]
    cases hr : h.R p k with
    | none => rfl
    | some t => show some (h0.A t) = some (h.A t); rw [h3 k t hr]
  unfold xe xfs
  simp only [h1, hR]
theorem xP_le {G : va_G} {cl : List vw_C} {T : Nat → ClassId} {h h0 : xS} {H : Heap} (hl : xLe h h0) (hP : va_P G cl (xw T h) H) : va_P G cl (xw T h0) H := by
  intro k q hq
  unfold xw at hq
  rw [List.getElem?_map] at hq
  cases hp : h0.L[k]? with
  | none => rw [hp] at hq; cases hq
  | some p =>
    rw [hp] at hq
    cases hq
    have hm := List.mem_of_getElem? hp
    obtain ⟨h1, -, -, h4, -⟩ := hl.2.1 p hm
    obtain ⟨i, -, hi⟩ := xw_at (T := T) h1
    have := hP i _ hi
    show va_at G cl (h0.A p, xe T h0 p) H
    rw [xe_le hl hm, h4]
    exact this
theorem xD_le {X : xX} {h h0 : xS} (hl : xLe h h0) (hD : xDD X h) : xDD X h0 := by
  have hat : ∀ (g : xS) (j : Nat), (xw X.T g)[j]? = (g.L[j]?).map fun p => (g.A p, xe X.T g p) := fun g j => by unfold xw; rw [List.getElem?_map]
  refine ⟨⟨fun i j p q hi hj e => ?_, fun k q hk => ?_⟩, hl.2.2 hD.2⟩
  · rw [hat] at hi hj
    cases hp : h0.L[i]? with
    | none => rw [hp] at hi; cases hi
    | some a =>
      cases hq : h0.L[j]? with
      | none => rw [hq] at hj; cases hj
      | some b =>
        rw [hp] at hi
        rw [hq] at hj
        cases hi
        cases hj
        have e : h0.A a = h0.A b := e
        have ha := hl.2.1 a (List.mem_of_getElem? hp)
        have hb := hl.2.1 b (List.mem_of_getElem? hq)
        obtain ⟨i9, hi9, hwi⟩ := xw_at (T := X.T) ha.1
        obtain ⟨j9, hj9, hwj⟩ := xw_at (T := X.T) hb.1
        have hij := hD.1.1 i9 j9 _ _ hwi hwj (show h.A a = h.A b by rw [← ha.2.2.2.1, ← hb.2.2.2.1]; exact e)
        subst hij
        rw [hi9] at hj9
        cases hj9
        exact (List.getElem?_inj (List.getElem?_eq_some_iff.mp hp).1 hl.1).mp (hp.trans hq.symm)
  · rw [hat] at hk
    cases hp : h0.L[k]? with
    | none => rw [hp] at hk; cases hk
    | some a =>
      rw [hp] at hk
      cases hk
      have ha := hl.2.1 a (List.mem_of_getElem? hp)
      obtain ⟨i9, hi9, hwi⟩ := xw_at (T := X.T) ha.1
      have := hD.1.2 i9 _ hwi
      show xA X (h0.A a)
      rw [ha.2.2.2.1]
      exact this
section XR
variable {X : xX} {y : xM} {d mc ms : Nat} {V : xT} {pc : Nat} {lo : List (Nat × xV)} {st : List xV} {h : xS} {k n : Nat} {post : xO → xS → Prop}
theorem x_le (hV : xEng X y d mc ms V) {h0 : xS} (hl : xLe h h0) (hs : xsame h h0 lo st) (kk : V pc lo st h0 k n) : V pc lo st h k n := by
  obtain ⟨hX, p, e, s, m, args, below, meth, c, Q, ⟨hx, hb, hml, hown, hlk, hrt, htb, hnm, hB⟩, rfl⟩ := hV
  intro H locs ls hP hD hS hlo
  have := kk H locs ls (xP_le hl hP) (xD_le hl hD) hS (by rw [hs.1]; exact hlo)
  rw [hs.2] at this
  exact this
theorem xMet_le {z : xM} {av : List xV} {p1 p2 : xO → xS → Prop} (hM : xMet X z d av h mc ms p1) (hp : ∀ o h9, p1 o h9 → ∃ h8, xLe h9 h8 ∧ (∀ r : xV, o = .inl (some r) → xc h8.A r = xc h9.A r) ∧ p2 o h8) : xMet X z d av h mc ms p2 := by
  refine MetFree.mono hM (fun _ _ q => q) (fun _ _ _ _ _ q => q) ?_
  rintro a s o t - (⟨⟨⟨r, h', h1, h2, h3⟩, h4⟩, h5⟩ | ⟨q, h1, h2⟩)
  · obtain ⟨h8, e1, e2, e3⟩ := hp _ _ h2
    refine Or.inl ⟨⟨⟨r, h8, ?_, e3, xP_le e1 h3.1, xD_le e1 h3.2⟩, h4⟩, h5⟩
    rw [h1]
    cases r with
    | none => rfl
    | some r => show Outcome.returned (some (xc h'.A r)) = Outcome.returned (some (xc h8.A r)); rw [e2 r rfl]
  · obtain ⟨e9, ce, L, ⟨h', hp9, hw, hw2⟩, rest⟩ := h2
    obtain ⟨h8, e1, e2, e3⟩ := hp _ _ hp9
    exact Or.inr ⟨q, h1, e9, ce, L, ⟨h8, e3, ⟨xP_le e1 hw.1, xD_le e1 hw.2⟩, hw2⟩, rest⟩
/-- a number as the machine holds it -/
theorem x_wrap (hV : xEng X y d mc ms V) {v : Int} (kk : V pc lo (xi (Int32.ofInt v).toInt :: st) h k n) : V pc lo (xi v :: st) h k n := by
  obtain ⟨hX, p, e, s, m, args, below, meth, c, Q, hA, rfl⟩ := hV
  intro H locs ls hP hD hS hlo
  have := kk H locs ls hP hD hS hlo
  have e9 : xc h.A (xi (Int32.ofInt v).toInt) = xc h.A (xi v) := by show Value.int (Int32.ofInt (Int32.ofInt v).toInt) = Value.int (Int32.ofInt v); rw [Int32.ofInt_toInt]
  rw [List.map_cons, e9] at this
  exact this
theorem x_dup_x1 (hV : xEng X y d mc ms V) {a b : xV} (hd : decode y.2.1 pc = .ok (.dup_x1, 1)) (h1 : x2 a = false) (h2 : x2 b = false) (kk : V (pc + 1) lo (a :: b :: a :: st) h k n) : V pc lo (a :: b :: st) h k n := by
  obtain ⟨hX, p, e, s, m, args, below, meth, c, Q, ⟨hx, hb, hml, hown, hlk, hrt, htb, hnm, hB⟩, rfl⟩ := hV
  intro H locs ls hP hD hS hl
  exact lv_dup_x1 hx hb hd (xc_1 h1) (xc_1 h2) (kk H locs ls hP hD hS hl)
/-- int[] it is -/
theorem x_castI (hV : xEng X y d mc ms V) {idx nn : Nat} {q : xP} (hd : decode y.2.1 pc = .ok (.checkcast idx, 3)) (hw : Cond.classLink y.1.cls idx "[I" ∈ lw_tbl) (hkd : kd q = (1, nn)) (hq : q ∈ h.L) (kk : V (pc + 3) lo (xr q :: st) h k n) : V pc lo (xr q :: st) h k n := by
  obtain ⟨hX, p, e, s, m, args, below, meth, c, Q, ⟨hx, hb, hml, hown, hlk, hrt, htb, hnm, hB⟩, rfl⟩ := hV
  intro H locs ls hP hD hS hl
  obtain ⟨i, hi, hwi⟩ := xw_at (T := X.T) hq
  have he : xe X.T h q = .inl (X.T 1, nn, .inl fun k => Int32.ofInt (h.I q k)) := by unfold xe; rw [hkd]; rfl
  rw [he] at hwi
  exact va_castA hx hb hown (xB.word hX hB hw rfl) hP i hwi ((xB.K hX hB).2 0 (X.T 1, .int) rfl).2 hd (kk H locs ls hP hD hS hl)
/-- objects of a row -/
theorem x_oaload (hV : xEng X y d mc ms V) {a : Int} {q : xP} {t : Option xP} {nn : Nat} (hd : decode y.2.1 pc = .ok (.aaload, 1)) (hkd : kd q = (5, nn)) (hq : q ∈ h.L) (h0 : 0 ≤ a) (h1 : a < nn) (hr : h.R q a.toNat = t) (kk : V (pc + 1) lo ((Sum.inr (Sum.inl t) : xV) :: st) h k n) : V pc lo (xi a :: xr q :: st) h k n := by
  obtain ⟨hX, p, e, s, m, args, below, meth, c, Q, ⟨hx, hb, hml, hown, hlk, hrt, htb, hnm, hB⟩, rfl⟩ := hV
  intro H locs ls hP hD hS hl
  obtain ⟨i, hi, hwi⟩ := xw_at (T := X.T) hq
  have hsm := kd_small q
  rw [hkd] at hsm
  have hsm : nn ≤ 256 := hsm
  have he : xe X.T h q = .inl (X.T 5, nn, .inr (.inr (.inr (.inr fun k => (h.R q k).map h.A)))) := by unfold xe; rw [hkd]; rfl
  rw [he] at hwi
  refine va_aldq hx hb (xB.K hX hB) hP i 3 hwi rfl (xo_in h0 h1 (by omega)) hd ?_
  rw [xo_cl h0 (by omega)]
  have := kk H locs ls hP hD hS hl
  rw [hr]
  cases t <;> exact this
theorem x_alenO (hV : xEng X y d mc ms V) {q : xP} {nn : Nat} (hd : decode y.2.1 pc = .ok (.arraylength, 1)) (hkd : kd q = (5, nn)) (hq : q ∈ h.L) (kk : V (pc + 1) lo (xi nn :: st) h k n) : V pc lo (xr q :: st) h k n := by
  obtain ⟨hX, p, e, s, m, args, below, meth, c, Q, ⟨hx, hb, hml, hown, hlk, hrt, htb, hnm, hB⟩, rfl⟩ := hV
  intro H locs ls hP hD hS hl
  obtain ⟨i, hi, hwi⟩ := xw_at (T := X.T) hq
  have hk := kk H locs ls hP hD hS hl
  have he : xe X.T h q = .inl (X.T 5, nn, .inr (.inr (.inr (.inr fun k => (h.R q k).map h.A)))) := by unfold xe; rw [hkd]; rfl
  rw [he] at hwi
  exact va_alen hx hb (xB.K hX hB) hP i 3 hwi rfl (Int32.ofInt_eq_ofNat (n := nn)).symm hd hk
/-- an int[] into a row of objects -/
theorem x_oastore (hV : xEng X y d mc ms V) {a : Int} {q t : xP} {nn n9 : Nat} (hd : decode y.2.1 pc = .ok (.aastore, 1)) (hkd : kd q = (5, nn)) (hq : q ∈ h.L) (hkt : kd t = (1, n9)) (ht : t ∈ h.L) (h0 : 0 ≤ a) (h1 : a < nn) (kk : V (pc + 1) lo st (h.1, xuR h.R q a.toNat (some t), h.2.2) k n) : V pc lo (xr t :: xi a :: xr q :: st) h k n := by
  obtain ⟨hX, p, e, s, m, args, below, meth, c, Q, ⟨hx, hb, hml, hown, hlk, hrt, htb, hnm, hB⟩, rfl⟩ := hV
  intro H locs ls hP hD hS hl
  obtain ⟨i, hi, hwi⟩ := xw_at (T := X.T) hq
  have hsm := kd_small q
  rw [hkd] at hsm
  have hsm : nn ≤ 256 := hsm
  have he : xe X.T h q = .inl (X.T 5, nn, .inr (.inr (.inr (.inr fun k => (h.R q k).map h.A)))) := by unfold xe; rw [hkd]; rfl
  rw [he] at hwi
  obtain ⟨j, hj, hwj⟩ := xw_at (T := X.T) ht
  have hej : xe X.T h t = .inl (X.T 1, n9, .inl fun k => Int32.ofInt (h.I t k)) := by unfold xe; rw [hkt]; rfl
  rw [hej] at hwj
  have hany : va_Any "java/lang/Object" s H (h.A t) := by
    have hcell : H[h.A t]? = some (vp_cell (X.T 1) (n9, .inl fun k => Int32.ofInt (h.I t k))) := hP j _ hwj
    have hcs := (xB.K hX hB).2 0 (X.T 1, .int) rfl
    have hfc : s.vm.findClass "[I" = some (X.T 1) := hcs.2
    have hca : (Cond.castable "[I" "java/lang/Object").before args s = true := va_Nw.use rfl (va_Nw.warmC hB.1 (va_Nw.of (A := X.2.2.1) rfl (hX.2.1 _ (by decide +kernel))))
    obtain ⟨c3, c4, hc3, hc4, hasg⟩ := Cond.castable_spec hca
    obtain ⟨kC, hkC, -⟩ := Vm.findClass_spec hfc
    refine ⟨_, hcell, rfl, ⟨kC, hkC⟩, fun comp hcomp => ?_⟩
    cases hfc.symm.trans hc3
    cases hcomp.symm.trans hc4
    exact hasg
  have hset := xw_set (h := h) (h9 := (h.1, xuR h.R q a.toNat (some t), h.2.2)) hD.1 hi rfl rfl (fun p hp => xe_off rfl (by funext j; simp [xS.R, xuR, hp]) rfl rfl rfl)
  have he9 : ∀ g, g = xe X.T (h.1, xuR h.R q a.toNat (some t), h.2.2) q → (xw X.T h).set i (h.A q, g) = xw X.T (h.1, xuR h.R q a.toNat (some t), h.2.2) := fun g hg => by rw [hg]; exact hset
  refine va_astqM hx hb (xB.K hX hB) hP hD.1 hS i 3 hwi rfl hany (xo_in h0 h1 (by omega)) hd (fun H1 locs1 g1 g2 g3 => ?_)
  rw [xo_cl h0 (by omega)] at g1 g2
  rw [he9] at g1 g2
  · exact kk H1 locs1 ls g1 ⟨g2, hD.2⟩ g3 hl
  all_goals
    unfold xe
    rw [hkd]
    simp only [xS.R, xS.A, Sum.inl.injEq, Prod.mk.injEq, Sum.inr.injEq, true_and]
    funext j
    by_cases hj : j = a.toNat <;> simp [va_up, xuR, hj]
end XR
/-! what is thrown and caught -/
def xdel (i : Nat) (lo : List (Nat × xV)) : List (Nat × xV) := lo.filter fun q => !(q.1 == i) && !(q.1 + 1 == i && x2 q.2)
theorem xdel_map (a : xP → Nat) (i : Nat) (lo : List (Nat × xV)) : (xdel i lo).map (fun q => (q.1, xc a q.2)) = (lo.map (fun q => (q.1, xc a q.2))).filter (fun q => !(q.1 == i) && !(q.1 + 1 == i && q.2.category == 2)) := by
  simp only [xdel, List.filter_map, Function.comp_def, xc_cat]
/-- a thrown E at pc is caught in y: behind the store of it the run goes on at hp, without the local i -/
def xHn (y : xM) (pc : Nat) (E : String) (i hp : Nat) : Prop := ∃ (pre : List ExceptionTableEntry) (x : ExceptionTableEntry) (suf : List ExceptionTableEntry), tableOf y.2.2.2.2 = pre ++ x :: suf ∧ (∀ z ∈ pre, covers z pc = false ∨ (z.catchType ≠ 0 ∧ ∃ nm : String, Cond.classLink y.1.cls z.catchType nm ∈ lw_tbl ∧ (E, nm) ∈ xnc)) ∧ covers x pc = true ∧ x.catchType ≠ 0 ∧
  (∃ nm : String, Cond.classLink y.1.cls x.catchType nm ∈ lw_tbl ∧ Cond.castable E nm ∈ lw_tbl) ∧ i < y.2.2.1 ∧ ∃ ln : Nat, ((∃ j : Fin 4, i = j ∧ ln = 1 ∧ decode y.2.1 x.handlerPc = .ok (.astore_n j, 1)) ∨ (ln = 2 ∧ decode y.2.1 x.handlerPc = .ok (.astore i, 2))) ∧ x.handlerPc + ln = hp
section XR
variable {X : xX} {y : xM} {d mc ms : Nat} {V : xT} {pc : Nat} {lo : List (Nat × xV)} {st : List xV} {h : xS} {k n : Nat} {post : xO → xS → Prop}
theorem x_callVC (hV : xEng X y d mc ms V) {z : xM} {na d9 mc9 ms9 : Nat} {as : List xV} {ps : xO → xS → Prop} {ins : Instr} {q : xP} {ci N : Nat} {T : u_T} (hM : xMet X z d9 (xr q :: as) h mc9 ms9 ps) (hd : decode y.2.1 pc = .ok (ins, 3)) (hpl : xPl z na) (hlk : xLk y.1.cls ins z true) (hal : as.length = na) (hq : q ∈ h.L) (hkd : kd q = (0, ci)) (hcl : vwCl[ci]? = some (z.1.cls, T, N)) (hd9 : d9 + 1 ≤ d) (hk : k + mc9 ≤ mc) (hn : n + ms9 ≤ ms) (hst : (st.map fun v => (xc h.A v).category).sum ≤ 8)
    (hx9 : ∀ (E : String) (h9 : xS), ps (.inr E) h9 → ∃ i hp : Nat, xHn y pc E i hp ∧ xsame h h9 lo [] ∧ V hp (xdel i lo) [] h9 (k + mc9) (n + ms9)) (kk : ∀ (r : Option xV) (h9 : xS), ps (.inl r) h9 → xsame h h9 lo st ∧ V (pc + 3) lo (r.toList ++ st) h9 (k + mc9) (n + ms9)) : V pc lo ((xr q :: as).reverse ++ st) h k n := by
  obtain ⟨hX, p, e, s, m, args, below, meth, c, Q, hA, rfl⟩ := hV
  obtain ⟨hx, hb, hml, hown, hlk9, hrt, htb, hnm, hB⟩ := id hA
  intro H locs ls hP hD hS hl
  refine x_ran hS (x_runs (av := (xr q :: as)) (rv := true) hX hA hP hD hS hl.1 hM hpl hlk (fun _ => ⟨q, as, ci, N, T, rfl, hal, hq, hkd, hcl⟩) (fun z => by cases z) hd9 hk hn hst hd) (fun E h9 H1 locs1 q9 ce hp gP gD gS hce hcv hcl9 => ?_) (fun r h9 H1 locs1 hp gP gD gS => ?_)
  · obtain ⟨i, hp9, ⟨pre, x, suf, w1, w2, w3, w4, ⟨nm, w5, w6⟩, w7, ln, w8, w9⟩, ⟨w10, -⟩, w11⟩ := hx9 E h9 hp
    refine vx_catch (E := E) hown pre x suf (by rw [htb, w1]) (fun z8 hz8 => ?_) w3 w4 (xB.word hX hB w5 rfl) (va_Nw.use rfl (va_Nw.warmC hB.1 (va_Nw.of (A := X.2.2.1) rfl (hX.2.1 _ w6)))) hce hcv hcl9 ?_
    · rcases w2 z8 hz8 with u | ⟨u1, nm8, u2, u3⟩
      · exact Or.inl u
      · exact Or.inr ⟨u1, nm8, xB.word hX hB u2 rfl, va_Nc.moved hB.1.alike (hX.2.2.2.2.2.2 _ u3)⟩
    · have fin : ∀ ls9 : Array Slot, lv_has ls9 y.2.2.1 ((i, Value.ref q9) :: (lo.map (fun q => (q.1, xc h.A q.2))).filter (fun q => !(q.1 == i) && !(q.1 + 1 == i && q.2.category == 2))) → W p X.1 e (xrm d mc ms) s m args below meth c H1 locs1 (k + mc9) (n + ms9) Q (F0 m (x.handlerPc + ln) ls9 []) := by
        intro ls9 hl9
        rw [w9]
        refine w11 H1 locs1 ls9 gP gD gS ⟨hl9.1, hl9.2.1, fun z hz => hl9.2.2 z (List.mem_cons_of_mem _ ?_)⟩
        rw [xdel_map, w10] at hz
        exact hz
      rcases w8 with ⟨j, rfl, rfl, w8⟩ | ⟨rfl, w8⟩
      · exact lv_astore_n hx hb w8 rfl hl w7 rfl (fun ls9 hl9 => fin ls9 hl9)
      · exact lv_astore hx hb w8 hl w7 rfl (fun ls9 hl9 => fin ls9 hl9)
  · obtain ⟨⟨e1, e2⟩, k9⟩ := kk r h9 hp
    have := k9 H1 locs1 ls gP gD gS (by rw [e1]; exact hl)
    rw [List.map_append, e2] at this
    cases r <;> exact this
/-! calls by an interface -/
def xLkF (own : String) (idx : Nat) (x : MethodName) (z : xM) (na : Nat) : Prop := z.2.2.2.2 = [] ∧ Cond.methodLink own idx x ∈ lw_tbl ∧ Cond.selects z.1.cls x z.1 ∈ lw_tbl ∧ Cond.instanceMethod z.1 ∈ lw_tbl ∧ Cond.declares x ∈ lw_tbl ∧ Cond.interfaceMethod x.cls x.cls x.name x.desc ∈ lw_tbl ∧ Cond.publicMethod z.1 ∈ lw_tbl ∧ Cond.unhidden z.1.cls x.name x.desc ∈ lw_tbl ∧ Cond.castable z.1.cls x.cls ∈ lw_tbl ∧ (x.cls ≠ "java/lang/invoke/MethodHandle" ∧ x.cls ≠ "java/lang/invoke/VarHandle") ∧ (parseMethodDescriptor x.desc).map (fun d => d.parameters.length) = some na
theorem x_callF (hV : xEng X y d mc ms V) {z : xM} {na d9 mc9 ms9 idx cnt : Nat} {x : MethodName} {as : List xV} {ps : xO → xS → Prop} {q : xP} {ci N : Nat} {T : u_T} (hM : xMet X z d9 (xr q :: as) h mc9 ms9 ps) (hd : decode y.2.1 pc = .ok (.invokeinterface idx cnt, 5)) (hpl : xPl z na) (hlk : xLkF y.1.cls idx x z na) (hal : as.length = na) (hq : q ∈ h.L) (hkd : kd q = (0, ci)) (hcl : vwCl[ci]? = some (z.1.cls, T, N)) (hd9 : d9 + 1 ≤ d) (hk : k + mc9 ≤ mc) (hn : n + ms9 ≤ ms) (hst : (st.map fun v => (xc h.A v).category).sum ≤ 8)
    (hx9 : ∀ (E : String) (h9 : xS), ps (.inr E) h9 → False) (kk : ∀ (r : Option xV) (h9 : xS), ps (.inl r) h9 → xsame h h9 lo st ∧ V (pc + 5) lo (r.toList ++ st) h9 (k + mc9) (n + ms9)) : V pc lo ((xr q :: as).reverse ++ st) h k n := by
  obtain ⟨hX, p, e, s, m, args, below, meth, c, Q, hA, rfl⟩ := hV
  obtain ⟨hx, hb, hml, hown, hlk9, hrt, htb, hnm, hB⟩ := id hA
  obtain ⟨hpn, hdn, hws, hini, hmx⟩ := hpl
  obtain ⟨hh, f1, f2, f3, f4, f5, f6, f7, f8, f9, f10⟩ := hlk
  intro H locs ls hP hD hS hl
  have hS9 : CallFix p m c y.2.1 y.2.2.1 s args [] y.1.cls := ⟨hx, hb, hml, hown, fun w hw => by cases hw⟩
  have hR : (xrm d9 mc9 ms9).frames + 1 ≤ (xrm d mc ms).frames ∧ 8 + (z.2.2.1 + 11) + (xrm d9 mc9 ms9).locals ≤ (xrm d mc ms).locals := ⟨hd9, by show 8 + (z.2.2.1 + 11) + (36 * d9 + 48) ≤ 36 * d + 48; omega⟩
  have hww : ∀ w ∈ xws z, ∀ (a' : Array Value) (U : State), s.WarmedH U.vm → w.before a' U = true := fun w hw a' U hW => word_at hW (good_of_word (hws w hw).2) (xB.word (args := args) hX hB (hws w hw).1 (hws w hw).2)
  have hcode : Cond.code z.1 z.2.1 z.2.2.1 z.2.2.2.1 ∈ xws z := by rw [xws_nil hh]; exact List.mem_cons_self
  have hin9 : (Cond.initialized z.1.cls).before args s = true := xB.word hX hB hini rfl
  have hlen : ∀ sig, parseMethodDescriptor x.desc = some sig → na = sig.parameters.length := fun sig hs => by
    rw [hs] at f10
    exact (Option.some.inj f10).symm
  have hF : va_Fw z.1.cls x z.1 s := va_Fw.moved f9 hB.1.alike (va_Fw.of (A := X.2.2.1) (hX.2.1 _ f4) (hX.2.1 _ f5) (hX.2.1 _ f6) (hX.2.1 _ f7) (hX.2.1 _ f8))
  have hPc : ∀ U : State, U.heap = H → s.WarmedH U.vm → va_Pc ((xr q :: as).map (xc h.A)) (fun U => xB X U ∧ xWd X h U) ((xr q :: as).map (xc h.A)).toArray U := fun U hU hW => ⟨rfl, xB.at hB hS hU hW, by rw [xWd, hU]; exact ⟨hP, hD⟩⟩
  obtain ⟨i, hi, hwi⟩ := xw_at (T := X.T) hq
  have he : xe X.T h q = .inr (ci, xfs h q (fdT.getD ci [])) := by unfold xe; rw [hkd]; rfl
  rw [he] at hwi
  have hpre : PreV s H z.1.cls (h.A q) (va_Pc ((xr q :: as).map (xc h.A)) (fun U => xB X U ∧ xWd X h U)) (as.map (xc h.A)) := ⟨xPc_blind, va_recv (xB.K hX hB) hP hcl hwi, fun U hU hW => hPc U hU hW⟩
  have hstk2 : (((xr q :: as).reverse ++ st).map (xc h.A)) = (as.map (xc h.A)).reverse ++ Value.ref (h.A q) :: st.map (xc h.A) := by simp [List.map_reverse, xc]
  have hcat : 2 * (F0 m pc ls (((xr q :: as).reverse ++ st).map (xc h.A))).monitorRoom + ((st.map (xc h.A)).map fun v => v.category).sum ≤ 8 := by
    show 2 * 0 + _ ≤ 8
    rw [List.map_map]
    simpa [Function.comp_def] using hst
  have hr : vx_Run5 p X.1 e (xrm d mc ms) s m args below meth c H locs k n mc9 ms9 (F0 m pc ls (((xr q :: as).reverse ++ st).map (xc h.A))) (st.map (xc h.A)) (xQ X ps ((xr q :: as).map (xc h.A)).toArray) (xE X ps) (xA X) := vx_runF (x := x) ((xB.K hX hB).1 ci _ hcl).2 hS9 hM ⟨⟨rfl, rfl, hR.1, hR.2, hww, hcode⟩, xB.word hX hB f1 rfl, va_any rfl hF.1, va_any rfl hF.2.1, xB.word hX hB f2 rfl, xB.word hX hB f3 rfl, va_any rfl hF.2.2.1, va_any rfl hF.2.2.2.1, va_any rfl hF.2.2.2.2, hin9, xB.word hX hB (hws _ hcode).1 rfl, f9, hlen⟩ hpre (g := F0 m pc ls (((xr q :: as).reverse ++ st).map (xc h.A))) rfl (by rw [List.length_map]; exact hal) hl.1 hstk2 hcat hd ⟨hk, hn⟩
  intro T9 hT Y
  rcases hr T9 hT Y with ⟨v, st₀, t, T', L, h0, Y', hL, e1, e2, ⟨⟨r, h9, hv, hp, hP1, hD1⟩, hF9⟩, st9⟩ | ⟨q9, st₀, t, T', L, E, ce, h0, Y', hL, e1, e2, ⟨h9, hp, ⟨hP1, hD1⟩, hF9⟩, hce, hcv, hcl9, st9⟩
  · cases hv
    obtain ⟨k1, k2, k3⟩ := vx_keep h0 e1 hS (fun _ _ z => z) (fun _ z => z) hL hF9
    obtain ⟨⟨u1, u2⟩, k9⟩ := kk r h9 hp
    have w := k9 T'.heap (locs ++ L) ls (by rw [e1]; exact hP1) hD1 k3 (by rw [u1]; exact hl)
    rw [List.map_append, u2] at w
    have w2 : W p X.1 e (xrm d mc ms) s m args below meth c T'.heap (locs ++ L) (k + mc9) (n + ms9) Q (F0 m (pc + 5) ls ((r.map (xc h9.A)).toList ++ st.map (xc h.A))) := by cases r <;> exact w
    obtain ⟨t2, a1, b1⟩ := w2 T' rfl Y'
    exact ⟨t2, st9 t2 a1, b1⟩
  · exact (hx9 E h9 hp).elim
end XR
