/-! the classes' own facts -/
theorem xcls {ci N : Nat} {C : String} {T : u_T} (hc : vwCl[ci]? = some (C, T, N)) : (∀ w ∈ u_ws C T N, w ∈ lw_tbl ∧ goodWord w = true) ∧ (∀ a, a < N → ∀ b, b < N → a ≠ b → (T a).2.1 ≠ (T b).2.1) ∧ ∃ ty : Nat → FieldType, ∀ k, k < N → parseFieldDescriptor (T k).2.2.1 = some (ty k) := by
  match ci, hc with
  | 0, hc => cases hc; exact ⟨by decide +kernel, nmX0, _, tyX0_ok⟩
  | 1, hc => cases hc; exact ⟨by decide +kernel, nmX1, _, tyX1_ok⟩
  | 2, hc => cases hc; exact ⟨by decide +kernel, nmX2, _, tyX2_ok⟩
  | 3, hc => cases hc; exact ⟨by decide +kernel, nmX3, _, tyX3_ok⟩
  | 4, hc => cases hc; exact ⟨by decide +kernel, nmX4, _, tyX4_ok⟩
  | 5, hc => cases hc; exact ⟨by decide +kernel, nmX5, _, tyX5_ok⟩
  | 6, hc => cases hc; exact ⟨by decide +kernel, nmX6, _, tyX6_ok⟩
  | 7, hc => cases hc; exact ⟨by decide +kernel, nmX7, _, tyX7_ok⟩
  | 8, hc => cases hc; exact ⟨by decide +kernel, nmX8, _, tyX8_ok⟩
  | 9, hc => cases hc; exact ⟨by decide +kernel, nmX9, _, tyX9_ok⟩
  | 10, hc => cases hc; exact ⟨by decide +kernel, nmL, _, tyL_ok⟩
  | 11, hc => cases hc; exact ⟨by decide +kernel, nmJx4a65c, _, tyJx4a65c_ok⟩
  | 12, hc => cases hc; exact ⟨by decide +kernel, nmJx35411, _, tyJx35411_ok⟩
  | n + 13, hc => exact absurd hc (by simp [vwCl])
theorem kd_small (q : xP) : (kd q).2 ≤ 256 := by
  have key : ∀ l : List (Nat × Nat), (l.all fun z => decide (z.2 ≤ 256)) = true → ∀ j : Nat, (l.getD j (9, 0)).2 ≤ 256 := by
    intro l hl j
    rw [List.getD_eq_getElem?_getD]
    cases hj : l[j]? with
    | none => exact Nat.zero_le _
    | some z => exact of_decide_eq_true (List.all_eq_true.mp hl z (List.mem_of_getElem? hj))
  unfold kd
  split
  · exact key _ rfl _
  · show _ % 64 ≤ 256; omega
  · split
    · exact key _ rfl _
    · show _ % 16 ≤ 256; omega
  · exact key _ rfl _
/-- a field by its link: class ci, place kf, whether it holds a reference -/
def xFL (own : String) (idx ci kf : Nat) (b : Bool) : Prop := ∃ (C : String) (T : u_T) (N : Nat), vwCl[ci]? = some (C, T, N) ∧ kf < N ∧ (fdT.getD ci [])[kf]? = some b ∧ (if b then (∃ E, parseFieldDescriptor (T kf).2.2.1 = some (.object E)) ∨ (∃ E, parseFieldDescriptor (T kf).2.2.1 = some (.array E)) else parseFieldDescriptor (T kf).2.2.1 = some .int) ∧
  ((∃ ref, Cond.fieldLink own idx ref (T kf).2.1 (T kf).2.2.1 ∈ lw_tbl ∧ (ref = (T kf).1 ∨ Cond.sameField ref (T kf).1 (T kf).2.1 (T kf).2.2.1 ∈ lw_tbl)) ∨ ∃ host, Cond.fieldLinkNest own idx (T kf).1 (T kf).2.1 (T kf).2.2.1 host ∈ lw_tbl)
def xFin (ci kf : Nat) : Option Bool := vwCl[ci]?.map fun r => (r.2.1 kf).2.2.2
/-! worlds as lists -/
theorem xw_at {T : Nat → ClassId} {h : xS} {q : xP} (hq : q ∈ h.L) : ∃ i : Nat, h.L[i]? = some q ∧ (xw T h)[i]? = some (h.A q, xe T h q) := by
  obtain ⟨i, hi⟩ := List.getElem?_of_mem hq
  exact ⟨i, hi, by unfold xw; rw [List.getElem?_map, hi]; rfl⟩
theorem xe_off {T : Nat → ClassId} {h h9 : xS} {q : xP} (h1 : h9.I q = h.I q) (h2 : h9.R q = h.R q) (h3 : h9.J q = h.J q) (h4 : h9.F q = h.F q) (h5 : h9.A = h.A) : xe T h9 q = xe T h q := by
  unfold xe xfs
  rw [h1, h2, h5]
theorem xw_set {T : Nat → ClassId} {h h9 : xS} {A : Nat → Prop} {q : xP} {i : Nat} (hD : va_D A (xw T h)) (hi : h.L[i]? = some q) (hL : h9.L = h.L) (hA : h9.A = h.A) (hs : ∀ p : xP, p ≠ q → xe T h9 p = xe T h p) : (xw T h).set i (h.A q, xe T h9 q) = xw T h9 := by
  have hat : ∀ j : Nat, (xw T h)[j]? = (h.L[j]?).map fun p => (h.A p, xe T h p) := fun j => by unfold xw; rw [List.getElem?_map]
  apply List.ext_getElem?
  intro j
  rw [List.getElem?_set]
  unfold xw
  rw [hL, hA, List.getElem?_map]
  have hlt : i < h.L.length := (List.getElem?_eq_some_iff.mp hi).1
  by_cases hj : i = j
  · subst hj
    rw [if_pos rfl, if_pos (by simpa [xw] using hlt), List.getElem?_map, hi]
    rfl
  · rw [if_neg hj]
    rw [List.getElem?_map]
    cases hp : h.L[j]? with
    | none => rfl
    | some p =>
      have hne : p ≠ q := fun z => hj (hD.1 i j _ _ (by rw [hat, hi]; rfl) (by rw [hat, hp]; rfl) (by rw [z]))
      show some (h.A p, xe T h p) = some (h.A p, xe T h9 p)
      rw [hs p hne]
theorem xfs_at {h : xS} {q : xP} {bs : List Bool} {k : Nat} {b : Bool} (hb : bs[k]? = some b) : (xfs h q bs)[k]? = some (if b then va_rf ((h.R q k).map h.A) else .int (Int32.ofInt (h.I q k))) := by
  unfold xfs
  rw [List.getElem?_map, List.getElem?_zipIdx, hb]
  simp
theorem xfs_set {h h9 : xS} {q : xP} {bs : List Bool} {k : Nat} {v : Value} (hlt : k < bs.length) (h1 : ∀ j b, j ≠ k → bs[j]? = some b → (if b then va_rf ((h9.R q j).map h9.A) else Value.int (Int32.ofInt (h9.I q j))) = (if b then va_rf ((h.R q j).map h.A) else .int (Int32.ofInt (h.I q j)))) (h2 : ∀ b, bs[k]? = some b → (if b then va_rf ((h9.R q k).map h9.A) else Value.int (Int32.ofInt (h9.I q k))) = v) : xfs h9 q bs = (xfs h q bs).set k v := by
  apply List.ext_getElem?
  intro j
  rw [List.getElem?_set]
  by_cases hj : k = j
  · subst hj
    have hb : bs[k]? = some bs[k] := List.getElem?_eq_getElem hlt
    rw [if_pos rfl, if_pos (by simpa [xfs] using hlt), xfs_at hb, h2 _ hb]
  · rw [if_neg hj]
    cases hb : bs[j]? with
    | none => simp [xfs, hb]
    | some b => rw [xfs_at hb, xfs_at hb, h1 j b (fun z => hj z.symm) hb]
def xu (I : xP → Nat → Int) (q : xP) (k : Nat) (v : Int) : xP → Nat → Int := fun p j => if p = q ∧ j = k then v else I p j
theorem xu_same {I : xP → Nat → Int} {q : xP} {k : Nat} {v : Int} : xu I q k v q k = v := by simp [xu]
theorem xu_p {I : xP → Nat → Int} {p q : xP} {k : Nat} {v : Int} (hp : p ≠ q) : xu I q k v p = I p := by funext j; simp [xu, hp]
theorem xu_k {I : xP → Nat → Int} {p q : xP} {j k : Nat} {v : Int} (hj : j ≠ k) : xu I q k v p j = I p j := by simp [xu, hj]
theorem xu_in {I : xP → Nat → Int} {q : xP} {k : Nat} {v : Int} (hI : ∀ (p : xP) (j : Nat), xin (I p j)) (hv : xin v) : ∀ (p : xP) (j : Nat), xin (xu I q k v p j) := by
  intro p j
  unfold xu
  split
  · exact hv
  · exact hI p j
def xuR (R : xP → Nat → Option xP) (q : xP) (k : Nat) (v : Option xP) : xP → Nat → Option xP := fun p j => if p = q ∧ j = k then v else R p j
def xuJ (J : xP → Nat → Int64) (q : xP) (k : Nat) (v : Int64) : xP → Nat → Int64 := fun p j => if p = q ∧ j = k then v else J p j
def xuF (J : xP → Nat → UInt64) (q : xP) (k : Nat) (v : UInt64) : xP → Nat → UInt64 := fun p j => if p = q ∧ j = k then v else J p j
section XR
variable {X : xX} {y : xM} {d mc ms : Nat} {V : xT} {pc : Nat} {lo : List (Nat × xV)} {st : List xV} {h : xS} {k n : Nat}
theorem xB.nestF {X : xX} {s : State} (hX : xBase X) (hB : xB X s) {own ref nm ds host : String} {idx : Nat} (hw : Cond.fieldLinkNest own idx ref nm ds host ∈ lw_tbl) {args : Array Value} : (Cond.fieldLinkNest own idx ref nm ds host).before args s = true := va_Nw.use rfl (va_Nw.warmF hB.1 (va_Nw.of rfl (hX.2.1 _ hw)))
theorem xB.nestM {X : xX} {s : State} (hX : xBase X) (hB : xB X s) {own host : String} {idx : Nat} {z : MethodName} (hw : Cond.methodLinkNest own idx z host ∈ lw_tbl) : va_Nw (.methodLinkNest own idx z host) s := va_Nw.warmM hB.1 (va_Nw.of rfl (hX.2.1 _ hw))
theorem x_getI (hV : xEng X y d mc ms V) {idx ci kf : Nat} {q : xP} (hd : decode y.2.1 pc = .ok (.getfield idx, 3)) (hf : xFL y.1.cls idx ci kf false) (hkd : kd q = (0, ci)) (hq : q ∈ h.L) (kk : V (pc + 3) lo (xi (h.I q kf) :: st) h k n) : V pc lo (xr q :: st) h k n := by
  obtain ⟨hX, p, e, s, m, args, below, meth, c, Q, ⟨hx, hb, hml, hown, hlk, hrt, htb, hnm, hB⟩, rfl⟩ := hV
  intro H locs ls hP hD hS hl
  obtain ⟨C, T, N, hc, hkN, hfd, hds, hlk9⟩ := hf
  obtain ⟨hw, hn9, ty, hty⟩ := xcls hc
  obtain ⟨i, hi, hwi⟩ := xw_at (T := X.T) hq
  have he : xe X.T h q = .inr (ci, xfs h q (fdT.getD ci [])) := by unfold xe; rw [hkd]; rfl
  rw [he] at hwi
  have hv := xfs_at (h := h) (q := q) hfd
  have hts : ∀ w ∈ u_ws C T N, w.before args s = true := fun w z => xB.word hX hB (hw w z).1 (hw w z).2
  rcases hlk9 with ⟨ref, hlk9, hrf⟩ | ⟨host, hlk9⟩
  · have hsm9 : ∀ x, s.fieldFound? (T kf).1 (T kf).2.1 (T kf).2.2.1 = some x → s.fieldFound? ref (T kf).2.1 (T kf).2.2.1 = some x := by
      rcases hrf with rfl | hrf
      · exact fun _ z => z
      · exact fun x z => u_same (args := args) (xB.word hX hB hrf rfl) x z
    exact va_get hx hb hts (fun _ z => z) hown (xB.K hX hB) hP i hwi hc kf hkN (xB.word hX hB hlk9 rfl) hsm9 hv hd (kk H locs ls hP hD hS hl)
  · exact va_getN hx hb hts (fun _ z => z) hown (xB.K hX hB) hP i hwi hc kf hkN (xB.nestF hX hB hlk9) (fun _ z => z) hv hd (kk H locs ls hP hD hS hl)
theorem x_getR0 (hV : xEng X y d mc ms V) {idx ci kf : Nat} {q : xP} {t : Option xP} (hd : decode y.2.1 pc = .ok (.getfield idx, 3)) (hf : xFL y.1.cls idx ci kf true) (hkd : kd q = (0, ci)) (hq : q ∈ h.L) (hr : h.R q kf = t) (kk : V (pc + 3) lo ((Sum.inr (Sum.inl t) : xV) :: st) h k n) : V pc lo (xr q :: st) h k n := by
  obtain ⟨hX, p, e, s, m, args, below, meth, c, Q, ⟨hx, hb, hml, hown, hlk, hrt, htb, hnm, hB⟩, rfl⟩ := hV
  intro H locs ls hP hD hS hl
  obtain ⟨C, T, N, hc, hkN, hfd, hds, hlk9⟩ := hf
  obtain ⟨hw, hn9, ty, hty⟩ := xcls hc
  obtain ⟨i, hi, hwi⟩ := xw_at (T := X.T) hq
  have he : xe X.T h q = .inr (ci, xfs h q (fdT.getD ci [])) := by unfold xe; rw [hkd]; rfl
  rw [he] at hwi
  have hv := xfs_at (h := h) (q := q) hfd
  have hts : ∀ w ∈ u_ws C T N, w.before args s = true := fun w z => xB.word hX hB (hw w z).1 (hw w z).2
  rw [hr] at hv
  rcases hlk9 with ⟨ref, hlk9, hrf⟩ | ⟨host, hlk9⟩
  · have hsm9 : ∀ x, s.fieldFound? (T kf).1 (T kf).2.1 (T kf).2.2.1 = some x → s.fieldFound? ref (T kf).2.1 (T kf).2.2.1 = some x := by
      rcases hrf with rfl | hrf
      · exact fun _ z => z
      · exact fun x z => u_same (args := args) (xB.word hX hB hrf rfl) x z
    exact va_get hx hb hts (fun _ z => z) hown (xB.K hX hB) hP i hwi hc kf hkN (xB.word hX hB hlk9 rfl) hsm9 hv hd (by have := kk H locs ls hP hD hS hl; cases t <;> exact this)
  · exact va_getN hx hb hts (fun _ z => z) hown (xB.K hX hB) hP i hwi hc kf hkN (xB.nestF hX hB hlk9) (fun _ z => z) hv hd (by have := kk H locs ls hP hD hS hl; cases t <;> exact this)
theorem x_getR (hV : xEng X y d mc ms V) {idx ci kf : Nat} {q t : xP} (hd : decode y.2.1 pc = .ok (.getfield idx, 3)) (hf : xFL y.1.cls idx ci kf true) (hkd : kd q = (0, ci)) (hq : q ∈ h.L) (hr : h.R q kf = some t) (kk : V (pc + 3) lo (xr t :: st) h k n) : V pc lo (xr q :: st) h k n := x_getR0 hV hd hf hkd hq hr kk
theorem x_putI (hV : xEng X y d mc ms V) {idx ci kf : Nat} {q : xP} {v : Int} (hd : decode y.2.1 pc = .ok (.putfield idx, 3)) (hf : xFL y.1.cls idx ci kf false) (hkd : kd q = (0, ci)) (hq : q ∈ h.L) (hfin : xFin ci kf = some false) (hv9 : xin v) (kk : V (pc + 3) lo st (xu h.I q kf v, h.2) k n) : V pc lo (xi v :: xr q :: st) h k n := by
  obtain ⟨hX, p, e, s, m, args, below, meth, c, Q, ⟨hx, hb, hml, hown, hlk, hrt, htb, hnm, hB⟩, rfl⟩ := hV
  intro H locs ls hP hD hS hl
  obtain ⟨C, T, N, hc, hkN, hfd, hds, hlk9⟩ := hf
  obtain ⟨hw, hn9, ty, hty⟩ := xcls hc
  obtain ⟨i, hi, hwi⟩ := xw_at (T := X.T) hq
  have he : xe X.T h q = .inr (ci, xfs h q (fdT.getD ci [])) := by unfold xe; rw [hkd]; rfl
  rw [he] at hwi
  have hv := xfs_at (h := h) (q := q) hfd
  have hts : ∀ w ∈ u_ws C T N, w.before args s = true := fun w z => xB.word hX hB (hw w z).1 (hw w z).2
  have hfin9 : (T kf).2.2.2 = false := by have := hfin; unfold xFin at this; rw [hc] at this; exact Option.some.inj this
  have hlt : kf < (fdT.getD ci []).length := (List.getElem?_eq_some_iff.mp hfd).1
  have he9 : xe X.T (xu h.I q kf v, h.2) q = .inr (ci, (xfs h q (fdT.getD ci [])).set kf (xc h.A (xi v))) := by
    unfold xe
    rw [hkd]
    show Sum.inr _ = Sum.inr _
    rw [xfs_set (h := h) (v := xc h.A (xi v)) hlt]
    · intro j b hj hb
      simp [xS.I, xS.R, xS.A, xu, hj]
    · intro b hb
      cases hfd.symm.trans hb
      simp [xS.I, xS.R, xS.A, xu, xc]
  have hset := xw_set (h := h) (h9 := (xu h.I q kf v, h.2)) hD.1 hi rfl rfl (fun p hp => xe_off (by funext j; simp [xS.I, xu, hp]) rfl rfl rfl rfl)
  rw [he9] at hset
  have hlen : kf < (xfs h q (fdT.getD ci [])).length := by simpa [xfs] using hlt
  rcases hlk9 with ⟨ref, hlk9, hrf⟩ | ⟨host, hlk9⟩
  · have hsm9 : ∀ x, s.fieldFound? (T kf).1 (T kf).2.1 (T kf).2.2.1 = some x → s.fieldFound? ref (T kf).2.1 (T kf).2.2.1 = some x := by
      rcases hrf with rfl | hrf
      · exact fun _ z => z
      · exact fun x z => u_same (args := args) (xB.word hX hB hrf rfl) x z
    refine va_put hx hb hts (fun _ z => z) ty hty hn9 hown (xB.K hX hB) hP hD.1 hS i hwi hc kf hkN (xB.word hX hB hlk9 rfl) hsm9 hfin9 hds (vp_nar_int _) rfl hlen hd (fun H1 locs1 g1 g2 g3 => ?_)
    have g1 : va_P X.G vwCl ((xw X.T h).set i (h.A q, .inr (ci, (xfs h q (fdT.getD ci [])).set kf (xc h.A (xi v))))) H1 := g1
    have g2 : va_D (xA X) ((xw X.T h).set i (h.A q, .inr (ci, (xfs h q (fdT.getD ci [])).set kf (xc h.A (xi v))))) := g2
    rw [hset] at g1 g2
    exact kk H1 locs1 ls g1 ⟨g2, xu_in hD.2 hv9⟩ g3 hl
  · refine va_putN hx hb hts (fun _ z => z) ty hty hn9 hown (xB.K hX hB) hP hD.1 hS i hwi hc kf hkN (xB.nestF hX hB hlk9) (fun _ z => z) hfin9 hds (vp_nar_int _) rfl hlen hd (fun H1 locs1 g1 g2 g3 => ?_)
    have g1 : va_P X.G vwCl ((xw X.T h).set i (h.A q, .inr (ci, (xfs h q (fdT.getD ci [])).set kf (xc h.A (xi v))))) H1 := g1
    have g2 : va_D (xA X) ((xw X.T h).set i (h.A q, .inr (ci, (xfs h q (fdT.getD ci [])).set kf (xc h.A (xi v))))) := g2
    rw [hset] at g1 g2
    exact kk H1 locs1 ls g1 ⟨g2, xu_in hD.2 hv9⟩ g3 hl
theorem x_putFI (hV : xEng X y d mc ms V) {idx ci kf : Nat} {q : xP} {v : Int} (hd : decode y.2.1 pc = .ok (.putfield idx, 3)) (hf : xFL y.1.cls idx ci kf false) (hkd : kd q = (0, ci)) (hq : q ∈ h.L) (hfin : xFin ci kf = some true) (hin2 : y.1.name = "<init>") (hdc : ∀ (C : String) (T : u_T) (N : Nat), vwCl[ci]? = some (C, T, N) → (T kf).1 = y.1.cls ∧ ∀ host, Cond.fieldLinkNest y.1.cls idx (T kf).1 (T kf).2.1 (T kf).2.2.1 host ∉ lw_tbl) (hv9 : xin v) (kk : V (pc + 3) lo st (xu h.I q kf v, h.2) k n) : V pc lo (xi v :: xr q :: st) h k n := by
  obtain ⟨hX, p, e, s, m, args, below, meth, c, Q, ⟨hx, hb, hml, hown, hlk, hrt, htb, hnm, hB⟩, rfl⟩ := hV
  intro H locs ls hP hD hS hl
  obtain ⟨C, T, N, hc, hkN, hfd, hds, hlk9⟩ := hf
  obtain ⟨hw, hn9, ty, hty⟩ := xcls hc
  obtain ⟨i, hi, hwi⟩ := xw_at (T := X.T) hq
  have he : xe X.T h q = .inr (ci, xfs h q (fdT.getD ci [])) := by unfold xe; rw [hkd]; rfl
  rw [he] at hwi
  have hv := xfs_at (h := h) (q := q) hfd
  have hts : ∀ w ∈ u_ws C T N, w.before args s = true := fun w z => xB.word hX hB (hw w z).1 (hw w z).2
  have hfin9 : (T kf).2.2.2 = true := by have := hfin; unfold xFin at this; rw [hc] at this; exact Option.some.inj this
  have hlt : kf < (fdT.getD ci []).length := (List.getElem?_eq_some_iff.mp hfd).1
  have he9 : xe X.T (xu h.I q kf v, h.2) q = .inr (ci, (xfs h q (fdT.getD ci [])).set kf (xc h.A (xi v))) := by
    unfold xe
    rw [hkd]
    show Sum.inr _ = Sum.inr _
    rw [xfs_set (h := h) (v := xc h.A (xi v)) hlt]
    · intro j b hj hb
      simp [xS.I, xS.R, xS.A, xu, hj]
    · intro b hb
      cases hfd.symm.trans hb
      simp [xS.I, xS.R, xS.A, xu, xc]
  have hset := xw_set (h := h) (h9 := (xu h.I q kf v, h.2)) hD.1 hi rfl rfl (fun p hp => xe_off (by funext j; simp [xS.I, xu, hp]) rfl rfl rfl rfl)
  rw [he9] at hset
  have hlen : kf < (xfs h q (fdT.getD ci [])).length := by simpa [xfs] using hlt
  rcases hlk9 with ⟨ref, hlk9, hrf⟩ | ⟨host, hlk9⟩
  · have hsm9 : ∀ x, s.fieldFound? (T kf).1 (T kf).2.1 (T kf).2.2.1 = some x → s.fieldFound? ref (T kf).2.1 (T kf).2.2.1 = some x := by
      rcases hrf with rfl | hrf
      · exact fun _ z => z
      · exact fun x z => u_same (args := args) (xB.word hX hB hrf rfl) x z
    refine va_putF hx hb hts (fun _ z => z) ty hty hn9 hown (xB.K hX hB) hP hD.1 hS i hwi hc kf hkN (xB.word hX hB hlk9 rfl) hsm9 hfin9 (by rw [hnm]; exact hin2) (hdc _ _ _ hc).1 hds (vp_nar_int _) rfl hlen hd (fun H1 locs1 g1 g2 g3 => ?_)
    have g1 : va_P X.G vwCl ((xw X.T h).set i (h.A q, .inr (ci, (xfs h q (fdT.getD ci [])).set kf (xc h.A (xi v))))) H1 := g1
    have g2 : va_D (xA X) ((xw X.T h).set i (h.A q, .inr (ci, (xfs h q (fdT.getD ci [])).set kf (xc h.A (xi v))))) := g2
    rw [hset] at g1 g2
    exact kk H1 locs1 ls g1 ⟨g2, xu_in hD.2 hv9⟩ g3 hl
  · exact absurd hlk9 ((hdc _ _ _ hc).2 host)
theorem x_putFR (hV : xEng X y d mc ms V) {idx ci kf : Nat} {q : xP} {v : xP} (hd : decode y.2.1 pc = .ok (.putfield idx, 3)) (hf : xFL y.1.cls idx ci kf true) (hkd : kd q = (0, ci)) (hq : q ∈ h.L) (hfin : xFin ci kf = some true) (hin2 : y.1.name = "<init>") (hdc : ∀ (C : String) (T : u_T) (N : Nat), vwCl[ci]? = some (C, T, N) → (T kf).1 = y.1.cls ∧ ∀ host, Cond.fieldLinkNest y.1.cls idx (T kf).1 (T kf).2.1 (T kf).2.2.1 host ∉ lw_tbl) (kk : V (pc + 3) lo st (h.1, xuR h.R q kf (some v), h.2.2) k n) : V pc lo (xr v :: xr q :: st) h k n := by
  obtain ⟨hX, p, e, s, m, args, below, meth, c, Q, ⟨hx, hb, hml, hown, hlk, hrt, htb, hnm, hB⟩, rfl⟩ := hV
  intro H locs ls hP hD hS hl
  obtain ⟨C, T, N, hc, hkN, hfd, hds, hlk9⟩ := hf
  obtain ⟨hw, hn9, ty, hty⟩ := xcls hc
  obtain ⟨i, hi, hwi⟩ := xw_at (T := X.T) hq
  have he : xe X.T h q = .inr (ci, xfs h q (fdT.getD ci [])) := by unfold xe; rw [hkd]; rfl
  rw [he] at hwi
  have hv := xfs_at (h := h) (q := q) hfd
  have hts : ∀ w ∈ u_ws C T N, w.before args s = true := fun w z => xB.word hX hB (hw w z).1 (hw w z).2
  have hfin9 : (T kf).2.2.2 = true := by have := hfin; unfold xFin at this; rw [hc] at this; exact Option.some.inj this
  have hlt : kf < (fdT.getD ci []).length := (List.getElem?_eq_some_iff.mp hfd).1
  have he9 : xe X.T (h.1, xuR h.R q kf (some v), h.2.2) q = .inr (ci, (xfs h q (fdT.getD ci [])).set kf (xc h.A (xr v))) := by
    unfold xe
    rw [hkd]
    show Sum.inr _ = Sum.inr _
    rw [xfs_set (h := h) (v := xc h.A (xr v)) hlt]
    · intro j b hj hb
      simp [xS.I, xS.R, xS.A, xuR, hj]
    · intro b hb
      cases hfd.symm.trans hb
      simp [xS.I, xS.R, xS.A, xuR, xc, va_rf]
  have hset := xw_set (h := h) (h9 := (h.1, xuR h.R q kf (some v), h.2.2)) hD.1 hi rfl rfl (fun p hp => xe_off rfl (by funext j; simp [xS.R, xuR, hp]) rfl rfl rfl)
  rw [he9] at hset
  have hlen : kf < (xfs h q (fdT.getD ci [])).length := by simpa [xfs] using hlt
  rcases hlk9 with ⟨ref, hlk9, hrf⟩ | ⟨host, hlk9⟩
  · have hsm9 : ∀ x, s.fieldFound? (T kf).1 (T kf).2.1 (T kf).2.2.1 = some x → s.fieldFound? ref (T kf).2.1 (T kf).2.2.1 = some x := by
      rcases hrf with rfl | hrf
      · exact fun _ z => z
      · exact fun x z => u_same (args := args) (xB.word hX hB hrf rfl) x z
    rcases hds with ⟨E, hds⟩ | ⟨E, hds⟩
    all_goals
    refine va_putF hx hb hts (fun _ z => z) ty hty hn9 hown (xB.K hX hB) hP hD.1 hS i hwi hc kf hkN (xB.word hX hB hlk9 rfl) hsm9 hfin9 (by rw [hnm]; exact hin2) (hdc _ _ _ hc).1 hds rfl rfl hlen hd (fun H1 locs1 g1 g2 g3 => ?_)
    have g1 : va_P X.G vwCl ((xw X.T h).set i (h.A q, .inr (ci, (xfs h q (fdT.getD ci [])).set kf (xc h.A (xr v))))) H1 := g1
    have g2 : va_D (xA X) ((xw X.T h).set i (h.A q, .inr (ci, (xfs h q (fdT.getD ci [])).set kf (xc h.A (xr v))))) := g2
    rw [hset] at g1 g2
    exact kk H1 locs1 ls g1 ⟨g2, hD.2⟩ g3 hl
  · exact absurd hlk9 ((hdc _ _ _ hc).2 host)
theorem x_putR (hV : xEng X y d mc ms V) {idx ci kf : Nat} {q : xP} {v : xP} (hd : decode y.2.1 pc = .ok (.putfield idx, 3)) (hf : xFL y.1.cls idx ci kf true) (hkd : kd q = (0, ci)) (hq : q ∈ h.L) (hfin : xFin ci kf = some false) (kk : V (pc + 3) lo st (h.1, xuR h.R q kf (some v), h.2.2) k n) : V pc lo (xr v :: xr q :: st) h k n := by
  obtain ⟨hX, p, e, s, m, args, below, meth, c, Q, ⟨hx, hb, hml, hown, hlk, hrt, htb, hnm, hB⟩, rfl⟩ := hV
  intro H locs ls hP hD hS hl
  obtain ⟨C, T, N, hc, hkN, hfd, hds, hlk9⟩ := hf
  obtain ⟨hw, hn9, ty, hty⟩ := xcls hc
  obtain ⟨i, hi, hwi⟩ := xw_at (T := X.T) hq
  have he : xe X.T h q = .inr (ci, xfs h q (fdT.getD ci [])) := by unfold xe; rw [hkd]; rfl
  rw [he] at hwi
  have hv := xfs_at (h := h) (q := q) hfd
  have hts : ∀ w ∈ u_ws C T N, w.before args s = true := fun w z => xB.word hX hB (hw w z).1 (hw w z).2
  have hfin9 : (T kf).2.2.2 = false := by have := hfin; unfold xFin at this; rw [hc] at this; exact Option.some.inj this
  have hlt : kf < (fdT.getD ci []).length := (List.getElem?_eq_some_iff.mp hfd).1
  have he9 : xe X.T (h.1, xuR h.R q kf (some v), h.2.2) q = .inr (ci, (xfs h q (fdT.getD ci [])).set kf (xc h.A (xr v))) := by
    unfold xe
    rw [hkd]
    show Sum.inr _ = Sum.inr _
    rw [xfs_set (h := h) (v := xc h.A (xr v)) hlt]
    · intro j b hj hb
      simp [xS.I, xS.R, xS.A, xuR, hj]
    · intro b hb
      cases hfd.symm.trans hb
      simp [xS.I, xS.R, xS.A, xuR, xc, va_rf]
  have hset := xw_set (h := h) (h9 := (h.1, xuR h.R q kf (some v), h.2.2)) hD.1 hi rfl rfl (fun p hp => xe_off rfl (by funext j; simp [xS.R, xuR, hp]) rfl rfl rfl)
  rw [he9] at hset
  have hlen : kf < (xfs h q (fdT.getD ci [])).length := by simpa [xfs] using hlt
  rcases hlk9 with ⟨ref, hlk9, hrf⟩ | ⟨host, hlk9⟩
  · have hsm9 : ∀ x, s.fieldFound? (T kf).1 (T kf).2.1 (T kf).2.2.1 = some x → s.fieldFound? ref (T kf).2.1 (T kf).2.2.1 = some x := by
      rcases hrf with rfl | hrf
      · exact fun _ z => z
      · exact fun x z => u_same (args := args) (xB.word hX hB hrf rfl) x z
    rcases hds with ⟨E, hds⟩ | ⟨E, hds⟩
    all_goals
      refine va_put hx hb hts (fun _ z => z) ty hty hn9 hown (xB.K hX hB) hP hD.1 hS i hwi hc kf hkN (xB.word hX hB hlk9 rfl) hsm9 hfin9 hds rfl rfl hlen hd (fun H1 locs1 g1 g2 g3 => ?_)
      have g1 : va_P X.G vwCl ((xw X.T h).set i (h.A q, .inr (ci, (xfs h q (fdT.getD ci [])).set kf (xc h.A (xr v))))) H1 := g1
      have g2 : va_D (xA X) ((xw X.T h).set i (h.A q, .inr (ci, (xfs h q (fdT.getD ci [])).set kf (xc h.A (xr v))))) := g2
      rw [hset] at g1 g2
      exact kk H1 locs1 ls g1 ⟨g2, hD.2⟩ g3 hl
  · rcases hds with ⟨E, hds⟩ | ⟨E, hds⟩
    all_goals
      refine va_putN hx hb hts (fun _ z => z) ty hty hn9 hown (xB.K hX hB) hP hD.1 hS i hwi hc kf hkN (xB.nestF hX hB hlk9) (fun _ z => z) hfin9 hds rfl rfl hlen hd (fun H1 locs1 g1 g2 g3 => ?_)
      have g1 : va_P X.G vwCl ((xw X.T h).set i (h.A q, .inr (ci, (xfs h q (fdT.getD ci [])).set kf (xc h.A (xr v))))) H1 := g1
      have g2 : va_D (xA X) ((xw X.T h).set i (h.A q, .inr (ci, (xfs h q (fdT.getD ci [])).set kf (xc h.A (xr v))))) := g2
      rw [hset] at g1 g2
      exact kk H1 locs1 ls g1 ⟨g2, hD.2⟩ g3 hl
theorem x_iaload (hV : xEng X y d mc ms V) {a : Int} {q : xP} {nn : Nat} (hd : decode y.2.1 pc = .ok (.iaload, 1)) (hkd : kd q = (1, nn)) (hq : q ∈ h.L) (h0 : 0 ≤ a) (h1 : a < nn) (kk : V (pc + 1) lo (xi (h.I q a.toNat) :: st) h k n) : V pc lo (xi a :: xr q :: st) h k n := by
  obtain ⟨hX, p, e, s, m, args, below, meth, c, Q, ⟨hx, hb, hml, hown, hlk, hrt, htb, hnm, hB⟩, rfl⟩ := hV
  intro H locs ls hP hD hS hl
  obtain ⟨i, hi, hwi⟩ := xw_at (T := X.T) hq
  have hsm := kd_small q
  rw [hkd] at hsm
  have hsm : nn ≤ 256 := hsm
  have he : xe X.T h q = .inl (X.T 1, nn, .inl fun k => Int32.ofInt (h.I q k)) := by unfold xe; rw [hkd]; rfl
  rw [he] at hwi
  exact va_iald hx hb (xB.K hX hB) hP i 0 hwi rfl (xo_in h0 h1 (by omega)) hd (by rw [xo_cl h0 (by omega)]; exact kk H locs ls hP hD hS hl)
theorem x_iastore (hV : xEng X y d mc ms V) {a : Int} {v : Int} {q : xP} {nn : Nat} (hd : decode y.2.1 pc = .ok (.iastore, 1)) (hkd : kd q = (1, nn)) (hq : q ∈ h.L) (h0 : 0 ≤ a) (h1 : a < nn) (hv9 : xin v) (kk : V (pc + 1) lo st (xu h.I q a.toNat v, h.2) k n) : V pc lo (xi v :: xi a :: xr q :: st) h k n := by
  obtain ⟨hX, p, e, s, m, args, below, meth, c, Q, ⟨hx, hb, hml, hown, hlk, hrt, htb, hnm, hB⟩, rfl⟩ := hV
  intro H locs ls hP hD hS hl
  obtain ⟨i, hi, hwi⟩ := xw_at (T := X.T) hq
  have hsm := kd_small q
  rw [hkd] at hsm
  have hsm : nn ≤ 256 := hsm
  have he : xe X.T h q = .inl (X.T 1, nn, .inl fun k => Int32.ofInt (h.I q k)) := by unfold xe; rw [hkd]; rfl
  rw [he] at hwi
  have hset := xw_set (h := h) (h9 := (xu h.I q a.toNat v, h.2)) hD.1 hi rfl rfl (fun p hp => xe_off (by funext j; simp [xS.I, xu, hp]) rfl rfl rfl rfl)
  have he9 : ∀ g, g = xe X.T (xu h.I q a.toNat v, h.2) q → (xw X.T h).set i (h.A q, g) = xw X.T (xu h.I q a.toNat v, h.2) := fun g hg => by rw [hg]; exact hset
  refine va_iast hx hb (xB.K hX hB) hP hD.1 hS i 0 hwi rfl (xo_in h0 h1 (by omega)) hd (fun H1 locs1 g1 g2 g3 => ?_)
  rw [xo_cl h0 (by omega)] at g1 g2
  rw [he9] at g1 g2
  · exact kk H1 locs1 ls g1 ⟨g2, xu_in hD.2 hv9⟩ g3 hl
  all_goals
    unfold xe
    rw [hkd]
    simp only [xS.I, xS.J, xS.F, Sum.inl.injEq, Prod.mk.injEq, Sum.inr.injEq, true_and]
    funext j
    by_cases hj : j = a.toNat <;> simp [upd, vp_updL, va_up, xu, xuJ, xuF, vf_upd, hj]
theorem x_baload (hV : xEng X y d mc ms V) {a : Int} {q : xP} {nn : Nat} (hd : decode y.2.1 pc = .ok (.baload, 1)) (hkd : kd q = (2, nn)) (hq : q ∈ h.L) (h0 : 0 ≤ a) (h1 : a < nn) (kk : V (pc + 1) lo (xi (h.I q a.toNat) :: st) h k n) : V pc lo (xi a :: xr q :: st) h k n := by
  obtain ⟨hX, p, e, s, m, args, below, meth, c, Q, ⟨hx, hb, hml, hown, hlk, hrt, htb, hnm, hB⟩, rfl⟩ := hV
  intro H locs ls hP hD hS hl
  obtain ⟨i, hi, hwi⟩ := xw_at (T := X.T) hq
  have hsm := kd_small q
  rw [hkd] at hsm
  have hsm : nn ≤ 256 := hsm
  have he : xe X.T h q = .inl (X.T 2, nn, .inl fun k => Int32.ofInt (h.I q k)) := by unfold xe; rw [hkd]; rfl
  rw [he] at hwi
  exact va_zald hx hb (xB.K hX hB) hP i 1 hwi rfl (xo_in h0 h1 (by omega)) hd (by rw [xo_cl h0 (by omega)]; exact kk H locs ls hP hD hS hl)
theorem x_bastore (hV : xEng X y d mc ms V) {a : Int} {v : Int} {q : xP} {nn : Nat} (hd : decode y.2.1 pc = .ok (.bastore, 1)) (hkd : kd q = (2, nn)) (hq : q ∈ h.L) (h0 : 0 ≤ a) (h1 : a < nn) (hv9 : v = 0 ∨ v = 1) (kk : V (pc + 1) lo st (xu h.I q a.toNat v, h.2) k n) : V pc lo (xi v :: xi a :: xr q :: st) h k n := by
  obtain ⟨hX, p, e, s, m, args, below, meth, c, Q, ⟨hx, hb, hml, hown, hlk, hrt, htb, hnm, hB⟩, rfl⟩ := hV
  intro H locs ls hP hD hS hl
  obtain ⟨i, hi, hwi⟩ := xw_at (T := X.T) hq
  have hsm := kd_small q
  rw [hkd] at hsm
  have hsm : nn ≤ 256 := hsm
  have he : xe X.T h q = .inl (X.T 2, nn, .inl fun k => Int32.ofInt (h.I q k)) := by unfold xe; rw [hkd]; rfl
  rw [he] at hwi
  have hnz : vp_nar .boolean (Int32.ofInt v) = Int32.ofInt v := by rcases hv9 with rfl | rfl <;> decide
  have hset := xw_set (h := h) (h9 := (xu h.I q a.toNat v, h.2)) hD.1 hi rfl rfl (fun p hp => xe_off (by funext j; simp [xS.I, xu, hp]) rfl rfl rfl rfl)
  have he9 : ∀ g, g = xe X.T (xu h.I q a.toNat v, h.2) q → (xw X.T h).set i (h.A q, g) = xw X.T (xu h.I q a.toNat v, h.2) := fun g hg => by rw [hg]; exact hset
  refine va_zast hx hb (xB.K hX hB) hP hD.1 hS i 1 hwi rfl (xo_in h0 h1 (by omega)) hd (fun H1 locs1 g1 g2 g3 => ?_)
  rw [xo_cl h0 (by omega), hnz] at g1 g2
  rw [he9] at g1 g2
  · exact kk H1 locs1 ls g1 ⟨g2, xu_in hD.2 (by rcases hv9 with rfl | rfl <;> exact ⟨by decide, by decide⟩)⟩ g3 hl
  all_goals
    unfold xe
    rw [hkd]
    simp only [xS.I, xS.J, xS.F, Sum.inl.injEq, Prod.mk.injEq, Sum.inr.injEq, true_and]
    funext j
    by_cases hj : j = a.toNat <;> simp [upd, vp_updL, va_up, xu, xuJ, xuF, vf_upd, hj]
theorem x_aaload (hV : xEng X y d mc ms V) {a : Int} {q : xP} {t : Option xP} {nn : Nat} (hd : decode y.2.1 pc = .ok (.aaload, 1)) (hkd : kd q = (4, nn)) (hq : q ∈ h.L) (h0 : 0 ≤ a) (h1 : a < nn) (hr : h.R q a.toNat = t) (kk : V (pc + 1) lo ((Sum.inr (Sum.inl t) : xV) :: st) h k n) : V pc lo (xi a :: xr q :: st) h k n := by
  obtain ⟨hX, p, e, s, m, args, below, meth, c, Q, ⟨hx, hb, hml, hown, hlk, hrt, htb, hnm, hB⟩, rfl⟩ := hV
  intro H locs ls hP hD hS hl
  obtain ⟨i, hi, hwi⟩ := xw_at (T := X.T) hq
  have hsm := kd_small q
  rw [hkd] at hsm
  have hsm : nn ≤ 256 := hsm
  have he : xe X.T h q = .inl (X.T 4, nn, .inr (.inr (.inr (.inr fun k => (h.R q k).map h.A)))) := by unfold xe; rw [hkd]; rfl
  rw [he] at hwi
  refine va_aldq hx hb (xB.K hX hB) hP i 2 hwi rfl (xo_in h0 h1 (by omega)) hd ?_
  rw [xo_cl h0 (by omega)]
  have := kk H locs ls hP hD hS hl
  rw [hr]
  cases t <;> exact this
theorem x_aastore (hV : xEng X y d mc ms V) {a : Int} {q t : xP} {nn : Nat} (hd : decode y.2.1 pc = .ok (.aastore, 1)) (hkd : kd q = (4, nn)) (hq : q ∈ h.L) (hkt : kd t = (0, 3)) (ht : t ∈ h.L) (h0 : 0 ≤ a) (h1 : a < nn) (kk : V (pc + 1) lo st (h.1, xuR h.R q a.toNat (some t), h.2.2) k n) : V pc lo (xr t :: xi a :: xr q :: st) h k n := by
  obtain ⟨hX, p, e, s, m, args, below, meth, c, Q, ⟨hx, hb, hml, hown, hlk, hrt, htb, hnm, hB⟩, rfl⟩ := hV
  intro H locs ls hP hD hS hl
  obtain ⟨i, hi, hwi⟩ := xw_at (T := X.T) hq
  have hsm := kd_small q
  rw [hkd] at hsm
  have hsm : nn ≤ 256 := hsm
  have he : xe X.T h q = .inl (X.T 4, nn, .inr (.inr (.inr (.inr fun k => (h.R q k).map h.A)))) := by unfold xe; rw [hkd]; rfl
  rw [he] at hwi
  obtain ⟨j, hj, hwj⟩ := xw_at (T := X.T) ht
  have hej : xe X.T h t = .inr (3, xfs h t (fdT.getD 3 [])) := by unfold xe; rw [hkt]; rfl
  rw [hej] at hwj
  have hset := xw_set (h := h) (h9 := (h.1, xuR h.R q a.toNat (some t), h.2.2)) hD.1 hi rfl rfl (fun p hp => xe_off rfl (by funext j; simp [xS.R, xuR, hp]) rfl rfl rfl)
  have he9 : ∀ g, g = xe X.T (h.1, xuR h.R q a.toNat (some t), h.2.2) q → (xw X.T h).set i (h.A q, g) = xw X.T (h.1, xuR h.R q a.toNat (some t), h.2.2) := fun g hg => by rw [hg]; exact hset
  refine va_astq hx hb (xB.K hX hB) hP hD.1 hS i 2 j 3 hwi rfl hwj rfl (xo_in h0 h1 (by omega)) hd (fun H1 locs1 g1 g2 g3 => ?_)
  rw [xo_cl h0 (by omega)] at g1 g2
  rw [he9] at g1 g2
  · exact kk H1 locs1 ls g1 ⟨g2, hD.2⟩ g3 hl
  all_goals
    unfold xe
    rw [hkd]
    simp only [xS.R, xS.A, Sum.inl.injEq, Prod.mk.injEq, Sum.inr.injEq, true_and]
    funext j
    by_cases hj : j = a.toNat <;> simp [va_up, xuR, hj]
theorem x_alen (hV : xEng X y d mc ms V) {q : xP} {nn : Nat} (hd : decode y.2.1 pc = .ok (.arraylength, 1)) (hkd : kd q = (1, nn) ∨ kd q = (4, nn)) (hq : q ∈ h.L) (kk : V (pc + 1) lo (xi nn :: st) h k n) : V pc lo (xr q :: st) h k n := by
  obtain ⟨hX, p, e, s, m, args, below, meth, c, Q, ⟨hx, hb, hml, hown, hlk, hrt, htb, hnm, hB⟩, rfl⟩ := hV
  intro H locs ls hP hD hS hl
  obtain ⟨i, hi, hwi⟩ := xw_at (T := X.T) hq
  have hk := kk H locs ls hP hD hS hl
  rcases hkd with hkd | hkd
  · have he : xe X.T h q = .inl (X.T 1, nn, .inl fun k => Int32.ofInt (h.I q k)) := by unfold xe; rw [hkd]; rfl
    rw [he] at hwi
    exact va_alen hx hb (xB.K hX hB) hP i 0 hwi rfl (Int32.ofInt_eq_ofNat (n := nn)).symm hd hk
  · have he : xe X.T h q = .inl (X.T 4, nn, .inr (.inr (.inr (.inr fun k => (h.R q k).map h.A)))) := by unfold xe; rw [hkd]; rfl
    rw [he] at hwi
    exact va_alen hx hb (xB.K hX hB) hP i 2 hwi rfl (Int32.ofInt_eq_ofNat (n := nn)).symm hd hk
end XR
