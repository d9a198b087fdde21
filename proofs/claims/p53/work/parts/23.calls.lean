def xhas (q : xP) : xV → Bool
  | .inr (.inl (some p)) => decide (p = q)
  | _ => false
def xnew (h : xS) (q : xP) (a : Nat) : xS := (fun p => if p = q then fun _ => 0 else h.I p, fun p => if p = q then fun _ => none else h.R p, fun p => if p = q then fun _ => 0 else h.J p, fun p => if p = q then fun _ => 0 else h.F p, h.L ++ [q], fun p => if p = q then a else h.A p)
theorem xc_new {h : xS} {q : xP} {a : Nat} {v : xV} (hv : xhas q v = false) : xc (xnew h q a).A v = xc h.A v := by
  rcases v with v | v | v | v | v <;> try rfl
  cases v with
  | none => rfl
  | some p =>
    have : p ≠ q := by simpa [xhas] using hv
    simp [xS.I, xS.R, xS.J, xS.F, xS.L, xS.A, xc, xnew, this]
theorem xw_new {T : Nat → ClassId} {h : xS} {q : xP} {a : Nat} (hq : q ∉ h.L) (hnr : ∀ (p : xP) (k : Nat), h.R p k ≠ some q) : xw T (xnew h q a) = xw T h ++ [(a, xe T (xnew h q a) q)] := by
  unfold xw
  show List.map _ (h.L ++ [q]) = _
  rw [List.map_append]
  congr 1
  · apply List.map_congr_left
    intro p hp
    have hne : p ≠ q := fun z => hq (z ▸ hp)
    have h1 : (xnew h q a).A p = h.A p := by simp [xS.I, xS.R, xS.J, xS.F, xS.L, xS.A, xnew, hne]
    rw [h1]
    congr 1
    have h2 : (xnew h q a).I p = h.I p := by simp [xS.I, xS.R, xS.J, xS.F, xS.L, xS.A, xnew, hne]
    have h4 : (xnew h q a).J p = h.J p := by simp [xS.I, xS.R, xS.J, xS.F, xS.L, xS.A, xnew, hne]
    have h5 : (xnew h q a).F p = h.F p := by simp [xS.I, xS.R, xS.J, xS.F, xS.L, xS.A, xnew, hne]
    have h3 : ∀ k, ((xnew h q a).R p k).map (xnew h q a).A = (h.R p k).map h.A := by
      intro k
      have h6 : (xnew h q a).R p = h.R p := by simp [xS.I, xS.R, xS.J, xS.F, xS.L, xS.A, xnew, hne]
      rw [h6]
      cases hr : h.R p k with
      | none => rfl
      | some t =>
        have ht : t ≠ q := fun z => hnr p k (by rw [hr, z])
        simp [xS.I, xS.R, xS.J, xS.F, xS.L, xS.A, xnew, ht]
    unfold xe xfs
    simp only [h2, h3, h4, h5]
  · show [((xnew h q a).A q, _)] = _
    simp [xS.I, xS.R, xS.J, xS.F, xS.L, xS.A, xnew]
theorem xuR_nr {R : xP → Nat → Option xP} {q q0 t : xP} {k0 : Nat} (ht : t ≠ q) (hR : ∀ (p : xP) (k : Nat), R p k ≠ some q) : ∀ (p : xP) (k : Nat), xuR R q0 k0 (some t) p k ≠ some q := by
  intro p k
  unfold xuR
  split
  · simpa using ht
  · exact hR p k
theorem xnew_nr {h : xS} {q0 q : xP} {a : Nat} (hR : ∀ (p : xP) (k : Nat), h.R p k ≠ some q) : ∀ (p : xP) (k : Nat), (xnew h q0 a).R p k ≠ some q := by
  intro p k
  show (if p = q0 then fun _ => none else h.R p) k ≠ some q
  split
  · simp
  · exact hR p k
theorem xnew_in {h : xS} {q0 : xP} {a : Nat} (hI : ∀ (p : xP) (j : Nat), xin (h.I p j)) : ∀ (p : xP) (j : Nat), xin ((xnew h q0 a).I p j) := by
  intro p j
  show xin ((if p = q0 then fun _ => 0 else h.I p) j)
  split
  · exact (⟨by decide, by decide⟩ : xin 0)
  · exact hI p j
section XR
variable {X : xX} {y : xM} {d mc ms : Nat} {V : xT} {pc : Nat} {lo : List (Nat × xV)} {st : List xV} {h : xS} {k n : Nat}
theorem x_newAI (hV : xEng X y d mc ms V) {nn : Nat} {v : Int} {q : xP} (hd : decode y.2.1 pc = .ok (.newarray .int, 2)) (hv : v = nn) (hkd : kd q = (1, nn)) (hq : q ∉ h.L) (hnr : ∀ (p : xP) (k : Nat), h.R p k ≠ some q) (hfr : ∀ v ∈ lo.map Prod.snd ++ st, xhas q v = false) (hk1 : k + 1 ≤ mc) (hn1 : n + nn ≤ ms) (kk : ∀ a : Nat, V (pc + 2) lo (xr q :: st) (xnew h q a) (k + 1) (n + nn)) : V pc lo (xi v :: st) h k n := by
  obtain ⟨hX, p, e, s, m, args, below, meth, c, Q, ⟨hx, hb, hml, hown, hlk, hrt, htb, hnm, hB⟩, rfl⟩ := hV
  intro H locs ls hP hD hS hl
  have hsm := kd_small q
  rw [hkd] at hsm
  have hsm : nn ≤ 256 := hsm
  subst hv
  have hw : Cond.arrayClass .int ∈ lw_tbl := by decide +kernel
  refine va_newa (atype := .int) (ty := .int) (a0 := (nn, .inl fun _ => 0)) (N' := nn) hx hb (xB.word hX hB hw rfl) rfl (xB.K hX hB) hP hD.1 hS (fun z hz => Nat.le_trans hB.2.1 hz) (fun _ => rfl) (by rw [xo_0, xo_lt ⟨by omega, by omega⟩ x0in]; omega) (by rw [xo_cl (by omega) (by omega)]; omega) (by simp only [componentBytes]; omega) hk1 hn1 hd (fun a cA H1 gK gP gD gS => ?_)
  have hcA : cA = X.T 1 := by
    have z1 := (gK.2 4 (cA, .int) rfl).2
    have z2 := (gK.2 0 (X.T 1, .int) rfl).2
    exact Option.some.inj (z1.symm.trans z2)
  subst hcA
  have hmap : (lo.map fun z => (z.1, xc (xnew h q a).A z.2)) = lo.map fun z => (z.1, xc h.A z.2) := List.map_congr_left fun z hz => by rw [xc_new (hfr z.2 (List.mem_append_left _ (List.mem_map_of_mem hz)))]
  have hmap2 : st.map (xc (xnew h q a).A) = st.map (xc h.A) := List.map_congr_left fun z hz => xc_new (hfr z (List.mem_append_right _ hz))
  have hqa : (xnew h q a).A q = a := by simp [xS.I, xS.R, xS.J, xS.F, xS.L, xS.A, xnew]
  have hxe : xe X.T (xnew h q a) q = .inl (X.T 1, (nn, .inl fun _ => 0)) := by
    unfold xe
    rw [hkd]
    simp only [xS.I, xS.J, xS.F, xnew, if_true] <;> rfl
  have hxw := xw_new (T := X.T) (a := a) hq hnr
  rw [hxe] at hxw
  rw [← hxw] at gP gD
  have := kk a H1 locs ls gP ⟨gD, xnew_in hD.2⟩ gS (by rw [hmap]; exact hl)
  simp only [List.map_cons, xc, hmap2, hqa] at this
  exact this
theorem x_newAB (hV : xEng X y d mc ms V) {nn : Nat} {v : Int} {q : xP} (hd : decode y.2.1 pc = .ok (.newarray .boolean, 2)) (hv : v = nn) (hkd : kd q = (2, nn)) (hq : q ∉ h.L) (hnr : ∀ (p : xP) (k : Nat), h.R p k ≠ some q) (hfr : ∀ v ∈ lo.map Prod.snd ++ st, xhas q v = false) (hk1 : k + 1 ≤ mc) (hn1 : n + nn ≤ ms) (kk : ∀ a : Nat, V (pc + 2) lo (xr q :: st) (xnew h q a) (k + 1) (n + nn)) : V pc lo (xi v :: st) h k n := by
  obtain ⟨hX, p, e, s, m, args, below, meth, c, Q, ⟨hx, hb, hml, hown, hlk, hrt, htb, hnm, hB⟩, rfl⟩ := hV
  intro H locs ls hP hD hS hl
  have hsm := kd_small q
  rw [hkd] at hsm
  have hsm : nn ≤ 256 := hsm
  subst hv
  have hw : Cond.arrayClass .boolean ∈ lw_tbl := by decide +kernel
  refine va_newa (atype := .boolean) (ty := .boolean) (a0 := (nn, .inl fun _ => 0)) (N' := nn) hx hb (xB.word hX hB hw rfl) rfl (xB.K hX hB) hP hD.1 hS (fun z hz => Nat.le_trans hB.2.1 hz) (fun _ => rfl) (by rw [xo_0, xo_lt ⟨by omega, by omega⟩ x0in]; omega) (by rw [xo_cl (by omega) (by omega)]; omega) (by simp only [componentBytes]; omega) hk1 hn1 hd (fun a cA H1 gK gP gD gS => ?_)
  have hcA : cA = X.T 2 := by
    have z1 := (gK.2 4 (cA, .boolean) rfl).2
    have z2 := (gK.2 1 (X.T 2, .boolean) rfl).2
    exact Option.some.inj (z1.symm.trans z2)
  subst hcA
  have hmap : (lo.map fun z => (z.1, xc (xnew h q a).A z.2)) = lo.map fun z => (z.1, xc h.A z.2) := List.map_congr_left fun z hz => by rw [xc_new (hfr z.2 (List.mem_append_left _ (List.mem_map_of_mem hz)))]
  have hmap2 : st.map (xc (xnew h q a).A) = st.map (xc h.A) := List.map_congr_left fun z hz => xc_new (hfr z (List.mem_append_right _ hz))
  have hqa : (xnew h q a).A q = a := by simp [xS.I, xS.R, xS.J, xS.F, xS.L, xS.A, xnew]
  have hxe : xe X.T (xnew h q a) q = .inl (X.T 2, (nn, .inl fun _ => 0)) := by
    unfold xe
    rw [hkd]
    simp only [xS.I, xS.J, xS.F, xnew, if_true] <;> rfl
  have hxw := xw_new (T := X.T) (a := a) hq hnr
  rw [hxe] at hxw
  rw [← hxw] at gP gD
  have := kk a H1 locs ls gP ⟨gD, xnew_in hD.2⟩ gS (by rw [hmap]; exact hl)
  simp only [List.map_cons, xc, hmap2, hqa] at this
  exact this
theorem x_newR (hV : xEng X y d mc ms V) {nn idx : Nat} {v : Int} {q : xP} (hd : decode y.2.1 pc = .ok (.anewarray idx, 3)) (hw : Cond.classLink y.1.cls idx RX3 ∈ lw_tbl) (hv : v = nn) (hkd : kd q = (4, nn)) (hq : q ∉ h.L) (hnr : ∀ (p : xP) (k : Nat), h.R p k ≠ some q) (hfr : ∀ v ∈ lo.map Prod.snd ++ st, xhas q v = false) (hk1 : k + 1 ≤ mc) (hn1 : n + nn ≤ ms) (kk : ∀ a : Nat, V (pc + 3) lo (xr q :: st) (xnew h q a) (k + 1) (n + nn)) : V pc lo (xi v :: st) h k n := by
  obtain ⟨hX, p, e, s, m, args, below, meth, c, Q, ⟨hx, hb, hml, hown, hlk, hrt, htb, hnm, hB⟩, rfl⟩ := hV
  intro H locs ls hP hD hS hl
  have hsm := kd_small q
  rw [hkd] at hsm
  have hsm : nn ≤ 256 := hsm
  subst hv
  have hw9 : Cond.arrayOver (.object RX3) ∈ lw_tbl := by decide +kernel
  refine va_newq (C := RX3) (N' := nn) hx hb hown (xB.word hX hB hw rfl) (va_AO.moved hB.1.alike (va_AO.of (A := X.2.2.1) (hX.2.1 _ hw9))) (xB.K hX hB) hP hD.1 hS (fun z hz => Nat.le_trans hB.2.1 hz) (by rw [xo_0, xo_lt ⟨by omega, by omega⟩ x0in]; omega) (by rw [xo_cl (by omega) (by omega)]; omega) (by omega) hk1 hn1 hd (fun a cA H1 gK gP gD gS => ?_)
  have hcA : cA = X.T 4 := by
    obtain ⟨_, _, -, -, -, z1⟩ := (gK.2 4 (cA, .object RX3) rfl).2
    obtain ⟨_, _, -, -, -, z2⟩ := (gK.2 2 (X.T 4, .object RX3) rfl).2
    exact Option.some.inj (z1.symm.trans z2)
  subst hcA
  have hmap : (lo.map fun z => (z.1, xc (xnew h q a).A z.2)) = lo.map fun z => (z.1, xc h.A z.2) := List.map_congr_left fun z hz => by rw [xc_new (hfr z.2 (List.mem_append_left _ (List.mem_map_of_mem hz)))]
  have hmap2 : st.map (xc (xnew h q a).A) = st.map (xc h.A) := List.map_congr_left fun z hz => xc_new (hfr z (List.mem_append_right _ hz))
  have hqa : (xnew h q a).A q = a := by simp [xS.I, xS.R, xS.J, xS.F, xS.L, xS.A, xnew]
  have hxe : xe X.T (xnew h q a) q = .inl (X.T 4, nn, .inr (.inr (.inr (.inr fun _ => none)))) := by
    unfold xe
    rw [hkd]
    simp only [xS.R, xnew, if_true] <;> rfl
  have hxw := xw_new (T := X.T) (a := a) hq hnr
  rw [hxe] at hxw
  rw [← hxw] at gP gD
  have := kk a H1 locs ls gP ⟨gD, xnew_in hD.2⟩ gS (by rw [hmap]; exact hl)
  simp only [List.map_cons, xc, hmap2, hqa] at this
  exact this
theorem x_newO (hV : xEng X y d mc ms V) {idx ci N : Nat} {C : String} {T : u_T} {q : xP} (hd : decode y.2.1 pc = .ok (.new idx, 3)) (hc : vwCl[ci]? = some (C, T, N)) (hw1 : Cond.classLink y.1.cls idx C ∈ lw_tbl) (hw2 : Cond.instantiable C N ∈ lw_tbl) (hw3 : Cond.initialized C ∈ lw_tbl) (hfd : ∀ j, j < N → ∃ b, (fdT.getD ci [])[j]? = some b ∧ (match parseFieldDescriptor (T j).2.2.1 with | some t => defaultValue t = (if b then .null else .int 0) | none => False)) (hkd : kd q = (0, ci)) (hq : q ∉ h.L) (hnr : ∀ (p : xP) (k : Nat), h.R p k ≠ some q) (hfr : ∀ v ∈ lo.map Prod.snd ++ st, xhas q v = false) (hk1 : k + 1 ≤ mc) (hn1 : n + N ≤ ms) (kk : ∀ a : Nat, V (pc + 3) lo (xr q :: st) (xnew h q a) (k + 1) (n + N)) : V pc lo st h k n := by
  obtain ⟨hX, p, e, s, m, args, below, meth, c, Q, ⟨hx, hb, hml, hown, hlk, hrt, htb, hnm, hB⟩, rfl⟩ := hV
  intro H locs ls hP hD hS hl
  obtain ⟨hw, hn9, ty, hty⟩ := xcls hc
  have hts : ∀ w ∈ u_ws C T N, w.before args s = true := fun w z => xB.word hX hB (hw w z).1 (hw w z).2
  refine va_new (ci := ci) (fs := (fdT.getD ci []).map fun b => if b then Value.null else .int 0) hx hb hts (fun _ z => z) ty hty hown (xB.word hX hB hw1 rfl) (xB.word hX hB hw2 rfl) (xB.word hX hB hw3 rfl) (xB.K hX hB) hP hD.1 hS (fun z hz => Nat.le_trans hB.2.1 hz) hc (fun j hj => ?_) hk1 hn1 hd (fun a H1 gP gD gS => ?_)
  · obtain ⟨b, h1, h2⟩ := hfd j hj
    rw [hty j hj] at h2
    show _ = ((fdT.getD ci []).map _).getD j Value.null
    rw [List.getD_eq_getElem?_getD, List.getElem?_map, h1]
    exact h2
  have hmap : (lo.map fun z => (z.1, xc (xnew h q a).A z.2)) = lo.map fun z => (z.1, xc h.A z.2) := List.map_congr_left fun z hz => by rw [xc_new (hfr z.2 (List.mem_append_left _ (List.mem_map_of_mem hz)))]
  have hmap2 : st.map (xc (xnew h q a).A) = st.map (xc h.A) := List.map_congr_left fun z hz => xc_new (hfr z (List.mem_append_right _ hz))
  have hqa : (xnew h q a).A q = a := by simp [xS.I, xS.R, xS.J, xS.F, xS.L, xS.A, xnew]
  have hxe : xe X.T (xnew h q a) q = .inr (ci, (fdT.getD ci []).map fun b => if b then Value.null else .int 0) := by
    unfold xe
    rw [hkd]
    show Sum.inr _ = Sum.inr _
    congr 2
    apply List.ext_getElem?
    intro j
    cases hj : (fdT.getD ci [])[j]? with
    | none => unfold xfs; rw [List.getElem?_map, List.getElem?_map, List.getElem?_zipIdx, hj]; rfl
    | some b => rw [xfs_at hj, List.getElem?_map, hj]; cases b <;> simp [xS.I, xS.R, xnew, va_rf] <;> rfl
  have hxw := xw_new (T := X.T) (a := a) hq hnr
  rw [hxe] at hxw
  rw [← hxw] at gP gD
  have := kk a H1 locs ls gP ⟨gD, xnew_in hD.2⟩ gS (by rw [hmap]; exact hl)
  simp only [List.map_cons, xc, hmap2, hqa] at this
  exact this
end XR
