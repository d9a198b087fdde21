/-! a row of objects is copied into a longer one -/
section XC
variable {X : xX} {y : xM} {d mc ms : Nat} {V : xT} {pc : Nat} {lo : List (Nat × xV)} {st : List xV} {h : xS} {k n : Nat}
theorem x_getC (hV : xEng X y d mc ms V) {mi idx nn : Nat} {q : xP} (hm : va_Mi "[Ljava/lang/Object;" mi X.S) (hd : decode y.2.1 pc = .ok (.invokevirtual idx, 3)) (hw : Cond.methodLink y.1.cls idx ⟨"java/lang/Object", "getClass", "()Ljava/lang/Class;"⟩ ∈ lw_tbl) (hkd : kd q = (5, nn)) (hq : q ∈ h.L) (hA : h.A (2, 7) = mi) (hd1 : 1 ≤ d) (hst : (st.map fun v => (xc h.A v).category).sum ≤ 8) (kk : V (pc + 3) lo (xr (2, 7) :: st) h k n) : V pc lo (xr q :: st) h k n := by
  obtain ⟨hX, p, e, s, m, args, below, meth, c, Q, ⟨hx, hb, hml, hown, hlk, hrt, htb, hnm, hB⟩, rfl⟩ := hV
  intro H locs ls hP hD hS hl
  obtain ⟨i, hi, hwi⟩ := xw_at (T := X.T) hq
  have he : xe X.T h q = .inl (X.T 5, nn, .inr (.inr (.inr (.inr fun k => (h.R q k).map h.A)))) := by unfold xe; rw [hkd]; rfl
  rw [he] at hwi
  have hcell := hP i _ hwi
  have kk : W p X.1 e (xrm d mc ms) s m args below meth c H locs k n Q (F0 m (pc + 3) ls (.ref (h.A (2, 7)) :: st.map (xc h.A))) := kk H locs ls hP hD hS hl
  rw [hA] at kk
  have hc9 : ((st.map (xc h.A)).map fun v => v.category).sum + 14 ≤ (xrm d mc ms).locals := by
    have e1 : ((st.map (xc h.A)).map fun v => v.category).sum = (st.map fun v => (xc h.A v).category).sum := by rw [List.map_map]; rfl
    rw [e1]
    show _ ≤ 36 * d + 48
    omega
  have hdc := va_Dc.use (A := args) (va_Dc.moved hB.1.alike (va_Dc.of (A := X.2.2.1) (hX.2.1 _ (by decide +kernel))))
  exact va_getC (C := "[Ljava/lang/Object;") hx hb (by rw [hml, hl.1]) hown (xB.word hX hB hw rfl) hdc (xB.word hX hB (w := Cond.selects "[Ljava/lang/Object;" ⟨"java/lang/Object", "getClass", "()Ljava/lang/Class;"⟩ ⟨"java/lang/Object", "getClass", "()Ljava/lang/Class;"⟩) (by decide +kernel) rfl) (xB.word hX hB (w := Cond.instanceMethod ⟨"java/lang/Object", "getClass", "()Ljava/lang/Class;"⟩) (by decide +kernel) rfl) (xB.word hX hB (w := Cond.native ⟨"java/lang/Object", "getClass", "()Ljava/lang/Class;"⟩) (by decide +kernel) rfl) (va_Mi.moved hB.1.alike hm) ⟨_, hcell, rfl, va_nmO ((xB.K hX hB).2 3 (X.T 5, .object "java/lang/Object") rfl).2 rfl⟩ hd1 hc9 hd kk
theorem x_ldcM (hV : xEng X y d mc ms V) {mi idx : Nat} (hm : va_Mi "[Ljava/lang/Object;" mi X.S) (hd : decode y.2.1 pc = .ok (.ldc idx, 2)) (hw : Cond.classLink y.1.cls idx "[Ljava/lang/Object;" ∈ lw_tbl) (hA : h.A (2, 7) = mi) (kk : V (pc + 2) lo (xr (2, 7) :: st) h k n) : V pc lo st h k n := by
  obtain ⟨hX, p, e, s, m, args, below, meth, c, Q, ⟨hx, hb, hml, hown, hlk, hrt, htb, hnm, hB⟩, rfl⟩ := hV
  intro H locs ls hP hD hS hl
  have kk : W p X.1 e (xrm d mc ms) s m args below meth c H locs k n Q (F0 m (pc + 2) ls (.ref (h.A (2, 7)) :: st.map (xc h.A))) := kk H locs ls hP hD hS hl
  rw [hA] at kk
  exact va_ldcM hx hb hown (xB.word hX hB hw rfl) (va_Mi.moved hB.1.alike hm) hd kk
theorem x_acmpN_same (hV : xEng X y d mc ms V) {off : Int} {tgt : Nat} {q : xP} (hd : decode y.2.1 pc = .ok (.if_acmp .ne off, 3)) (ht : (pc : Int) + off = (tgt : Int)) (kk : V (pc + 3) lo st h k n) : V pc lo (xr q :: xr q :: st) h k n := by
  obtain ⟨hX, p, e, s, m0, args, below, meth, c0, Q, ⟨hx, hb, hml, hown, hlk, hrt, htb, hnm, hB⟩, rfl⟩ := hV
  intro H locs ls hP hD hS hl
  exact lv_acmp_ne (rx := some (h.A q)) (ry := some (h.A q)) hx hb hd ht (fun z => absurd rfl z) (fun _ => kk H locs ls hP hD hS hl)
def cpyR (R : xP → Nat → Option xP) (q0 q1 : xP) (N : Nat) : xP → Nat → Option xP := fun p j => if p = q1 ∧ j < N then R q0 j else R p j
theorem x_copyq (hV : xEng X y d mc ms V) {idx n0 n1 N : Nat} {q0 q1 : xP} (hd : decode y.2.1 pc = .ok (.invokestatic idx, 3)) (hw : Cond.methodLink y.1.cls idx ⟨"java/lang/System", "arraycopy", "(Ljava/lang/Object;ILjava/lang/Object;II)V"⟩ ∈ lw_tbl) (hk0 : kd q0 = (5, n0)) (hq0 : q0 ∈ h.L) (hk1 : kd q1 = (5, n1)) (hq1 : q1 ∈ h.L) (h0 : N ≤ n0) (h1 : N ≤ n1) (hel : ∀ i, i < N → ∃ (t : xP) (n9 : Nat), h.R q0 i = some t ∧ t ∈ h.L ∧ kd t = (1, n9)) (hd1 : 1 ≤ d) (hst : (st.map fun v => (xc h.A v).category).sum ≤ 8) (kk : V (pc + 3) lo st (h.1, cpyR h.R q0 q1 N, h.2.2) k n) : V pc lo (xi (N : Int) :: xi 0 :: xr q1 :: xi 0 :: xr q0 :: st) h k n := by
  obtain ⟨hX, p, e, s, m, args, below, meth, c, Q, ⟨hx, hb, hml, hown, hlk, hrt, htb, hnm, hB⟩, rfl⟩ := hV
  intro H locs ls hP hD hS hl
  have hsm := kd_small q0
  rw [hk0] at hsm
  have hsm : n0 ≤ 256 := hsm
  obtain ⟨i0, hi0, hwi0⟩ := xw_at (T := X.T) hq0
  have he0 : xe X.T h q0 = .inl (X.T 5, n0, .inr (.inr (.inr (.inr fun k => (h.R q0 k).map h.A)))) := by unfold xe; rw [hk0]; rfl
  rw [he0] at hwi0
  obtain ⟨i1, hi1, hwi1⟩ := xw_at (T := X.T) hq1
  have he1 : xe X.T h q1 = .inl (X.T 5, n1, .inr (.inr (.inr (.inr fun k => (h.R q1 k).map h.A)))) := by unfold xe; rw [hk1]; rfl
  rw [he1] at hwi1
  have hc9 : ((st.map (xc h.A)).map fun v => v.category).sum + (nativeFrameWords "java/lang/System" "arraycopy" 5 + 11) ≤ (xrm d mc ms).locals := by
    have e1 : ((st.map (xc h.A)).map fun v => v.category).sum = (st.map fun v => (xc h.A v).category).sum := by rw [List.map_map]; rfl
    rw [e1]
    have e2 : nativeFrameWords "java/lang/System" "arraycopy" 5 ≤ 20 := by decide
    show _ ≤ 36 * d + 48
    omega
  have hcs := (xB.K hX hB).2 0 (X.T 1, .int) rfl
  have hfc : s.vm.findClass "[I" = some (X.T 1) := hcs.2
  have hca : (Cond.castable "[I" "java/lang/Object").before args s = true := va_Nw.use rfl (va_Nw.warmC hB.1 (va_Nw.of (A := X.2.2.1) rfl (hX.2.1 _ (by decide +kernel))))
  have t0 : (Int32.ofInt 0).toNatClampNeg = 0 := rfl
  have tN : (Int32.ofInt (N : Int)).toNatClampNeg = N := by rw [xo_cl (by omega) (by omega)]; exact Int.toNat_natCast N
  refine va_copyq (E0 := "java/lang/Object") (E1 := "java/lang/Object") (C := "[I") hx hb (by rw [hml, hl.1]) hown (xB.word hX hB hw rfl) (xB.word hX hB (w := Cond.native ⟨"java/lang/System", "arraycopy", "(Ljava/lang/Object;ILjava/lang/Object;II)V"⟩) (by decide +kernel) rfl) (xB.word hX hB (w := Cond.static ⟨"java/lang/System", "arraycopy", "(Ljava/lang/Object;ILjava/lang/Object;II)V"⟩) (by decide +kernel) rfl) (xB.word hX hB (w := Cond.initialized "java/lang/System") (by decide +kernel) rfl) (xB.K hX hB) hP hD.1 hS i0 i1 3 3 hwi0 hwi1 rfl rfl (by decide) (by decide) (by rw [xo_0, xo_lt ⟨by omega, by omega⟩ x0in]; omega) (by rw [t0, tN]; omega) (by rw [t0, tN]; omega) ?_ ?_ hd1 hc9 hd (fun H1 locs1 g1 g2 g3 => ?_)
  · intro i hi y9 hy
    rw [tN] at hi
    rw [t0, Nat.zero_add] at hy
    obtain ⟨t, n9, ht, htL, hkt⟩ := hel i hi
    have hy : (h.R q0 i).map h.A = some y9 := hy
    rw [ht] at hy
    have hy : h.A t = y9 := Option.some.inj hy
    obtain ⟨j, hj, hwj⟩ := xw_at (T := X.T) htL
    have hej : xe X.T h t = .inl (X.T 1, n9, .inl fun k => Int32.ofInt (h.I t k)) := by unfold xe; rw [hkt]; rfl
    rw [hej] at hwj
    rw [← hy]
    exact ⟨_, hP j _ hwj, rfl, hfc⟩
  · intro comp c9 hcomp hc0
    obtain ⟨c3, c4, hc3, hc4, hasg⟩ := Cond.castable_spec hca
    cases hc0.symm.trans hc3
    cases hcomp.symm.trans hc4
    exact hasg
  · have hset := xw_set (h := h) (h9 := (h.1, cpyR h.R q0 q1 N, h.2.2)) hD.1 hi1 rfl rfl (fun p hp => xe_off rfl (by funext j; simp [xS.R, cpyR, hp]) rfl rfl rfl)
    have he9 : ∀ g, g = xe X.T (h.1, cpyR h.R q0 q1 N, h.2.2) q1 → (xw X.T h).set i1 (h.A q1, g) = xw X.T (h.1, cpyR h.R q0 q1 N, h.2.2) := fun g hg => by rw [hg]; exact hset
    rw [t0, tN] at g1 g2
    rw [he9] at g1 g2
    · exact kk H1 locs1 ls g1 ⟨g2, hD.2⟩ g3 hl
    all_goals
      unfold xe
      rw [hk1]
      simp only [xS.R, xS.A, Sum.inl.injEq, Prod.mk.injEq, Sum.inr.injEq, true_and]
      funext j
      by_cases hj : j < N <;> simp [va_cpy, cpyR, hj]
end XC
