/-! the start -/
theorem base_cls {s : State} {args : Array Value} (hts : ∀ w ∈ lw_tbl, w.before args s = true) : ∀ k : Nat, ∃ d : ClassId × (Nat → Nat), ∀ q : vw_C, vwCl[k]? = some q → u_Kn s q.1 q.2.1 q.2.2 d.1 d.2 := by
  intro k
  have key : ∀ (C : String) (T : u_T) (N : Nat), vwCl[k]? = some (C, T, N) → Cond.instantiable C N ∈ lw_tbl → ∃ d : ClassId × (Nat → Nat), ∀ q : vw_C, vwCl[k]? = some q → u_Kn s q.1 q.2.1 q.2.2 d.1 d.2 := by
    intro C T N hc hi
    obtain ⟨hw, -, -⟩ := xcls hc
    obtain ⟨cC, iS, hk⟩ := u_known (ws := lw_tbl) (C := C) (T := T) (N := N) (n := N) hts (fun w z => (hw w z).1) (hts _ hi)
    refine ⟨(cC, iS), fun q hq => ?_⟩
    cases Option.some.inj (hc.symm.trans hq)
    exact hk
  match k with
  | 0 => exact key _ _ _ rfl (by decide +kernel)
  | 1 => exact key _ _ _ rfl (by decide +kernel)
  | 2 => exact key _ _ _ rfl (by decide +kernel)
  | 3 => exact key _ _ _ rfl (by decide +kernel)
  | 4 => exact key _ _ _ rfl (by decide +kernel)
  | 5 => exact key _ _ _ rfl (by decide +kernel)
  | 6 => exact key _ _ _ rfl (by decide +kernel)
  | 7 => exact key _ _ _ rfl (by decide +kernel)
  | 8 => exact key _ _ _ rfl (by decide +kernel)
  | 9 => exact key _ _ _ rfl (by decide +kernel)
  | 10 => exact key _ _ _ rfl (by decide +kernel)
  | 11 => exact key _ _ _ rfl (by decide +kernel)
  | 12 => exact key _ _ _ rfl (by decide +kernel)
  | k + 13 => exact ⟨(0, fun _ => 0), fun q hq => by simp [vwCl] at hq⟩
theorem base_arr {s : State} {args : Array Value} {t : FieldType} (h : (Cond.arrayClass t).before args s = true) (ht : (∃ C, t = .object C) → False) : ∃ c : ClassId, ArrOfT s c t ∧ va_RA s c t := by
  obtain ⟨c, k, comp, h1, h2, h3⟩ := Cond.arrayClass_spec h
  refine ⟨c, fun n z => ⟨(fun k h => by cases h), k, h2, comp, h3⟩, ?_⟩
  cases t with
  | object C => exact (ht ⟨C, rfl⟩).elim
  | _ => exact h1
theorem base_K {s : State} {args : Array Value} (hts : ∀ w ∈ lw_tbl, w.before args s = true) : ∃ (G : va_G) (T : Nat → ClassId), va_K G vwCl [(T 1, .int), (T 2, .boolean), (T 4, .object RX3), (T 5, .object "java/lang/Object")] s := by
  obtain ⟨f, hf⟩ := Classical.axiomOfChoice (base_cls hts)
  obtain ⟨c1, a1, b1⟩ := base_arr (hts (.arrayClass .int) (by decide +kernel)) (fun ⟨C, h⟩ => by cases h)
  obtain ⟨c2, a2, b2⟩ := base_arr (hts (.arrayClass .boolean) (by decide +kernel)) (fun ⟨C, h⟩ => by cases h)
  obtain ⟨comp, c4, kA, f1, f2, f3, f4, f5⟩ := Cond.arrayOver_spec (hts (.arrayOver (.object RX3)) (by decide +kernel))
  obtain ⟨comp9, c5, kA9, g1, g2, g3, g4, g5⟩ := Cond.arrayOver_spec (hts (.arrayOver (.object "java/lang/Object")) (by decide +kernel))
  refine ⟨(fun k => (f k).1, fun k => (f k).2), fun k => if k = 1 then c1 else if k = 2 then c2 else if k = 4 then c4 else c5, fun k q hq => hf k q hq, fun k q hq => ?_⟩
  match k, hq with
  | 0, hq => cases hq; exact ⟨a1, b1⟩
  | 1, hq => cases hq; exact ⟨a2, b2⟩
  | 2, hq => cases hq; exact ⟨fun N z => ⟨(fun k h => by cases h), kA, f3, comp, f4⟩, kA, comp, f3, f4, f1, f5⟩
  | 3, hq => cases hq; exact ⟨fun N z => ⟨(fun k h => by cases h), kA9, g3, comp9, g4⟩, kA9, comp9, g3, g4, g1, g5⟩
  | k + 4, hq => simp at hq
theorem base_all {l : Launch} {s : State} {b : Nat} (hflags : l.flags = flags0) (hts : ∀ w ∈ lw_tbl, w.before #[Value.ref b] s = true) (hgv : (Jvm.Cond.and given_1 narrow_1).before #[Value.ref b] s = true) {G : va_G} {T : Nat → ClassId} (hK : va_K G vwCl [(T 1, .int), (T 2, .boolean), (T 4, .object RX3), (T 5, .object "java/lang/Object")] s) : xBase (l, s, #[Value.ref b], G, T) := by
  have hfl := flat_of_before _ hgv
  refine ⟨?_, hts, hK, ?_, ?_, ?_, ?_⟩
  · show l.stackTraces = false
    unfold Launch.stackTraces
    rw [hflags]
    decide +kernel
  · exact vx_Zqof (hts (.laysStatic Bundle.tN "UNASSIGNED_STACK" Bundle.steD) (by decide +kernel)) (hts (.initialized Bundle.tN) (by decide +kernel)) (hfl (.isRef (.static Bundle.tN "UNASSIGNED_STACK" Bundle.steD)) (by decide +kernel)) (fun a h1 h2 => Nat.lt_irrefl _ (Nat.lt_of_lt_of_le h1 h2))
  · exact vx_Zqof (hts (.laysStatic Bundle.tN "SUPPRESSED_SENTINEL" Bundle.listD) (by decide +kernel)) (hts (.initialized Bundle.tN) (by decide +kernel)) (hfl (.isRef (.static Bundle.tN "SUPPRESSED_SENTINEL" Bundle.listD)) (by decide +kernel)) (fun a h1 h2 => Nat.lt_irrefl _ (Nat.lt_of_lt_of_le h1 h2))
  · intro own k tx hw
    have h1 := hts _ hw
    have h2 : ∃ a, (Term.string own k).eval #[Value.ref b] s none [] s = some (.ref a) := by
      cases hc : s.vm.findClass own with
      | none => exfalso; simp [Cond.before, Cond.holds, Cond.value, State.resolvedAt?, hc] at h1
      | some cur =>
        obtain ⟨k9, cf, i, a, -, -, -, -, -, h9⟩ := Cond.stringRef_spec hc h1
        exact ⟨a, h9⟩
    obtain ⟨a, ha⟩ := h2
    exact ⟨a, vk_R.of h1 ha⟩
  · intro q hq
    have : ∀ q ∈ xnc, Cond.not (.castable q.1 q.2) ∈ flatC (Jvm.Cond.and given_1 narrow_1) := by decide +kernel
    exact va_Nc.of (hfl _ (this q hq))
theorem base_es {l : Launch} {s : State} {b : Nat} (hts : ∀ w ∈ lw_tbl, w.before #[Value.ref b] s = true) (hgv : (Jvm.Cond.and given_1 narrow_1).before #[Value.ref b] s = true) {G : va_G} {T : Nat → ClassId} : (∃ z, DEs (l, s, #[Value.ref b], G, T) z) ∧ ∃ mi, va_Mi "[Ljava/lang/Object;" mi s := by
  have hfl := flat_of_before _ hgv
  have hA : ∀ a : Nat, a < s.heap.size → ¬ xA (l, s, #[Value.ref b], G, T) a := fun a h1 h2 => Nat.lt_irrefl _ (Nat.lt_of_lt_of_le h1 h2)
  refine ⟨?_, va_Mi.of (hfl (.isRef (.mirror "[Ljava/lang/Object;")) (by decide +kernel))⟩
  obtain ⟨t, ht, hT⟩ := va_Tof (N := 0) (f := fun _ => .null) (by decide) (hfl (.arrayOf (.static "java/util/ArrayList" "DEFAULTCAPACITY_EMPTY_ELEMENTDATA" "[Ljava/lang/Object;") (.object "java/lang/Object")) (by decide +kernel)) (va_eqt (hfl (.eq (.length (.static "java/util/ArrayList" "DEFAULTCAPACITY_EMPTY_ELEMENTDATA" "[Ljava/lang/Object;")) (.int 0)) (by decide +kernel))) (fun j hj => absurd hj (Nat.not_lt_zero _)) hA
  exact ⟨t, va_Zof (hts (.laysStatic "java/util/ArrayList" "DEFAULTCAPACITY_EMPTY_ELEMENTDATA" "[Ljava/lang/Object;") (by decide +kernel)) (hts (.initialized "java/util/ArrayList") (by decide +kernel)) ht hA, hT⟩
