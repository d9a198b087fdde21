/-! Math.min; the law's cast -/
section XR
variable {X : xX} {y : xM} {d mc ms : Nat} {V : xT} {pc : Nat} {lo : List (Nat × xV)} {st : List xV} {h : xS} {k n : Nat}
theorem x_mmin (hV : xEng X y d mc ms V) {idx : Nat} {a b : Int} (hd : decode y.2.1 pc = .ok (.invokestatic idx, 3)) (hlk9 : Cond.methodLink y.1.cls idx Lib.Math.min.name ∈ lw_tbl) (ha : xin a) (hb9 : xin b) (hst : (st.map fun v => (xc h.A v).category).sum ≤ 8) (hk : k ≤ mc) (hn : n ≤ ms) (hd1 : 1 ≤ d) (kk : V (pc + 3) lo (xi (min a b) :: st) h k n) : V pc lo (xi b :: xi a :: st) h k n := by
  obtain ⟨hX, p, e, s, m, args, below, meth, c, Q, ⟨hx, hb, hml, hown, hlk, hrt, htb, hnm, hB⟩, rfl⟩ := hV
  intro H locs ls hP hD hS hl
  have hc9 : ((st.map (xc h.A)).map fun v => v.category).sum + 13 ≤ (xrm d mc ms).locals := by
    have e1 : ((st.map (xc h.A)).map fun v => v.category).sum = (st.map fun v => (xc h.A v).category).sum := by rw [List.map_map]; rfl
    rw [e1]
    show _ ≤ 36 * d + 48
    omega
  have := kk H locs ls hP hD hS hl
  refine va_mmin hx hb (by rw [hml, hl.1]) hown (xB.word hX hB hlk9 rfl) (xB.word hX hB (w := Cond.static Lib.Math.min.name) (by decide +kernel) rfl) (xB.word hX hB (w := Cond.initialized "java/lang/Math") (by decide +kernel) rfl) (xB.word hX hB (w := Cond.code Lib.Math.min.name Lib.Math.min.code 2 (some .int)) (by decide +kernel) rfl) hd1 hc9 hk hn hd ?_
  have e2 : (if Int32.ofInt b < Int32.ofInt a then Int32.ofInt b else Int32.ofInt a) = Int32.ofInt (min a b) := by
    by_cases hba : b < a
    · rw [if_pos ((xo_lt hb9 ha).mpr hba), Int.min_eq_right (by omega)]
    · rw [if_neg (fun z => hba ((xo_lt hb9 ha).mp z)), Int.min_eq_left (by omega)]
  rw [e2]
  exact this
end XR
theorem ml_RL_199 : Cond.methodLink RL 199 Lib.Math.min.name ∈ lw_tbl := by decide +kernel
theorem cl_RL_74 : Cond.classLink RL 74 "[I" ∈ lw_tbl := by decide +kernel
