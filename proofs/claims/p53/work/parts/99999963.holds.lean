/-! holdsAll from its first step, and the law -/
def fL : xP → Nat → Option xP := fun p k => if p = (2, 0) ∧ k = 3 then some (0, 0) else if p = (2, 0) ∧ k = 5 then some (2, 1) else if p = (2, 1) ∧ k = 1 then some (2, 8) else none
def cB (A : xP → Nat) : xCx := (0, [(2, 0), (2, 1)], fL, A)
theorem fL_t {p q : xP} {k : Nat} (h : fL p k = some q) : q = (0, 0) ∨ q = (2, 1) ∨ q = (2, 8) := by
  unfold fL at h
  split at h
  · exact Or.inl (Option.some.inj h).symm
  · split at h
    · exact Or.inr (Or.inl (Option.some.inj h).symm)
    · split at h
      · exact Or.inr (Or.inr (Option.some.inj h).symm)
      · cases h
theorem cB_fr {A : xP → Nat} {q : xP} (hq : q.1 = 1 ∨ q.1 = 2) (h0 : q ≠ (2, 0)) (h1 : q ≠ (2, 1)) (h8 : q ≠ (2, 8)) (h9 : q ≠ (2, 9)) : cFr (cPut (cB A) (2, 0) 0 (2, 9)) q := by
  refine cFr.put (c := cB A) ⟨hq, fun z => ?_, fun p k z => ?_⟩ h9.symm
  · have z : q ∈ [((2, 0) : xP), (2, 1)] := z
    rcases List.mem_cons.mp z with z | z
    · exact h0 z
    · exact h1 (List.mem_singleton.mp z)
  · rcases fL_t z with rfl | z | z
    · rcases hq with hq | hq <;> cases hq
    · exact h1 z
    · exact h8 z
theorem cB_ld {A : xP → Nat} : LD (cPut (cB A) (2, 0) 0 (2, 9)) 13 := by
  refine ⟨⟨Nat.zero_le _, by show [((2, 0) : xP), (2, 1)].Nodup; decide, fun p hp => ?_⟩, Nat.zero_le _, ⟨by show (2, 0) ∈ [((2, 0) : xP), (2, 1)]; decide, by show (2, 1) ∈ [((2, 0) : xP), (2, 1)]; decide, by show (2, 2) ∉ [((2, 0) : xP), (2, 1)]; decide⟩, ⟨cPut_s, (cPut_n (fun z => absurd z.2 (by decide))).trans rfl, (cPut_n (fun z => absurd z.2 (by decide))).trans rfl⟩, Nat.le_refl _, fun p hp => ?_, fun p k q hq => ?_⟩
  · have hp : p ∈ [((2, 0) : xP), (2, 1)] := hp
    rcases List.mem_cons.mp hp with rfl | hp
    · exact Or.inr rfl
    · rw [List.mem_singleton.mp hp]; exact Or.inr rfl
  · have hp : p ∈ [((2, 0) : xP), (2, 1)] := hp
    rcases List.mem_cons.mp hp with rfl | hp
    · decide
    · rw [List.mem_singleton.mp hp]; decide
  · have hq : (if p = (2, 0) ∧ k = 0 then some (2, 9) else fL p k) = some q := hq
    split at hq
    · cases hq; exact ⟨by decide, by decide⟩
    · rcases fL_t hq with rfl | rfl | rfl <;> exact ⟨by decide, by decide⟩
theorem isL_off {q : xP} (h : isL.all (fun e => !(e.1.1 == q)) = true) (k : Nat) : cI isL q k = 0 := by
  unfold cI
  rw [lookup_off h]
  rfl
def L00 : LG := (0, fun _ => 0, fun _ => 0)
def P00 : PJ := (0, fun _ => 0, fun _ => 0, fun _ => 0)
def B00 : TB := (1, 1, fun _ => 0)
theorem L00_ok : LGok L00 := ⟨Nat.zero_le _, fun k _ => ⟨Int.le_refl _, by show (0 : Int) ≤ 99; decide⟩, fun a b _ _ => ⟨⟨Int.le_refl _, by show (0 : Int) ≤ 9; decide⟩, rfl⟩⟩
theorem P00_ok : PJok P00 := ⟨Nat.zero_le _, fun k _ => ⟨⟨Int.le_refl _, by show (0 : Int) ≤ 99; decide⟩, Nat.zero_le _, Int.le_refl _, by show (0 : Int) ≤ 99; decide⟩⟩
theorem B00_ok : TBok B00 := ⟨⟨Nat.le_refl _, by decide⟩, ⟨Nat.le_refl _, by decide⟩, fun p _ => ⟨Int.le_refl _, by show (0 : Int) ≤ 999; decide⟩⟩
theorem i27 (k : Nat) : k < 2 → cI isL (0, 27) k = 1 := fun hk => by
  match k, hk with
  | 0, _ => rfl
  | 1, _ => rfl
section HA
variable {X : xX}
theorem lc_holdsAll (hX : xBase X) (d : Nat) {A : xP → Nat} {z mi : Nat} (hz : DEs X z) (hm : va_Mi "[Ljava/lang/Object;" mi X.S) (hA8 : A (2, 8) = z) (hA7 : A (2, 7) = mi) (hSC : SC X (cB A)) : xMet X m_L_holdsAll (d + 12) [xr (2, 0), xr (2, 9)] (cI isL, xst (cB A)) 100000 500000 (fun o _ => o = .inl (some (xi 1))) := by
  refine xMet_of hX pl_L_holdsAll.1 (fun w hw => (pl_L_holdsAll.2.2.1 w hw).1) (LE1 rfl) fun V hV => ?_
  have hE := hV.eng
  have hm0 : (2, 0) ∈ lvL (cB A).1 (cB A).2.1 := lvmX (by show (2, 0) ∈ [((2, 0) : xP), (2, 1)]; decide)
  refine x_aload_n (j := 0) (pc := 0) hE dL_holdsAll_0 rfl (x_aload_n (j := 1) (pc := 1) hE dL_holdsAll_1 rfl (x_putR (pc := 2) hE dL_holdsAll_2 fl_RL_28 rfl hm0 rfl ?_))
  have e := xst_put (I := cI isL) (c := cB A) (q := (2, 0)) (t := (2, 9)) (k := 0) rfl
  have e2 : ((cI isL, xst (cB A)).1, xuR (xS.R (cI isL, xst (cB A))) (2, 0) 0 (some (2, 9)), (cI isL, xst (cB A)).2.2) = (cI isL, xst (cPut (cB A) (2, 0) 0 (2, 9))) := e
  rw [e2]
  have hD := cB_ld (A := A)
  have hAL : AL (cPut (cB A) (2, 0) 0 (2, 9)) 13 0 := ⟨hD, Or.inl ⟨rfl, (cPut_n (fun z => absurd z.2 (by decide))).trans rfl, cB_fr (Or.inr rfl) (by decide) (by decide) (by decide) (by decide), cB_fr (Or.inr rfl) (by decide) (by decide) (by decide) (by decide)⟩⟩
  have hCI : CI (cI isL) (cPut (cB A) (2, 0) 0 (2, 9)) T00 := ⟨rfl, isL_off (q := (0, 0)) rfl 1, fun i hi => absurd hi (Nat.not_lt_zero _)⟩
  have hfn : ∀ p k x, (cPut (cB A) (2, 0) 0 (2, 9)).2.2.1 p k ≠ some (3, x) := fun p k x h => by
    have h : (if p = (2, 0) ∧ k = 0 then some (2, 9) else fL p k) = some (3, x) := h
    split at h
    · cases h
    · rcases fL_t h with h | h | h <;> cases h
  refine x_aload_n (j := 0) (pc := 5) hE dL_holdsAll_5 rfl ?_
  refine x_callV (pc := 6) (as := []) (st := []) (q := (2, 0)) hE (lc_netOn hX (d + 2) hz hm hAL rfl hSC hA8 hA7 (fun i => cB_fr (Or.inl rfl) (er_ne _ _) (er_ne _ _) (er_ne _ _) (er_ne _ _)) hfn hCI rfl rfl (isL_off (q := (2, 0)) rfl 1)) dL_holdsAll_6 pl_L_netOn lk_RL_250 rfl hD.m0 rfl rfl (Nat.le_refl _) (LE1 rfl) (LE1 rfl) (LE1 rfl) (fun E h9 hh => by cases hh.1) (fun r h9 hh => ?_)
  obtain ⟨hr, c9, J, T, m9, A9, rfl, hm9, hA9, hC, hI⟩ := hh
  cases hr
  obtain ⟨hAL9, hc1, hSC9, ⟨a8, a7, a0, a9⟩, hfr⟩ := hC
  obtain ⟨n1, n2, ⟨e1, e3, e4, e5, e6, e7, e8⟩, n4, n5⟩ := hI
  refine ⟨⟨?_, rfl⟩, ?_⟩
  · show [(0, Value.ref (c9.2.2.2 (2, 0))), (1, Value.ref (c9.2.2.2 (2, 9)))] = [(0, Value.ref ((cPut (cB A) (2, 0) 0 (2, 9)).2.2.2 (2, 0))), (1, Value.ref ((cPut (cB A) (2, 0) 0 (2, 9)).2.2.2 (2, 9)))]
    rw [a0, a9]
  have z0 : ∀ i, i ≠ 0 → i ≠ 27 → ∀ k, J (0, i) k = 0 := fun i h0 h27 k => by
    rw [n5 i h0]
    have hne : ((0, 27) : xP) ≠ (0, i) := fun z => h27 (congrArg Prod.snd z).symm
    refine isL_off (q := (0, i)) ?_ k
    show (!(((2, 1) : xP) == (0, i)) && (!(((0, 27) : xP) == (0, i)) && (!(((0, 27) : xP) == (0, i)) && true))) = true
    have q1 : (((2, 1) : xP) == (0, i)) = false := beq_eq_false_iff_ne.mpr (fun z => by cases congrArg Prod.fst z)
    have q2 : (((0, 27) : xP) == (0, i)) = false := beq_eq_false_iff_ne.mpr hne
    rw [q1, q2]
    rfl
  have hW : WS J c9 T (fun _ => 0) B00 P00 m9 A9 := by
    refine ⟨n1, n2, ⟨e1, e3, e5, e7, e4, ⟨by omega, by omega⟩, e8⟩, ⟨fun k _ => Nat.zero_le _, fun k _ => z0 21 (by decide) (by decide) k⟩, ⟨B00_ok, ?_, ?_, fun p _ => z0 28 (by decide) (by decide) p⟩, ⟨P00_ok, z0 32 (by decide) (by decide) 0, fun k _ => ⟨z0 33 (by decide) (by decide) k, z0 34 (by decide) (by decide) k, z0 35 (by decide) (by decide) k⟩⟩, n4⟩
    · rw [n5 27 (by decide)]; exact i27 0 (by decide)
    · rw [n5 27 (by decide)]; exact i27 1 (by decide)
  exact ha_9 hX (P := P00) hV (fun _ => rfl) (hAL9.la (by omega)) hSC9 hW (by omega) (L := L00) L00_ok ⟨z0 24 (by decide) (by decide) 0, fun k _ => z0 25 (by decide) (by decide) k, fun k _ => z0 26 (by decide) (by decide) k⟩ rfl rfl (by decide) (by decide)
end HA

def m_L_law : xM := (yL_law, cL_law, 1, some .boolean, [])
