/-! the law's walk -/
theorem cR_L : cR rsL = rst 0 fL := by
  funext p k
  obtain ⟨g, j⟩ := p
  have hall : rsL.all (fun e => decide (e.1.1.1 < 3 ∧ e.1.1.2 < 36 ∧ e.1.2 < 40)) = true := by decide +kernel
  have hfar : ¬ (g < 3 ∧ j < 36 ∧ k < 40) → cR rsL (g, j) k = none := by
    intro hn
    unfold cR
    rw [List.lookup_eq_none_iff]
    intro e he
    have := of_decide_eq_true (List.all_eq_true.mp hall e he)
    rw [bne_iff_ne]
    rintro h
    have h1 := congrArg Prod.fst h
    have h2 := congrArg Prod.snd h
    have h3 := congrArg Prod.fst h1
    have h4 := congrArg Prod.snd h1
    apply hn
    refine ⟨?_, ?_, ?_⟩
    · show (g, j).1 < 3; rw [show (g, j).1 = e.1.1.1 from h3]; exact this.1
    · show (g, j).2 < 36; rw [show (g, j).2 = e.1.1.2 from h4]; exact this.2.1
    · rw [show k = e.1.2 from h2]; exact this.2.2
  by_cases hn : g < 3 ∧ j < 36 ∧ k < 40
  · have key : ∀ g : Fin 3, ∀ j : Fin 36, ∀ k : Fin 40, cR rsL (g.val, j.val) k.val = rst 0 fL (g.val, j.val) k.val := by decide +kernel
    exact key ⟨g, hn.1⟩ ⟨j, hn.2.1⟩ ⟨k, hn.2.2⟩
  · rw [hfar hn]
    match g with
    | 0 =>
      show _ = (if j = 1 then (if k < 0 then some (k + 3, 0) else none) else rf0 j k)
      split
      · rw [if_neg (by omega)]
      · unfold rf0
        split <;> first | rfl | (exfalso; omega)
    | 1 => rfl
    | 2 =>
      show _ = fL (2, j) k
      unfold fL
      rw [if_neg (fun z => hn ⟨by omega, by have : j = 0 := congrArg Prod.snd z.1; omega, by have := z.2; omega⟩), if_neg (fun z => hn ⟨by omega, by have : j = 0 := congrArg Prod.snd z.1; omega, by have := z.2; omega⟩), if_neg (fun z => hn ⟨by omega, by have : j = 1 := congrArg Prod.snd z.1; omega, by have := z.2; omega⟩)]
    | i + 3 => rfl
theorem cS_le {A : xP → Nat} {mi : Nat} : xLe (cS 38 rsL isL A) (cI isL, xst (cB (fun p => if p = (2, 7) then mi else A p))) := by
  have hm : ((lvL 0 [(2, 0), (2, 1)]).all fun p => (cL 38).contains p && !(p == (2, 7))) = true := by decide +kernel
  have hv : rsL.all (fun e => !(e.2 == (2, 7))) = true := by decide +kernel
  refine ⟨lv_nodup (c := cB (fun p => if p = (2, 7) then mi else A p)) (cB_ld (A := fun p => if p = (2, 7) then mi else A p)).1, fun p hp => ?_, fun h => h⟩
  have h1 := List.all_eq_true.mp hm p hp
  rw [Bool.and_eq_true] at h1
  have hp7 : p ≠ (2, 7) := by simpa using h1.2
  refine ⟨List.contains_iff_mem.mp h1.1, rfl, ?_, if_neg hp7, fun k t ht => ?_⟩
  · show rst 0 fL p = cR rsL p
    rw [cR_L]
  · have ht : cR rsL p k = some t := ht
    have : t ≠ (2, 7) := fun z => lookup_nr hv (p, k) (by rw [← z]; exact ht)
    exact if_neg this
theorem law_entry {X : xX} (hX : xBase X) {V : xT} (hE : xEng X m_L_law 14 room_1.cells room_1.slots V) {b L : Nat} {xs : Nat → Int32} (hs : LSc X b L xs) {z mi : Nat} (hz : DEs X z) (hm : va_Mi "[Ljava/lang/Object;" mi X.S) (fin : ∀ (lo : List (Nat × xV)) (h : xS), V 11 lo [xi 1] h room_1.cells room_1.slots) (A : xP → Nat) (hA : A (2, 9) = b) (hA8 : A (2, 8) = z) : V 0 [(0, xr (2, 9))] [] (cS 0 [] [] A) 0 0 := by
  refine c_newO (pc := 0) (ci := 10) (q := (2, 0)) hE dL_law_0 rfl (by decide +kernel) (by decide +kernel) (by decide +kernel) fd_L rfl (by decide +kernel) rfl (LE1 rfl) (LE1 rfl) (fun A1 g1 => ?_)
  refine x_dup (pc := 3) hE dL_law_3 rfl ?_
  refine c_init (pc := 4) hE (ci_L hX 9 hz (A := A1) (by rw [g1 _ (Or.inl (Or.inr rfl)), hA8])) dL_law_4 pl_L_init lk_RL_286 (by decide +kernel) rfl rfl (LE1 rfl) (LE1 rfl) (LE1 rfl) (LE1 rfl) (by decide +kernel) (fun A2 g2 => ?_)
  refine x_aload_n (j := 0) (pc := 7) hE dL_law_7 rfl ?_
  refine x_le (pc := 8) hE (cS_le (mi := mi)) ⟨rfl, rfl⟩ ?_
  have a9 : A2 (2, 9) = b := by rw [g2 _ (Or.inl (Or.inl rfl)), g1 _ (Or.inl (Or.inl rfl)), hA]
  have a8 : A2 (2, 8) = z := by rw [g2 _ (Or.inl (Or.inr rfl)), g1 _ (Or.inl (Or.inr rfl)), hA8]
  have hSC : SC X (cB (fun p => if p = (2, 7) then mi else A2 p)) := ⟨b, L, xs, hs, a9⟩
  refine x_loc hE [] rfl ?_
  refine x_callV (pc := 8) (as := [xr (2, 9)]) (st := []) (q := (2, 0)) hE (xMet_w9 (p2 := fun o h9 => o = .inl (some (xi 1))) (lc_holdsAll hX 1 hz hm (A := fun p => if p = (2, 7) then mi else A2 p) a8 rfl hSC) (fun o h9 h => h)) dL_law_8 pl_L_holdsAll lk_RL_287 rfl (lvmX (by show (2, 0) ∈ [((2, 0) : xP), (2, 1)]; decide)) rfl rfl (LE1 rfl) (LE1 rfl) (LE1 rfl) (LE1 rfl) (fun E h9 hh => by cases hh) (fun r h9 hh => ?_)
  cases hh
  exact ⟨⟨rfl, rfl⟩, x_more hE (LE1 rfl) (LE1 rfl) (fin [] h9)⟩
