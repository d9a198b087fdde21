/-! the start: nothing is there yet -/
def T00 : NT := (0, fun _ => (0, 0, fun _ => 0, fun _ => 0), fun _ _ => 0, fun _ _ => 0, fun _ _ => 0, fun _ _ => 0)
def σ00 : St9 := (T00, fun _ => 0, (0, fun _ => 0, fun _ => 0), (0, fun _ => 0, fun _ => 0, fun _ => 0), (1, 1, fun _ => 0))
theorem cR_all : cR rsAll = rst 0 := by
  funext p k
  obtain ⟨g, j⟩ := p
  have hall : rsAll.all (fun e => decide (e.1.1.1 < 2 ∧ e.1.1.2 < 36 ∧ e.1.2 < 40)) = true := by decide +kernel
  have hfar : ¬ (g < 2 ∧ j < 36 ∧ k < 40) → cR rsAll (g, j) k = none := by
    intro hn
    unfold cR
    rw [List.lookup_eq_none_iff]
    intro e he
    have := of_decide_eq_true (List.all_eq_true.mp hall e he)
    rw [bne_iff_ne]
    rintro h
    have h1 := congrArg Prod.fst h
    have h2 := congrArg Prod.snd h
    have h3 := congrArg Prod.fst h1
    have h4 := congrArg Prod.snd h1
    apply hn
    refine ⟨?_, ?_, ?_⟩
    · show (g, j).1 < 2; rw [show (g, j).1 = e.1.1.1 from h3]; exact this.1
    · show (g, j).2 < 36; rw [show (g, j).2 = e.1.1.2 from h4]; exact this.2.1
    · rw [show k = e.1.2 from h2]; exact this.2.2
  by_cases hn : g < 2 ∧ j < 36 ∧ k < 40
  · have key : ∀ g : Fin 2, ∀ j : Fin 36, ∀ k : Fin 40, cR rsAll (g.val, j.val) k.val = rst 0 (g.val, j.val) k.val := by decide +kernel
    exact key ⟨g, hn.1⟩ ⟨j, hn.2.1⟩ ⟨k, hn.2.2⟩
  · rw [hfar hn]
    match g with
    | 0 =>
      show _ = (if j = 1 then (if k < 0 then some (k + 3, 0) else none) else rf0 j k)
      split
      · rw [if_neg (by omega)]
      · unfold rf0
        split <;> first | rfl | (exfalso; omega)
    | 1 =>
      show _ = rf1 j k
      unfold rf1
      split <;> first | rfl | (exfalso; omega)
    | 2 => rfl
    | i + 3 => rfl
theorem cI_off {q : xP} (h : isAll.all (fun e => !(e.1.1 == q)) = true) (k : Nat) : cI isAll q k = 0 := by
  unfold cI
  rw [lookup_off h]
  rfl
theorem SK_00 : SK σ00 :=
  ⟨⟨Nat.zero_le _, fun i hi => absurd hi (Nat.not_lt_zero _)⟩, fun k _ => Nat.zero_le _, ⟨Nat.zero_le _, fun k _ => ⟨Int.le_refl _, by show (0 : Int) ≤ 99; decide⟩, fun a b _ _ => ⟨⟨Int.le_refl _, by show (0 : Int) ≤ 9; decide⟩, rfl⟩⟩, ⟨Nat.zero_le _, fun k _ => ⟨⟨Int.le_refl _, by show (0 : Int) ≤ 99; decide⟩, Nat.zero_le _, Int.le_refl _, by show (0 : Int) ≤ 99; decide⟩⟩, ⟨⟨Nat.le_refl _, by show 1 ≤ 4; decide⟩, ⟨Nat.le_refl _, by show 1 ≤ 4; decide⟩, fun p _ => ⟨Int.le_refl _, by show (0 : Int) ≤ 999; decide⟩⟩⟩
theorem CC_00 {c : xCx} (hc : c.1 = 0) : CC (cI isAll) c σ00 :=
  ⟨⟨hc, cI_off (q := (0, 0)) rfl 1, fun i hi => absurd hi (Nat.not_lt_zero _)⟩, fun k _ => cI_off (q := (0, 21)) rfl k, ⟨cI_off (q := (0, 24)) rfl 0, fun k _ => cI_off (q := (0, 25)) rfl k, fun k _ => cI_off (q := (0, 26)) rfl k⟩, ⟨cI_off (q := (0, 32)) rfl 0, fun k _ => ⟨cI_off (q := (0, 33)) rfl k, cI_off (q := (0, 34)) rfl k, cI_off (q := (0, 35)) rfl k⟩⟩, ⟨rfl, rfl, fun p _ => cI_off (q := (0, 28)) rfl p⟩⟩
theorem MM_00 : MM (cI isAll) σ00 :=
  ⟨⟨rfl, fun k _ _ => ⟨cI_off (q := (1, 1)) rfl k, cI_off (q := (1, 2)) rfl k, fun x _ => cI_off (q := (1, 8)) rfl _⟩, fun i hi => absurd hi (Nat.not_lt_zero _)⟩, fun k _ => cI_off (q := (1, 9)) rfl k, ⟨rfl, fun k _ => cI_off (q := (1, 10)) rfl k, fun k _ => cI_off (q := (1, 11)) rfl k⟩, ⟨rfl, fun k _ => ⟨cI_off (q := (1, 14)) rfl k, cI_off (q := (1, 15)) rfl k, cI_off (q := (1, 16)) rfl k⟩⟩, ⟨rfl, rfl, fun p _ => cI_off (q := (1, 12)) rfl p⟩⟩
theorem cS_all {A : xP → Nat} : cS 64 rsAll isAll A = (cI isAll, xst (0, fun _ _ => 0, fun _ _ => 0, A)) := by
  unfold cS xst
  rw [cR_all]
  have : cL 64 = lvL 0 := rfl
  rw [this]
set_option maxRecDepth 100000 in
theorem law_entry {X : xX} (hX : xBase X) {V : xT} (hE : xEng X m_L_law 12 601024 7293034 V) {b L : Nat} {xs : Nat → Int32} (hs : LSc X b L xs) (fin : ∀ (lo : List (Nat × xV)) (h : xS), V 3925 lo [xi 1] h 601024 7293034) (A : xP → Nat) (hA : A (2, 9) = b) : V 0 [(0, xr (2, 9))] [] (cS 0 [] [] A) 0 0 := by
  refine c_newO (pc := 0) (q := (0, 0)) hE dL_law_0 rfl (tb1 _ (List.mem_of_getElem? (i := 21) rfl)) (tb1 _ (List.mem_of_getElem? (i := 22) rfl)) (tb1 _ (List.mem_of_getElem? (i := 1) rfl)) fd_X9 rfl (by decide +kernel) rfl (Nat.le_of_ble_eq_true rfl) (Nat.le_of_ble_eq_true rfl) (fun A1 g1 => ?_)
  refine x_dup (pc := 3) hE dL_law_3 rfl ?_
  refine c_init (pc := 4) hE (ci_X9 hX (d := 8) _) dL_law_4 pl_X9_init lk_RL_167 (by decide +kernel) rfl rfl (Nat.le_refl _) (Nat.le_of_ble_eq_true rfl) (Nat.le_of_ble_eq_true rfl) (Nat.le_of_ble_eq_true rfl) (by decide +kernel) (fun A2 g2 => ?_)
  refine x_astore_n (pc := 7) (lo9 := [(1, xr (0, 0)), (0, xr (2, 9))]) hE dL_law_7 (by decide) rfl ?_
  refine c_newO (pc := 8) (q := (1, 0)) hE dL_law_8 rfl (tb6 _ (List.mem_of_getElem? (i := 125) rfl)) (tb6 _ (List.mem_of_getElem? (i := 126) rfl)) (tb1 _ (List.mem_of_getElem? (i := 10) rfl)) fd_X10 rfl (by decide +kernel) rfl (Nat.le_of_ble_eq_true rfl) (Nat.le_of_ble_eq_true rfl) (fun A3 g3 => ?_)
  refine x_dup (pc := 11) hE dL_law_11 rfl ?_
  refine c_init (pc := 12) hE (ci_X10 hX (d := 10) _) dL_law_12 pl_X10_init lk_RL_170 (by decide +kernel) rfl rfl (Nat.le_refl _) (Nat.le_of_ble_eq_true rfl) (Nat.le_of_ble_eq_true rfl) (Nat.le_of_ble_eq_true rfl) (by decide +kernel) (fun A4 g4 => ?_)
  refine x_astore_n (pc := 15) (lo9 := [(2, xr (1, 0)), (1, xr (0, 0)), (0, xr (2, 9))]) hE dL_law_15 (by decide) rfl ?_
  refine x_iconst (pc := 16) hE dL_law_16 ?_
  refine c_newJ (pc := 17) (nn := 1) (q := (2, 0)) hE dL_law_17 rfl rfl (by decide +kernel) rfl (Nat.le_of_ble_eq_true rfl) (Nat.le_of_ble_eq_true rfl) (fun A5 g5 => ?_)
  refine x_astore_n (pc := 19) (lo9 := [(3, xr (2, 0)), (2, xr (1, 0)), (1, xr (0, 0)), (0, xr (2, 9))]) hE dL_law_19 (by decide) rfl ?_
  refine x_iconst (pc := 20) hE dL_law_20 ?_
  refine c_newF (pc := 21) (nn := 1) (q := (2, 1)) hE dL_law_21 rfl rfl (by decide +kernel) rfl (Nat.le_of_ble_eq_true rfl) (Nat.le_of_ble_eq_true rfl) (fun A6 g6 => ?_)
  refine x_astore (pc := 23) (lo9 := [(4, xr (2, 1)), (3, xr (2, 0)), (2, xr (1, 0)), (1, xr (0, 0)), (0, xr (2, 9))]) hE dL_law_23 (by decide) rfl ?_
  refine x_iconst (pc := 25) hE dL_law_25 ?_
  refine x_istore (pc := 26) (lo9 := [(5, xi 0), (4, xr (2, 1)), (3, xr (2, 0)), (2, xr (1, 0)), (1, xr (0, 0)), (0, xr (2, 9))]) hE dL_law_26 (by decide) rfl ?_
  have hg := cAg.tr (cAg.tr (cAg.tr (cAg.tr (cAg.tr g1 g2 (Nat.le_of_ble_eq_true rfl)) g3 (Nat.le_of_ble_eq_true rfl)) g4 (Nat.le_of_ble_eq_true rfl)) g5 (Nat.le_of_ble_eq_true rfl)) g6 (Nat.le_of_ble_eq_true rfl)
  have hA6 : A6 (2, 9) = b := (hg (2, 9) (Or.inl rfl)).trans hA
  refine x_loc hE [5, 4, 3, 2, 1, 0] rfl ?_
  have hK := law_loop hX hE hs fin (L + 1) 0 (by omega) (Nat.zero_le _) (cI isAll) (0, fun _ _ => 0, fun _ _ => 0, A6) σ00 SK_00 (CC_00 rfl) MM_00 hA6
  rw [← cS_all] at hK
  exact hK
