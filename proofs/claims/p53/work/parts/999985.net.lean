/-! a new net -/
def zA {α : Type} (z : α) (N j : Nat) (I : xP → Nat → α) : xP → Nat → α := fun p => if p.1 = N + 3 ∧ 1 ≤ p.2 ∧ p.2 ≤ j then fun _ => z else I p
def zR (N j : Nat) (R : xP → Nat → Option xP) : xP → Nat → Option xP := fun p k => if p = (N + 3, 0) ∧ 1 ≤ k ∧ k ≤ j then some (N + 3, k) else zA none N j R p k
def sN (N j : Nat) (h : xS) (A : xP → Nat) : xS := (zA 0 N j h.I, zR N j h.R, zA 0 N j h.J, zA 0 N j h.F, h.L ++ (List.range j).map (fun x => ((N + 3, x + 1) : xP)), A)
def nOK (N : Nat) (h : xS) : Prop := (N + 3, 0) ∈ h.L ∧ (∀ x, 1 ≤ x → ((N + 3, x) : xP) ∉ h.L) ∧ ∀ (p : xP) (k x : Nat), 1 ≤ x → h.R p k ≠ some (N + 3, x)
def nAg (N : Nat) (A A9 : xP → Nat) : Prop := ∀ p : xP, (p.1 ≠ N + 3 ∨ p.2 = 0) → A9 p = A p
theorem nAg.rf {N : Nat} {A : xP → Nat} : nAg N A A := fun _ _ => rfl
theorem nAg.tr {N : Nat} {A A1 A2 : xP → Nat} (h1 : nAg N A A1) (h2 : nAg N A1 A2) : nAg N A A2 := fun p hp => (h2 p hp).trans (h1 p hp)
theorem zA_0 {α : Type} {z : α} {N : Nat} {I : xP → Nat → α} : zA z N 0 I = I := by
  funext p
  unfold zA
  rw [if_neg (by omega)]
theorem sN_0 {N : Nat} {h : xS} : sN N 0 h h.A = h := by
  unfold sN
  rw [zA_0, zA_0, zA_0]
  have : zR N 0 h.R = h.R := by
    funext p k
    unfold zR
    rw [zA_0, if_neg (by omega)]
  rw [this]
  simp [xS.I, xS.R, xS.J, xS.F, xS.L, xS.A]
theorem zA_s {α : Type} {z : α} {N j : Nat} {I : xP → Nat → α} : (fun p => if p = ((N + 3, j + 1) : xP) then fun _ => z else zA z N j I p) = zA z N (j + 1) I := by
  funext p
  unfold zA
  by_cases h : p = (N + 3, j + 1)
  · rw [if_pos h, h, if_pos ⟨rfl, by omega, Nat.le_refl _⟩]
  · rw [if_neg h]
    by_cases h2 : p.1 = N + 3 ∧ 1 ≤ p.2 ∧ p.2 ≤ j
    · rw [if_pos h2, if_pos ⟨h2.1, h2.2.1, by omega⟩]
    · rw [if_neg h2, if_neg]
      rintro ⟨a, b, e⟩
      apply h
      have : p.2 = j + 1 := by
        rcases Nat.lt_or_ge p.2 (j + 1) with q | q
        · exact absurd ⟨a, b, by omega⟩ h2
        · omega
      exact Prod.ext a this
theorem zR_s {N j : Nat} {R : xP → Nat → Option xP} : xuR (fun p => if p = ((N + 3, j + 1) : xP) then fun _ => none else zR N j R p) (N + 3, 0) (j + 1) (some (N + 3, j + 1)) = zR N (j + 1) R := by
  funext p k
  unfold xuR
  show (if p = (N + 3, 0) ∧ k = j + 1 then some (N + 3, j + 1) else (if p = (N + 3, j + 1) then fun _ => none else zR N j R p) k) = zR N (j + 1) R p k
  unfold zR
  by_cases h0 : p = (N + 3, 0)
  · subst h0
    have hne : ((N + 3, 0) : xP) ≠ (N + 3, j + 1) := fun z => by have := (Prod.mk.inj z).2; omega
    rw [if_neg hne]
    by_cases hk : k = j + 1
    · subst hk
      rw [if_pos ⟨rfl, rfl⟩, if_pos ⟨rfl, by omega, Nat.le_refl _⟩]
    · rw [if_neg (fun q => hk q.2)]
      by_cases hk2 : 1 ≤ k ∧ k ≤ j
      · rw [if_pos ⟨rfl, hk2⟩, if_pos ⟨rfl, hk2.1, by omega⟩]
      · rw [if_neg (fun q => hk2 q.2), if_neg (fun q => hk2 ⟨q.2.1, by omega⟩)]
        unfold zA
        rw [if_neg (by simp), if_neg (by simp)]
  · rw [if_neg (c := p = (N + 3, 0) ∧ k = j + 1) (fun q => h0 q.1), if_neg (c := p = (N + 3, 0) ∧ 1 ≤ k ∧ k ≤ j + 1) (fun q => h0 q.1), ← zA_s]
    show _ = (if p = (N + 3, j + 1) then fun _ => none else zA none N j R p) k
    by_cases h1 : p = (N + 3, j + 1)
    · rw [if_pos h1, if_pos h1]
    · rw [if_neg h1, if_neg h1]
      show (if p = (N + 3, 0) ∧ 1 ≤ k ∧ k ≤ j then some (N + 3, k) else zA none N j R p k) = _
      rw [if_neg (fun q => h0 q.1)]
section XR
variable {X : xX} {y : xM} {d mc ms : Nat} {V : xT} {pc : Nat} {lo : List (Nat × xV)} {st : List xV} {h : xS} {k n N : Nat} {A : xP → Nat}
theorem n_step (hV : xEng X y d mc ms V) {j nn idx : Nat} {v : Int} (hN : nOK N h) (hd1 : decode y.2.1 pc = .ok (.newarray .int, 2)) (hd2 : decode y.2.1 (pc + 2) = .ok (.putfield idx, 3)) (hv : v = nn) (hkd : kd (N + 3, j + 1) = (1, nn)) (hk0 : kd (N + 3, 0) = (0, 3)) (hf : xFL y.1.cls idx 3 (j + 1) true) (hfin : xFin 3 (j + 1) = some true) (hin2 : y.1.name = "<init>") (hdc : ∀ (C : String) (T : u_T) (N : Nat), vwCl[3]? = some (C, T, N) → (T (j + 1)).1 = y.1.cls ∧ ∀ host, Cond.fieldLinkNest y.1.cls idx (T (j + 1)).1 (T (j + 1)).2.1 (T (j + 1)).2.2.1 host ∉ lw_tbl) (hlo : ∀ v ∈ lo.map Prod.snd, xhas (N + 3, j + 1) v = false) (hk1 : k + 1 ≤ mc) (hn1 : n + nn ≤ ms) (kk : ∀ A9, nAg N A A9 → V (pc + 5) lo [] (sN N (j + 1) h A9) (k + 1) (n + nn)) : V pc lo [xi v, xr (N + 3, 0)] (sN N j h A) k n := by
  have hz : xhas (N + 3, j + 1) (xr (N + 3, 0)) = false := by
    have : ((N + 3, 0) : xP) ≠ (N + 3, j + 1) := fun z => by have := (Prod.mk.inj z).2; omega
    simp [xhas, this]
  refine x_newAI (q := (N + 3, j + 1)) hV hd1 hv hkd ?_ ?_ ?_ hk1 hn1 (fun a => ?_)
  · show ((N + 3, j + 1) : xP) ∉ h.L ++ (List.range j).map (fun x => ((N + 3, x + 1) : xP))
    rw [List.mem_append]
    rintro (q | q)
    · exact hN.2.1 _ (by omega) q
    · obtain ⟨x, hx, he⟩ := List.mem_map.mp q
      have h1 := List.mem_range.mp hx
      have h2 := (Prod.mk.inj he).2
      omega
  · intro p k9
    show zR N j h.R p k9 ≠ _
    unfold zR zA
    split
    · intro z
      have := (Prod.mk.inj (Option.some.inj z)).2
      omega
    · split
      · simp
      · exact hN.2.2 p k9 (j + 1) (by omega)
  · intro v hv
    rcases List.mem_append.mp hv with hv | hv
    · exact hlo v hv
    · rw [List.mem_singleton.mp hv]; exact hz
  · have hm : (N + 3, 0) ∈ (xnew (sN N j h A) (N + 3, j + 1) a).L := List.mem_append_left _ (List.mem_append_left _ hN.1)
    refine x_putFR hV hd2 hf hk0 hm hfin hin2 hdc ?_
    have hA : nAg N A (xnew (sN N j h A) (N + 3, j + 1) a).A := by
      intro p hp
      show (if p = (N + 3, j + 1) then a else A p) = A p
      rw [if_neg]
      rintro rfl
      rcases hp with hp | hp
      · exact hp rfl
      · cases hp
    have he : ((xnew (sN N j h A) (N + 3, j + 1) a).1, xuR (xnew (sN N j h A) (N + 3, j + 1) a).R (N + 3, 0) (j + 1) (some (N + 3, j + 1)), (xnew (sN N j h A) (N + 3, j + 1) a).2.2) = sN N (j + 1) h (xnew (sN N j h A) (N + 3, j + 1) a).A := by
      refine Prod.ext zA_s (Prod.ext zR_s (Prod.ext zA_s (Prod.ext zA_s (Prod.ext ?_ rfl))))
      show (h.L ++ (List.range j).map (fun x => ((N + 3, x + 1) : xP))) ++ [((N + 3, j + 1) : xP)] = h.L ++ (List.range (j + 1)).map (fun x => ((N + 3, x + 1) : xP))
      rw [List.range_succ, List.map_append, List.append_assoc]
      rfl
    rw [he]
    exact kk _ hA
end XR
theorem nf_X3 : nfL RX3 [9, 15, 19, 22, 25, 28, 31] = true := by decide +kernel
theorem hz3 {N j : Nat} {n : Int} : ∀ v ∈ ([(0, xr (N + 3, 0)), (1, xi n)] : List (Nat × xV)).map Prod.snd, xhas (N + 3, j + 1) v = false := by
  intro v hv
  have : v = xr (N + 3, 0) ∨ v = xi n := by simpa using hv
  rcases this with rfl | rfl
  · have : ((N + 3, 0) : xP) ≠ (N + 3, j + 1) := fun z => by have := (Prod.mk.inj z).2; omega
    simp [xhas, this]
  · rfl
theorem ci_X3 {X : xX} (hX : xBase X) {d N : Nat} {h : xS} {n : Int} (hn : xin n) (hN : nOK N h) : xMet X m_X3_init (d + 1) [xr (N + 3, 0), xi n] h 6 88 (fun o h9 => o = .inl none ∧ ∃ A9, h9 = sN N 6 (xu h.I (N + 3, 0) 0 n, h.2) A9 ∧ nAg N h.A A9) := by
  refine xMet_of hX pl_X3_init.1 (fun w hw => (pl_X3_init.2.2.1 w hw).1) (by show 1 + (1 + 0) ≤ 2; decide) (fun V hV => ?_)
  have hE := hV.eng
  have hN9 : nOK N (xu h.I (N + 3, 0) 0 n, h.2) := hN
  show V 0 [(0, xr (N + 3, 0)), (1, xi n)] [] h 0 0
  refine x_aload_n (pc := 0) (j := 0) hE dX3_init_0 rfl ?_
  refine x_objInit (pc := 1) hE dX3_init_1 (tb2 _ (List.mem_of_getElem? (i := 232) rfl)) (tb1 _ (List.mem_of_getElem? (i := 36) rfl)) (tb1 _ (List.mem_of_getElem? (i := 37) rfl)) (Nat.succ_le_succ (Nat.zero_le _)) (Nat.le_of_ble_eq_true rfl) ?_
  refine x_aload_n (pc := 4) (j := 0) hE dX3_init_4 rfl ?_
  refine x_iload_n (pc := 5) (j := 1) hE dX3_init_5 rfl ?_
  refine x_putFI (pc := 6) hE dX3_init_6 fl_RX3_9 rfl hN.1 rfl rfl (fun C T N h => by cases h; exact ⟨rfl, nf_ok nf_X3 rfl⟩) hn ?_
  rw [← sN_0 (N := N) (h := (xu h.I (N + 3, 0) 0 n, h.2))]
  refine x_aload_n (pc := 9) (j := 0) hE dX3_init_9 rfl (x_bipush (pc := 10) hE dX3_init_10 (by decide) ?_)
  refine n_step (pc := 12) (nn := 16) hE hN9 dX3_init_12 dX3_init_14 rfl rfl rfl fl_RX3_15 rfl rfl (fun C T N h => by cases h; exact ⟨rfl, nf_ok nf_X3 rfl⟩) hz3 (Nat.le_of_ble_eq_true rfl) (Nat.le_of_ble_eq_true rfl) (fun A1 g1 => ?_)
  refine x_aload_n (pc := 17) (j := 0) hE dX3_init_17 rfl (x_bipush (pc := 18) hE dX3_init_18 (by decide) ?_)
  refine n_step (pc := 20) (nn := 16) hE hN9 dX3_init_20 dX3_init_22 rfl rfl rfl fl_RX3_19 rfl rfl (fun C T N h => by cases h; exact ⟨rfl, nf_ok nf_X3 rfl⟩) hz3 (Nat.le_of_ble_eq_true rfl) (Nat.le_of_ble_eq_true rfl) (fun A2 g2 => ?_)
  refine x_aload_n (pc := 25) (j := 0) hE dX3_init_25 rfl (x_bipush (pc := 26) hE dX3_init_26 (by decide) ?_)
  refine n_step (pc := 28) (nn := 16) hE hN9 dX3_init_28 dX3_init_30 rfl rfl rfl fl_RX3_22 rfl rfl (fun C T N h => by cases h; exact ⟨rfl, nf_ok nf_X3 rfl⟩) hz3 (Nat.le_of_ble_eq_true rfl) (Nat.le_of_ble_eq_true rfl) (fun A3 g3 => ?_)
  refine x_aload_n (pc := 33) (j := 0) hE dX3_init_33 rfl (x_bipush (pc := 34) hE dX3_init_34 (by decide) ?_)
  refine n_step (pc := 36) (nn := 16) hE hN9 dX3_init_36 dX3_init_38 rfl rfl rfl fl_RX3_25 rfl rfl (fun C T N h => by cases h; exact ⟨rfl, nf_ok nf_X3 rfl⟩) hz3 (Nat.le_of_ble_eq_true rfl) (Nat.le_of_ble_eq_true rfl) (fun A4 g4 => ?_)
  refine x_aload_n (pc := 41) (j := 0) hE dX3_init_41 rfl (x_bipush (pc := 42) hE dX3_init_42 (by decide) ?_)
  refine n_step (pc := 44) (nn := 16) hE hN9 dX3_init_44 dX3_init_46 rfl rfl rfl fl_RX3_28 rfl rfl (fun C T N h => by cases h; exact ⟨rfl, nf_ok nf_X3 rfl⟩) hz3 (Nat.le_of_ble_eq_true rfl) (Nat.le_of_ble_eq_true rfl) (fun A5 g5 => ?_)
  refine x_aload_n (pc := 49) (j := 0) hE dX3_init_49 rfl (x_bipush (pc := 50) hE dX3_init_50 (by decide) ?_)
  refine n_step (pc := 52) (nn := 8) hE hN9 dX3_init_52 dX3_init_54 rfl rfl rfl fl_RX3_31 rfl rfl (fun C T N h => by cases h; exact ⟨rfl, nf_ok nf_X3 rfl⟩) hz3 (Nat.le_of_ble_eq_true rfl) (Nat.le_of_ble_eq_true rfl) (fun A6 g6 => ?_)
  exact x_retv (pc := 57) hV dX3_init_57 rfl (Nat.le_of_ble_eq_true rfl) (Nat.le_of_ble_eq_true rfl) ⟨rfl, A6, rfl, nAg.tr g1 (nAg.tr g2 (nAg.tr g3 (nAg.tr g4 (nAg.tr g5 g6))))⟩
