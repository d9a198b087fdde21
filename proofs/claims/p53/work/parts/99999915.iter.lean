/-! the iterator -/
def itI (I : xIn) : xIn := fun p => if p = (2, 2) then (fun j => if j = 1 then -1 else if j = 2 then I (2, 1) 0 else 0) else I p
def cIt (c : xCx) (a : Nat) : xCx := (c.1, c.2.1 ++ [(2, 2)], (fun p => if p = (2, 2) then (fun k => if k = 3 then some (2, 1) else none) else c.2.2.1 p), fun p => if p = (2, 2) then a else c.2.2.2 p)
/-- the law's world with an iterator -/
def LI (c : xCx) (m b : Nat) : Prop := ((2, 0) ∈ c.2.1 ∧ (2, 2) ∈ c.2.1 ∧ c.2.2.1 (2, 2) 3 = some (2, 1) ∧ 0 ≤ b) ∧ LB c m
theorem LA.it {c : xCx} {m b a : Nat} (h : LA c m b) : LI (cIt c a) m b := by
  obtain ⟨⟨h1, h2, ⟨h3, h4, h5⟩, ⟨h6, h7, h8⟩, -⟩, -, qd, nd, h13, h14, h15, h16, h17⟩ := h
  have hm : ∀ p, p ∈ c.2.1 → (cIt c a).2.2.1 p = c.2.2.1 p := fun p hp => if_neg fun z : p = (2, 2) => h5 (z ▸ hp)
  refine ⟨⟨List.mem_append_left _ h3, List.mem_append_right _ (List.mem_singleton.mpr rfl), rfl, Nat.zero_le _⟩, List.mem_append_left _ h4, qd, nd, h13, List.mem_append_left _ h14, h15, ?_, fun k hk => ?_⟩
  · rw [hm _ h4]; exact h16
  · rw [hm _ h14]; exact ⟨(h17 k hk).1, List.mem_append_left _ (h17 k hk).2⟩
theorem LI.m0 {c : xCx} {m b : Nat} (h : LI c m b) : (2, 0) ∈ lvL c.1 c.2.1 := lvmX h.1.1
theorem LI.m1 {c : xCx} {m b : Nat} (h : LI c m b) : (2, 1) ∈ lvL c.1 c.2.1 := lvmX h.2.1
theorem LI.m2 {c : xCx} {m b : Nat} (h : LI c m b) : (2, 2) ∈ lvL c.1 c.2.1 := lvmX h.1.2.1
theorem LI.lb {c : xCx} {m b : Nat} (h : LI c m b) : LB c m := h.2
theorem LI.er {c : xCx} {m b k : Nat} (h : LI c m b) (hk : k < m) : er k ∈ lvL c.1 c.2.1 := by
  obtain ⟨qd, nd, -, -, -, -, h17⟩ := h.2.2
  exact lvmX (h17 k hk).2
/-- the iterator is let go -/
theorem xLe_it {I J : xIn} {c : xCx} {a : Nat} (hc : cOK c) (hf : cFr c (2, 2)) (hI : ∀ k, xin (I (2, 2) k)) : xLe (J, xst (cIt c a)) ((fun p => if p = (2, 2) then I (2, 2) else J p), xst c) := by
  have hne : ∀ p ∈ lvL c.1 c.2.1, p ≠ (2, 2) := fun p hp z => lv_not hf.1 hf.2.1 (z ▸ hp)
  have hR : ∀ (p : xP) (k : Nat), p ≠ (2, 2) → rst c.1 (fun p => if p = (2, 2) then (fun k => if k = 3 then some (2, 1) else none) else c.2.2.1 p) p k = rst c.1 c.2.2.1 p k := by
    intro p k hp
    unfold rst
    split <;> first | rfl | exact congrFun (if_neg hp : (if p = (2, 2) then (fun k => if k = 3 then some (2, 1) else none) else c.2.2.1 p) = c.2.2.1 p) k
  refine ⟨lv_nodup hc, fun p hp => ⟨cAd_mem (q := (2, 2)) (a := a) hp, if_neg (hne p hp), ?_, (if_neg (hne p hp)).symm, fun k t ht => ?_⟩, fun hJ p k => ?_⟩
  · funext k
    exact (hR p k (hne p hp)).symm
  · have ht : rst c.1 (fun p => if p = (2, 2) then (fun k => if k = 3 then some (2, 1) else none) else c.2.2.1 p) p k = some t := ht
    rw [hR p k (hne p hp)] at ht
    have : t ≠ (2, 2) := fun z => rst_nr hf.1 hf.2.2 p k (z ▸ ht)
    exact (if_neg this).symm
  · show xin ((if p = (2, 2) then I (2, 2) else J p) k)
    split
    · exact hI k
    · exact hJ p k
theorem xuR_s {R : xP → Nat → Option xP} {q : xP} {k : Nat} {v : Option xP} : xuR R q k v q k = v := if_pos ⟨rfl, rfl⟩
section JR
variable {X : xX} {c : xCx} {I : xIn} {m b : Nat}
theorem j_itr (hX : xBase X) (d : Nat) (h2 : (2, 2) ∈ lvL c.1 c.2.1) (h1 : (2, 1) ∈ lvL c.1 c.2.1) : xMet X m_Jx35411_init_45d68 (d + 1) [xr (2, 2), xr (2, 1)] (I, xst c) 0 0 (fun o h9 => o = .inl none ∧ h9 = (xu (xu I (2, 2) 1 (-1)) (2, 2) 2 (I (2, 1) 0), xuR (rst c.1 c.2.2.1) (2, 2) 3 (some (2, 1)), (xst c).2)) := by
  refine xMet_of hX pl_Jx35411_init_45d68.1 (fun w hw => (pl_Jx35411_init_45d68.2.2.1 w hw).1) (LE1 rfl) fun V hV => ?_
  have hE := hV.eng
  refine x_in hE (fun hI => ?_)
  refine x_aload_n (j := 0) (pc := 0) hE dJx35411_init_45d68_0 rfl (x_aload_n (j := 1) (pc := 1) hE dJx35411_init_45d68_1 rfl (x_putFR (pc := 2) hE dJx35411_init_45d68_2 fl_RJx35411_1 rfl h2 rfl rfl (fun C T N h => by cases h; exact ⟨rfl, nf_ok nf_Jx35411 rfl⟩) ?_))
  refine x_aload_n (j := 0) (pc := 5) hE dJx35411_init_45d68_5 rfl (x_objInit (pc := 6) hE dJx35411_init_45d68_6 (by decide +kernel) (by decide +kernel) (by decide +kernel) (Nat.succ_le_succ (Nat.zero_le _)) (LE1 rfl) ?_)
  refine x_aload_n (j := 0) (pc := 9) hE dJx35411_init_45d68_9 rfl (x_iconst (pc := 10) hE dJx35411_init_45d68_10 (x_putI (pc := 11) hE dJx35411_init_45d68_11 fl_RJx35411_13 rfl h2 rfl (by decide) ?_))
  refine x_aload_n (j := 0) (pc := 14) hE dJx35411_init_45d68_14 rfl (x_aload_n (j := 0) (pc := 15) hE dJx35411_init_45d68_15 rfl (x_getR (t := (2, 1)) (pc := 16) hE dJx35411_init_45d68_16 fl_RJx35411_1 rfl h2 (xuR_s (R := rst c.1 c.2.2.1) (q := (2, 2)) (k := 3) (v := some (2, 1))) (x_getI (pc := 19) hE dJx35411_init_45d68_19 fl_RJx35411_17 rfl h1 (x_putI (pc := 22) hE dJx35411_init_45d68_22 fl_RJx35411_22 rfl h2 rfl ?_ (x_retv (pc := 25) hV dJx35411_init_45d68_25 rfl (LE1 rfl) (LE1 rfl) ⟨rfl, ?_⟩)))))
  · show xin (xu I (2, 2) 1 (-1) (2, 1) 0)
    rw [xu_p (by decide)]
    exact hI _ _
  · show (xu (xu I (2, 2) 1 (-1)) (2, 2) 2 (xu I (2, 2) 1 (-1) (2, 1) 0), _) = _
    rw [xu_p (p := (2, 1)) (q := (2, 2)) (by decide)]
    rfl
theorem it_eq {a : Nat} : ((xu (xu (zI I (2, 2)) (2, 2) 1 (-1)) (2, 2) 2 (zI I (2, 2) (2, 1) 0), xuR (rst (cAd c (2, 2) a).1 (cAd c (2, 2) a).2.2.1) (2, 2) 3 (some (2, 1)), (xst (cAd c (2, 2) a)).2) : xS) = (itI I, xst (cIt c a)) := by
  have e1 : xu (xu (zI I (2, 2)) (2, 2) 1 (-1)) (2, 2) 2 (zI I (2, 2) (2, 1) 0) = itI I := by
    funext p j
    unfold xu itI
    by_cases hp : p = (2, 2)
    · subst hp
      rw [zI_q, zI_n (by decide)]
      by_cases h2 : j = 2
      · subst h2; simp
      · by_cases h1 : j = 1
        · subst h1; simp
        · simp [h1, h2]
    · simp [hp, zI]
  have e2 : xuR (rst (cAd c (2, 2) a).1 (cAd c (2, 2) a).2.2.1) (2, 2) 3 (some (2, 1)) = rst c.1 (fun p => if p = (2, 2) then (fun k => if k = 3 then some (2, 1) else none) else c.2.2.1 p) := by
    funext p j
    unfold xuR
    by_cases hp : p = (2, 2)
    · subst hp
      show (if (2, 2) = (2, 2) ∧ j = 3 then some (2, 1) else (if ((2, 2) : xP) = (2, 2) then fun _ => none else c.2.2.1 (2, 2)) j) = (if ((2, 2) : xP) = (2, 2) then (fun k => if k = 3 then some (2, 1) else none) else c.2.2.1 (2, 2)) j
      rw [if_pos rfl, if_pos rfl]
      by_cases hj : j = 3
      · simp [hj]
      · simp [hj]
    · rw [if_neg (fun z => hp z.1)]
      unfold rst
      split
      · rfl
      · rfl
      · show (if p = (2, 2) then fun _ => none else c.2.2.1 p) j = (if p = (2, 2) then (fun k => if k = 3 then some (2, 1) else none) else c.2.2.1 p) j
        rw [if_neg hp, if_neg hp]
      · rfl
  rw [e1, e2]
  rfl
theorem j_iterator (hX : xBase X) (d : Nat) (h1 : (2, 1) ∈ lvL c.1 c.2.1) (hf : cFr c (2, 2)) : xMet X m_Jx4a65c_iterator_32c93 (d + 2) [xr (2, 1)] (I, xst c) 1 4 (fun o h9 => o = .inl (some (xr (2, 2))) ∧ ∃ a, h9 = (itI I, xst (cIt c a))) := by
  refine xMet_of hX pl_Jx4a65c_iterator_32c93.1 (fun w hw => (pl_Jx4a65c_iterator_32c93.2.2.1 w hw).1) (LE1 rfl) fun V hV => ?_
  have hE := hV.eng
  refine x_newO (q := (2, 2)) (pc := 0) hE dJx4a65c_iterator_32c93_0 (ci := 12) rfl (by decide +kernel) (by decide +kernel) (by decide +kernel) fd_Jx35411 rfl (lv_not hf.1 hf.2.1) (rst_nr hf.1 hf.2.2) (frc (P := fun v => xhas (2, 2) v = false) rfl frn) (LE1 rfl) (LE1 rfl) (fun a => ?_)
  rw [xnew_ad hf.1]
  refine x_dup (pc := 3) hE dJx4a65c_iterator_32c93_3 rfl (x_aload_n (j := 0) (pc := 4) hE dJx4a65c_iterator_32c93_4 rfl ?_)
  refine x_callV (as := [xr (2, 1)]) (st := [xr (2, 2)]) hE (j_itr hX d cAd_self (cAd_mem h1)) dJx4a65c_iterator_32c93_5 pl_Jx35411_init_45d68 lk_RJx4a65c_269 rfl cAd_self rfl rfl (Nat.le_refl _) (LE1 rfl) (LE1 rfl) (LE1 rfl) (fun E h9 hh => by cases hh.1) (fun r h9 hh => ?_)
  obtain ⟨hr, rfl⟩ := hh
  cases hr
  refine ⟨xsame_A rfl, ?_⟩
  rw [it_eq]
  exact x_reta (pc := 8) hV dJx4a65c_iterator_32c93_8 rfl (LE1 rfl) (LE1 rfl) ⟨rfl, a, rfl⟩
theorem j_hasNext (hX : xBase X) (d : Nat) (hL : LI c m b) : xRet rB X m_Jx35411_hasNext_aae02 d [xr (2, 2)] c I 0 0 (fun v I9 => v = decide (I (2, 2) 0 ≠ I (2, 1) 2) ∧ I9 = I) xNo := by
  refine xRet_of hX pl_Jx35411_hasNext_aae02 (LE1 rfl) fun V hV => ?_
  have hE := hV.eng
  refine x_in hE (fun hI => ?_)
  exact x_aload_n (j := 0) (pc := 0) hE dJx35411_hasNext_aae02_0 rfl (x_getI (pc := 1) hE dJx35411_hasNext_aae02_1 fl_RJx35411_25 rfl hL.m2 (x_aload_n (j := 0) (pc := 4) hE dJx35411_hasNext_aae02_4 rfl (x_getR (t := (2, 1)) (pc := 5) hE dJx35411_hasNext_aae02_5 fl_RJx35411_1 rfl hL.m2 hL.1.2.2.1 (x_getI (pc := 8) hE dJx35411_hasNext_aae02_8 fl_RJx35411_28 rfl hL.m1 (x_icmp_eq (pc := 11) hE dJx35411_hasNext_aae02_11 rfl (hI _ _) (hI _ _) (fun z => x_iconst (pc := 18) hE dJx35411_hasNext_aae02_18 (x_eB (pc := 19) (b := false) hV dJx35411_hasNext_aae02_19 rfl (LE1 rfl) (LE1 rfl) ⟨(decide_eq_false (fun w => w z)).symm, rfl⟩)) (fun z => x_iconst (pc := 14) hE dJx35411_hasNext_aae02_14 (x_goto (pc := 15) hE dJx35411_hasNext_aae02_15 rfl (x_eB (pc := 19) (b := true) hV dJx35411_hasNext_aae02_19 rfl (LE1 rfl) (LE1 rfl) ⟨(decide_eq_true z).symm, rfl⟩))))))))
theorem j_como (hX : xBase X) (d : Nat) (hL : LI c m b) (h : I (2, 2) 2 = I (2, 1) 0) : xRet rU X m_Jx35411_checkForComodification_da8c8 d [xr (2, 2)] c I 0 0 (fun _ I9 => I9 = I) xNo := by
  refine xRet_of hX pl_Jx35411_checkForComodification_da8c8 (LE1 rfl) fun V hV => ?_
  have hE := hV.eng
  refine x_in hE (fun hI => ?_)
  exact x_aload_n (j := 0) (pc := 0) hE dJx35411_checkForComodification_da8c8_0 rfl (x_getR (t := (2, 1)) (pc := 1) hE dJx35411_checkForComodification_da8c8_1 fl_RJx35411_1 rfl hL.m2 hL.1.2.2.1 (x_getI (pc := 4) hE dJx35411_checkForComodification_da8c8_4 fl_RJx35411_17 rfl hL.m1 (x_aload_n (j := 0) (pc := 7) hE dJx35411_checkForComodification_da8c8_7 rfl (x_getI (pc := 8) hE dJx35411_checkForComodification_da8c8_8 fl_RJx35411_22 rfl hL.m2 (x_icmp_eq (pc := 11) hE dJx35411_checkForComodification_da8c8_11 rfl (hI _ _) (hI _ _) (fun z => x_eU (pc := 22) hV dJx35411_checkForComodification_da8c8_22 rfl (LE1 rfl) (LE1 rfl) rfl) (fun z => absurd h.symm z))))))
theorem j_next (hX : xBase X) (d : Nat) (hL : LI c m b) (hm : I (2, 1) 2 = (m : Int)) (h : I (2, 2) 2 = I (2, 1) 0) (hj : 0 ≤ I (2, 2) 0 ∧ I (2, 2) 0 < (m : Int)) : xRet rP X m_Jx35411_next_0502b (d + 1) [xr (2, 2)] c I 0 0 (fun p I9 => p = er (I (2, 2) 0).toNat ∧ I9 = xu (xu I (2, 2) 0 (I (2, 2) 0 + 1)) (2, 2) 1 (I (2, 2) 0)) xNo := by
  have h256 := hL.2.nd
  obtain ⟨-, qd, nd, g2, g3, g4, g5, g6⟩ := id hL.2
  have hnd : nd ≤ 256 := by
    have := kd_small qd
    rw [g2] at this
    exact this
  refine xRet_of hX pl_Jx35411_next_0502b (LE1 rfl) fun V hV => ?_
  have hE := hV.eng
  refine x_in hE (fun hI => ?_)
  refine x_aload_n (j := 0) (pc := 0) hE dJx35411_next_0502b_0 rfl ?_
  refine x_cr (mc9 := 0) (ms9 := 0) (q := (2, 2)) (as := []) (st := []) (pc := 1) hE dJx35411_next_0502b_1 pl_Jx35411_checkForComodification_da8c8 lk_RJx35411_31 rfl hL.m2 rfl rfl (Nat.le_refl _) (LE1 rfl) (LE1 rfl) (LE1 rfl) (j_como hX d hL h) ?_
  rintro _ I9 rfl
  refine x_aload_n (j := 0) (pc := 4) hE dJx35411_next_0502b_4 rfl (x_getI (pc := 5) hE dJx35411_next_0502b_5 fl_RJx35411_25 rfl hL.m2 (x_istore_n (pc := 8) (lo9 := [(1, xi (I9 (2, 2) 0)), (0, xr (2, 2))]) hE dJx35411_next_0502b_8 (LE1 rfl) rfl ?_))
  refine x_iload_n (j := 0) (pc := 9) hE dJx35411_next_0502b_9 rfl (x_aload_n (j := 1) (pc := 10) hE dJx35411_next_0502b_10 rfl (x_getR (t := (2, 1)) (pc := 11) hE dJx35411_next_0502b_11 fl_RJx35411_1 rfl hL.m2 hL.1.2.2.1 (x_getI (pc := 14) hE dJx35411_next_0502b_14 fl_RJx35411_28 rfl hL.m1 (x_icmp_lt (pc := 17) hE dJx35411_next_0502b_17 rfl (hI _ _) (hI _ _) (fun z => ?_) (fun z => absurd hj.2 (by have z : I9 (2, 1) 2 ≤ I9 (2, 2) 0 := z; omega))))))
  refine x_aload_n (j := 1) (pc := 28) hE dJx35411_next_0502b_28 rfl (x_getR (t := (2, 1)) (pc := 29) hE dJx35411_next_0502b_29 fl_RJx35411_1 rfl hL.m2 hL.1.2.2.1 (x_getR (t := qd) (pc := 32) hE dJx35411_next_0502b_32 fl_RJx35411_37 rfl hL.m1 g5 (x_astore_n (pc := 35) (lo9 := [(2, xr qd), (1, xi (I9 (2, 2) 0)), (0, xr (2, 2))]) hE dJx35411_next_0502b_35 (LE1 rfl) rfl ?_)))
  refine x_iload_n (j := 1) (pc := 36) hE dJx35411_next_0502b_36 rfl (x_aload_n (j := 0) (pc := 37) hE dJx35411_next_0502b_37 rfl (x_alenO (pc := 38) hE dJx35411_next_0502b_38 g2 (lvmX g3) (x_icmp_lt (pc := 39) hE dJx35411_next_0502b_39 rfl (hI _ _) ⟨by omega, by omega⟩ (fun z => ?_) (fun z => absurd hj.2 (by omega)))))
  refine x_aload_n (j := 2) (pc := 50) hE dJx35411_next_0502b_50 rfl (x_iload_n (j := 1) (pc := 51) hE dJx35411_next_0502b_51 rfl (x_iconst (pc := 52) hE dJx35411_next_0502b_52 (x_iadd (pc := 53) hE dJx35411_next_0502b_53 (x_putI (pc := 54) hE dJx35411_next_0502b_54 fl_RJx35411_25 rfl hL.m2 rfl ⟨by omega, by omega⟩ ?_))))
  refine x_aload_n (j := 0) (pc := 57) hE dJx35411_next_0502b_57 rfl (x_aload_n (j := 2) (pc := 58) hE dJx35411_next_0502b_58 rfl (x_iload_n (j := 1) (pc := 59) hE dJx35411_next_0502b_59 rfl (x_dup_x1 (pc := 60) hE dJx35411_next_0502b_60 rfl rfl (x_putI (pc := 61) hE dJx35411_next_0502b_61 fl_RJx35411_13 rfl hL.m2 rfl (hI _ _) ?_))))
  refine x_oaload (t := some (er (I9 (2, 2) 0).toNat)) (pc := 64) hE dJx35411_next_0502b_64 g2 (lvmX g3) hj.1 (by omega) ((rst_2 (kd5 g2)).trans (g6 _ (toN_lt hj)).1) ?_
  exact x_reta (pc := 65) hV dJx35411_next_0502b_65 rfl (LE1 rfl) (LE1 rfl) ⟨_, rfl, Or.inl ⟨_, rfl, rfl, rfl⟩⟩
/-! in the law -/
theorem lkF_has : xLkF RL 82 ⟨"java/util/Iterator", "hasNext", "()Z"⟩ m_Jx35411_hasNext_aae02 0 := ⟨rfl, by decide +kernel, by decide +kernel, by decide +kernel, by decide +kernel, by decide +kernel, by decide +kernel, by decide +kernel, by decide +kernel, ⟨by decide, by decide⟩, by decide +kernel⟩
theorem lkF_next : xLkF RL 88 ⟨"java/util/Iterator", "next", "()Ljava/lang/Object;"⟩ m_Jx35411_next_0502b 0 := ⟨rfl, by decide +kernel, by decide +kernel, by decide +kernel, by decide +kernel, by decide +kernel, by decide +kernel, by decide +kernel, by decide +kernel, ⟨by decide, by decide⟩, by decide +kernel⟩
section LR
variable {y : xM} {d mc ms : Nat} {V : xT} {pc : Nat} {lo : List (Nat × xV)} {st : List xV} {k n : Nat}
theorem x_iter (hX : xBase X) (hV : xEng X y (d + 3) mc ms V) (hL : LA c m b) (hd : decode y.2.1 pc = .ok (.invokevirtual 78, 3)) (hlk : xLk y.1.cls (.invokevirtual 78) m_Jx4a65c_iterator_32c93 true) (hfr : ∀ w ∈ lo.map Prod.snd ++ st, xhl (lvL c.1 c.2.1) w) (hk : k + 1 ≤ mc) (hn : n + 4 ≤ ms) (hst : (st.map fun v => (xc c.2.2.2 v).category).sum ≤ 8) (kk : ∀ a, V (pc + 3) lo (xr (2, 2) :: st) (itI I, xst (cIt c a)) (k + 1) (n + 4)) : V pc lo (xr (2, 1) :: st) (I, xst c) k n := by
  have hf := hL.frT
  refine x_callV (as := []) hV (j_iterator hX d hL.m1 hf) hd pl_Jx4a65c_iterator_32c93 hlk rfl hL.m1 rfl rfl (Nat.le_refl _) hk hn hst (fun E h9 hh => by cases hh.1) (fun r h9 hh => ?_)
  obtain ⟨hr, a, rfl⟩ := hh
  cases hr
  have hA : ∀ w ∈ lo.map Prod.snd ++ st, xc (cIt c a).2.2.2 w = xc c.2.2.2 w := by
    intro w hw
    have h1 := xhl_has (hfr w hw) (lv_not hf.1 hf.2.1)
    rcases w with w | w | w | w | w <;> try rfl
    cases w with
    | none => rfl
    | some p =>
      have : p ≠ (2, 2) := by simpa [xhas] using h1
      show Value.ref (if p = (2, 2) then a else c.2.2.2 p) = Value.ref (c.2.2.2 p)
      rw [if_neg this]
  refine ⟨⟨List.map_congr_left fun z hz => ?_, List.map_congr_left fun z hz => hA z (List.mem_append_right _ hz)⟩, kk a⟩
  show (z.1, xc (cIt c a).2.2.2 z.2) = (z.1, xc c.2.2.2 z.2)
  rw [hA z.2 (List.mem_append_left _ (List.mem_map_of_mem hz))]
theorem x_hasNext (hX : xBase X) (hV : xEng X y (d + 1) mc ms V) (hown : y.1.cls = RL) (hL : LI c m b) {cnt : Nat} (hd : decode y.2.1 pc = .ok (.invokeinterface 82 cnt, 5)) (hk : k ≤ mc) (hn : n ≤ ms) (hst : (st.map fun v => (xc c.2.2.2 v).category).sum ≤ 8) (kk : V (pc + 5) lo (xi (xbi (decide (I (2, 2) 0 ≠ I (2, 1) 2))) :: st) (I, xst c) k n) : V pc lo (xr (2, 2) :: st) (I, xst c) k n := by
  refine x_callF (mc9 := 0) (ms9 := 0) (as := []) hV (j_hasNext hX d hL) hd pl_Jx35411_hasNext_aae02 (by rw [hown]; exact lkF_has) rfl hL.m2 rfl rfl (Nat.le_refl _) hk hn hst (fun E h9 hh => ?_) (fun r h9 hh => ?_)
  · obtain ⟨I9, -, ⟨a, ha, -⟩ | ⟨e, -, he⟩⟩ := hh
    · cases ha
    · exact he
  · obtain ⟨I9, rfl, ⟨a, ha, rfl, rfl⟩ | ⟨e, he, -⟩⟩ := hh
    · cases ha
      exact ⟨xsame_A rfl, kk⟩
    · cases he
theorem x_next (hX : xBase X) (hV : xEng X y (d + 2) mc ms V) (hown : y.1.cls = RL) (hL : LI c m b) {cnt cix : Nat} (hd : decode y.2.1 pc = .ok (.invokeinterface 88 cnt, 5)) (hd2 : decode y.2.1 (pc + 5) = .ok (.checkcast cix, 3)) (hw : Cond.classLink y.1.cls cix "[I" ∈ lw_tbl) (hm : I (2, 1) 2 = (m : Int)) (h : I (2, 2) 2 = I (2, 1) 0) (hj : 0 ≤ I (2, 2) 0 ∧ I (2, 2) 0 < (m : Int)) (hk : k ≤ mc) (hn : n ≤ ms) (hst : (st.map fun v => (xc c.2.2.2 v).category).sum ≤ 8) (kk : V (pc + 8) lo (xr (er (I (2, 2) 0).toNat) :: st) (xu (xu I (2, 2) 0 (I (2, 2) 0 + 1)) (2, 2) 1 (I (2, 2) 0), xst c) k n) : V pc lo (xr (2, 2) :: st) (I, xst c) k n := by
  refine x_callF (mc9 := 0) (ms9 := 0) (as := []) hV (j_next hX d hL hm h hj) hd pl_Jx35411_next_0502b (by rw [hown]; exact lkF_next) rfl hL.m2 rfl rfl (Nat.le_refl _) hk hn hst (fun E h9 hh => ?_) (fun r h9 hh => ?_)
  · obtain ⟨I9, -, ⟨a, ha, -⟩ | ⟨e, -, he⟩⟩ := hh
    · cases ha
    · exact he
  · obtain ⟨I9, rfl, ⟨a, ha, rfl, rfl⟩ | ⟨e, he, -⟩⟩ := hh
    · cases ha
      exact ⟨xsame_A rfl, x_castI hV hd2 hw (kd_er _) (hL.er (toN_lt hj)) kk⟩
    · cases he
end LR
end JR
