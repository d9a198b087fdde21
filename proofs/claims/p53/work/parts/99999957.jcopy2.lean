/-! the eleventh row: the list's row grows -/
def cCp (c : xCx) (a : Nat) : xCx := (c.1, c.2.1 ++ [(2, 4)], (fun p k => if p = (2, 4) then (if k < 10 then c.2.2.1 (2, 3) k else none) else c.2.2.1 p k), fun p => if p = (2, 4) then a else c.2.2.2 p)
theorem cp_eq {c : xCx} {a : Nat} {I : xIn} : ((I, cpyR (rst (cAd c (2, 4) a).1 (cAd c (2, 4) a).2.2.1) (2, 3) (2, 4) 10, (xst (cAd c (2, 4) a)).2) : xS) = (I, xst (cCp c a)) := by
  have e : cpyR (rst (cAd c (2, 4) a).1 (cAd c (2, 4) a).2.2.1) (2, 3) (2, 4) 10 = rst c.1 (cCp c a).2.2.1 := by
    funext p j
    unfold cpyR
    by_cases hp : p = (2, 4)
    · subst hp
      show (if ((2, 4) : xP) = (2, 4) ∧ j < 10 then (if ((2, 3) : xP) = (2, 4) then fun _ => none else c.2.2.1 (2, 3)) j else (if ((2, 4) : xP) = (2, 4) then fun _ => none else c.2.2.1 (2, 4)) j) = (if ((2, 4) : xP) = (2, 4) then (if j < 10 then c.2.2.1 (2, 3) j else none) else c.2.2.1 (2, 4) j)
      rw [if_pos (c := ((2, 4) : xP) = (2, 4)) rfl, if_neg (c := ((2, 3) : xP) = (2, 4)) (by decide), if_pos (c := ((2, 4) : xP) = (2, 4)) rfl]
      by_cases hj : j < 10
      · rw [if_pos ⟨rfl, hj⟩, if_pos hj]
      · rw [if_neg (fun z => hj z.2), if_neg hj]
    · rw [if_neg (fun z => hp z.1)]
      unfold rst
      split
      · rfl
      · rfl
      · show (if p = (2, 4) then fun _ => none else c.2.2.1 p) j = (if p = (2, 4) then (if j < 10 then c.2.2.1 (2, 3) j else none) else c.2.2.1 p j)
        rw [if_neg hp, if_neg hp]
      · rfl
  rw [e]
  rfl
section JA
variable {X : xX} {c : xCx} {I : xIn}
theorem j_newLength (hX : xBase X) (d : Nat) : xRet rI X m_J8_newLength_cabcc (d + 1) [xi 10, xi 1, xi 5] c I 0 0 (fun v J => v = 15 ∧ J = I) xNo := by
  refine xRet_of hX pl_J8_newLength_cabcc (LE1 rfl) fun V hV => ?_
  have hE := hV.eng
  refine x_iload_n (j := 0) (pc := 0) hE dJ8_newLength_cabcc_0 rfl (x_iload_n (j := 1) (pc := 1) hE dJ8_newLength_cabcc_1 rfl (x_iload_n (j := 2) (pc := 2) hE dJ8_newLength_cabcc_2 rfl ?_))
  refine x_mmax (pc := 3) hE dJ8_newLength_cabcc_3 (by decide +kernel) ⟨by decide, by decide⟩ ⟨by decide, by decide⟩ (LE1 rfl) (LE1 rfl) (LE1 rfl) (Nat.succ_le_succ (Nat.zero_le _)) ?_
  refine x_iadd (pc := 6) hE dJ8_newLength_cabcc_6 ?_
  show V 7 _ [xi 15] _ _ _
  refine x_istore_n (pc := 7) (lo9 := [(3, xi 15), (0, xi 10), (1, xi 1), (2, xi 5)]) hE dJ8_newLength_cabcc_7 (LE1 rfl) rfl ?_
  refine x_iconst (pc := 8) hE dJ8_newLength_cabcc_8 (x_iload_n (j := 0) (pc := 9) hE dJ8_newLength_cabcc_9 rfl (x_icmp_ge (pc := 10) hE dJ8_newLength_cabcc_10 rfl x0 ⟨by decide, by decide⟩ (fun z => absurd z (by decide)) (fun _ => ?_)))
  refine x_iload_n (j := 0) (pc := 13) hE dJ8_newLength_cabcc_13 rfl (x_ldc (v := 2147483639) (pc := 14) hE dJ8_newLength_cabcc_14 (by decide +kernel) (x_icmp_gt (pc := 16) hE dJ8_newLength_cabcc_16 rfl ⟨by decide, by decide⟩ ⟨by decide, by decide⟩ (fun z => absurd z (by decide)) (fun _ => ?_)))
  exact x_iload_n (j := 0) (pc := 19) hE dJ8_newLength_cabcc_19 rfl (x_eI (pc := 20) hV dJ8_newLength_cabcc_20 rfl (LE1 rfl) (LE1 rfl) ⟨rfl, rfl⟩)
theorem j_copy3 (hX : xBase X) (d : Nat) {mi : Nat} (hm : va_Mi "[Ljava/lang/Object;" mi X.S) (hA : c.2.2.2 (2, 7) = mi) (h3 : (2, 3) ∈ lvL c.1 c.2.1) (hf : cFr c (2, 4)) (hel : ∀ i, i < 10 → c.2.2.1 (2, 3) i = some (er i) ∧ er i ∈ c.2.1) : xMet X m_J7_copyOf_6403c (d + 1) [xr (2, 3), xi 15, xr (2, 7)] (I, xst c) 1 15 (fun o h9 => o = .inl (some (xr (2, 4))) ∧ ∃ a, h9 = (zI I (2, 4), xst (cCp c a))) := by
  refine xMet_of hX pl_J7_copyOf_6403c.1 (fun w hw => (pl_J7_copyOf_6403c.2.2.1 w hw).1) (by decide) (fun V hV => ?_)
  have hE := hV.eng
  refine x_aload_n (j := 2) (pc := 0) hE dJ7_copyOf_6403c_0 rfl (x_ldcM (pc := 1) hE hm dJ7_copyOf_6403c_1 (by decide +kernel) hA (x_acmpN_same (pc := 3) (tgt := 13) hE dJ7_copyOf_6403c_3 rfl ?_))
  refine x_iload_n (j := 1) (pc := 6) hE dJ7_copyOf_6403c_6 rfl ?_
  refine x_newOA (pc := 7) (nn := 15) (q := (2, 4)) hE dJ7_copyOf_6403c_7 (by decide +kernel) rfl rfl (lv_not hf.1 hf.2.1) (rst_nr hf.1 hf.2.2) (frc (P := fun v => xhas (2, 4) v = false) rfl (frc rfl (frc rfl frn))) (LE1 rfl) (LE1 rfl) (fun a => ?_)
  rw [xnew_ad hf.1]
  refine x_goto (pc := 10) hE dJ7_copyOf_6403c_10 rfl ?_
  refine x_astore_n (pc := 24) (lo9 := [(3, xr (2, 4)), (0, xr (2, 3)), (1, xi 15), (2, xr (2, 7))]) hE dJ7_copyOf_6403c_24 (LE1 rfl) rfl ?_
  refine x_aload_n (j := 1) (pc := 25) hE dJ7_copyOf_6403c_25 rfl (x_iconst (pc := 26) hE dJ7_copyOf_6403c_26 (x_aload_n (j := 0) (pc := 27) hE dJ7_copyOf_6403c_27 rfl (x_iconst (pc := 28) hE dJ7_copyOf_6403c_28 (x_aload_n (j := 1) (pc := 29) hE dJ7_copyOf_6403c_29 rfl (x_alenO (pc := 30) (nn := 10) hE dJ7_copyOf_6403c_30 rfl (cAd_mem h3) (x_iload_n (j := 2) (pc := 31) hE dJ7_copyOf_6403c_31 rfl ?_))))))
  refine x_mmin (pc := 32) hE dJ7_copyOf_6403c_32 (by decide +kernel) ⟨by decide, by decide⟩ ⟨by decide, by decide⟩ (LE1 rfl) (LE1 rfl) (LE1 rfl) (Nat.succ_le_succ (Nat.zero_le _)) ?_
  refine x_copyq (pc := 35) (N := 10) (n0 := 10) (n1 := 15) (q0 := (2, 3)) (q1 := (2, 4)) hE dJ7_copyOf_6403c_35 (by decide +kernel) rfl (cAd_mem h3) rfl cAd_self (by decide) (by decide) (fun i hi => ?_) (Nat.succ_le_succ (Nat.zero_le _)) (LE1 rfl) ?_
  · obtain ⟨e1, e2⟩ := hel i hi
    refine ⟨er i, 5, ?_, cAd_mem (lvmX e2), kd_er i⟩
    show (if ((2, 3) : xP) = (2, 4) then fun _ => none else c.2.2.1 (2, 3)) i = some (er i)
    rw [if_neg (by decide)]
    exact e1
  have e := cp_eq (c := c) (a := a) (I := zI I (2, 4))
  have e2 : ((zI I (2, 4), xst (cAd c (2, 4) a)).1, cpyR (xS.R (zI I (2, 4), xst (cAd c (2, 4) a))) (2, 3) (2, 4) 10, (zI I (2, 4), xst (cAd c (2, 4) a)).2.2) = (zI I (2, 4), xst (cCp c a)) := e
  rw [e2]
  exact x_aload_n (j := 0) (pc := 38) hE dJ7_copyOf_6403c_38 rfl (x_retA (pc := 39) hV dJ7_copyOf_6403c_39 rfl (LE1 rfl) (LE1 rfl) ⟨rfl, a, rfl⟩)
theorem j_copy2 (hX : xBase X) (d : Nat) {mi : Nat} (hm : va_Mi "[Ljava/lang/Object;" mi X.S) (hA : c.2.2.2 (2, 7) = mi) (h3 : (2, 3) ∈ lvL c.1 c.2.1) (hf : cFr c (2, 4)) (hel : ∀ i, i < 10 → c.2.2.1 (2, 3) i = some (er i) ∧ er i ∈ c.2.1) : xMet X m_J7_copyOf_1904c (d + 2) [xr (2, 3), xi 15] (I, xst c) 1 15 (fun o h9 => o = .inl (some (xr (2, 4))) ∧ ∃ a, h9 = (zI I (2, 4), xst (cCp c a))) := by
  refine xMet_of hX pl_J7_copyOf_1904c.1 (fun w hw => (pl_J7_copyOf_1904c.2.2.1 w hw).1) (by decide) (fun V hV => ?_)
  have hE := hV.eng
  refine x_aload_n (j := 0) (pc := 0) hE dJ7_copyOf_1904c_0 rfl (x_iload_n (j := 1) (pc := 1) hE dJ7_copyOf_1904c_1 rfl (x_aload_n (j := 0) (pc := 2) hE dJ7_copyOf_1904c_2 rfl (x_getC (pc := 3) (nn := 10) hE hm dJ7_copyOf_1904c_3 (by decide +kernel) rfl h3 hA (Nat.succ_le_succ (Nat.zero_le _)) (LE1 rfl) ?_)))
  refine x_callS (pc := 6) (as := [xr (2, 3), xi 15, xr (2, 7)]) (st := []) hE (j_copy3 hX d hm hA h3 hf hel) dJ7_copyOf_1904c_6 pl_J7_copyOf_6403c lk_RJ7_300 rfl (Nat.le_refl _) (LE1 rfl) (LE1 rfl) (LE1 rfl) (fun E h9 hh => by cases hh.1) (fun r h9 hh => ?_)
  obtain ⟨hr9, a, rfl⟩ := hh
  cases hr9
  refine ⟨⟨rfl, rfl⟩, ?_⟩
  exact x_retA (pc := 9) hV dJ7_copyOf_1904c_9 rfl (LE1 rfl) (LE1 rfl) ⟨rfl, a, rfl⟩
theorem j_growI10 (hX : xBase X) (d : Nat) {mi : Nat} (hm : va_Mi "[Ljava/lang/Object;" mi X.S) (hA : c.2.2.2 (2, 7) = mi) (h1 : (2, 1) ∈ lvL c.1 c.2.1) (h3 : (2, 3) ∈ lvL c.1 c.2.1) (hr : c.2.2.1 (2, 1) 1 = some (2, 3)) (hf : cFr c (2, 4)) (hel : ∀ i, i < 10 → c.2.2.1 (2, 3) i = some (er i) ∧ er i ∈ c.2.1) : xMet X m_Jx4a65c_grow_92f84 (d + 3) [xr (2, 1), xi 11] (I, xst c) 1 15 (fun o h9 => o = .inl (some (xr (2, 4))) ∧ ∃ a, h9 = (zI I (2, 4), xst (cPut (cCp c a) (2, 1) 1 (2, 4)))) := by
  refine xMet_of hX pl_Jx4a65c_grow_92f84.1 (fun w hw => (pl_Jx4a65c_grow_92f84.2.2.1 w hw).1) (by decide) (fun V hV => ?_)
  have hE := hV.eng
  refine x_aload_n (j := 0) (pc := 0) hE dJx4a65c_grow_92f84_0 rfl (x_getR (pc := 1) hE dJx4a65c_grow_92f84_1 fl_RJx4a65c_9 rfl h1 hr (x_alenO (pc := 4) (nn := 10) hE dJx4a65c_grow_92f84_4 rfl h3 (x_istore_n (pc := 5) (lo9 := [(2, xi 10), (0, xr (2, 1)), (1, xi 11)]) hE dJx4a65c_grow_92f84_5 (LE1 rfl) rfl ?_)))
  refine x_iload_n (j := 0) (pc := 6) hE dJx4a65c_grow_92f84_6 rfl (x_if_gt (pc := 7) (tgt := 20) hE dJx4a65c_grow_92f84_7 rfl ⟨by decide, by decide⟩ (fun _ => ?_) (fun z => absurd z (by decide)))
  refine x_iload_n (j := 0) (pc := 20) hE dJx4a65c_grow_92f84_20 rfl (x_iload_n (j := 2) (pc := 21) hE dJx4a65c_grow_92f84_21 rfl (x_iload_n (j := 0) (pc := 22) hE dJx4a65c_grow_92f84_22 rfl (x_isub (pc := 23) hE dJx4a65c_grow_92f84_23 (x_iload_n (j := 0) (pc := 24) hE dJx4a65c_grow_92f84_24 rfl (x_iconst (pc := 25) hE dJx4a65c_grow_92f84_25 (x_ishr (pc := 26) hE dJx4a65c_grow_92f84_26 ?_))))))
  have e5 : v_ishr 10 1 = 5 := by decide +kernel
  show V 27 _ [xi (v_ishr 10 1), xi 1, xi 10] _ _ _
  rw [e5]
  refine x_cs (pc := 27) (as := [xi 10, xi 1, xi 5]) (st := []) hE dJx4a65c_grow_92f84_27 pl_J8_newLength_cabcc lk_RJx4a65c_73 rfl (Nat.le_refl _) (mc9 := 0) (ms9 := 0) (LE1 rfl) (LE1 rfl) (LE1 rfl) (j_newLength hX (d + 1)) ?_
  rintro v I ⟨rfl, rfl⟩
  refine x_istore_n (pc := 30) (lo9 := [(3, xi 15), (2, xi 10), (0, xr (2, 1)), (1, xi 11)]) hE dJx4a65c_grow_92f84_30 (LE1 rfl) rfl ?_
  refine x_aload_n (j := 2) (pc := 31) hE dJx4a65c_grow_92f84_31 rfl (x_aload_n (j := 2) (pc := 32) hE dJx4a65c_grow_92f84_32 rfl (x_getR (pc := 33) hE dJx4a65c_grow_92f84_33 fl_RJx4a65c_9 rfl h1 hr (x_iload_n (j := 0) (pc := 36) hE dJx4a65c_grow_92f84_36 rfl ?_)))
  refine x_callS (pc := 37) (as := [xr (2, 3), xi 15]) (st := [xr (2, 1)]) hE (j_copy2 hX d hm hA h3 hf hel) dJx4a65c_grow_92f84_37 pl_J7_copyOf_1904c lk_RJx4a65c_66 rfl (Nat.le_refl _) (LE1 rfl) (LE1 rfl) (LE1 rfl) (fun E h9 hh => by cases hh.1) (fun r h9 hh => ?_)
  obtain ⟨hr9, a, rfl⟩ := hh
  cases hr9
  refine ⟨⟨rfl, rfl⟩, ?_⟩
  refine x_dup_x1 (pc := 40) hE dJx4a65c_grow_92f84_40 rfl rfl (x_putR (pc := 41) hE dJx4a65c_grow_92f84_41 fl_RJx4a65c_9 rfl (?_ : (2, 1) ∈ lvL (cCp c a).1 (cCp c a).2.1) rfl ?_)
  · exact cAd_mem (a := a) h1
  refine x_retA (pc := 44) hV dJx4a65c_grow_92f84_44 rfl (LE1 rfl) (LE1 rfl) ⟨rfl, a, ?_⟩
  exact xst_put rfl
end JA
