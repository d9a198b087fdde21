/-! an edge's row is added to the list -/
theorem x_retA {X : xX} {y : xM} {d mc ms : Nat} {V : xT} {pc : Nat} {lo : List (Nat × xV)} {h : xS} {k n : Nat} {post : xO → xS → Prop} (hV : xEnd X y d mc ms post V) {q : xP} {t : FieldType} (hd : decode y.2.1 pc = .ok (.areturn, 1)) (hr : y.2.2.2.1 = some (.array t)) (hk : k ≤ mc) (hn : n ≤ ms) (hp : post (.inl (some (xr q))) h) : V pc lo [xr q] h k n := by
  obtain ⟨hX, p, e, s, m, args, below, meth, c, hA, rfl⟩ := hV
  obtain ⟨hx, hb, hml, hown, hlk9, hrt, htb, hnm, hB⟩ := id hA
  intro H locs ls hP hD hS hl
  refine vx_ret (W.widen hk hn ?_)
  exact W.aret hx hb (by rw [hrt, hr]) (Or.inr ⟨_, rfl⟩) (Or.inr ⟨_, rfl⟩) (fun t ht _ => ⟨⟨(some (xr q)), h, rfl, hp, by rw [xWd, ht]; exact ⟨hP, hD⟩⟩, by rw [va_F, ht]; exact ⟨hS.1, hS.2.1⟩⟩) hS.2.2 hd
theorem cPut_mem {c : xCx} {q t p : xP} {k : Nat} (h : p ∈ lvL c.1 c.2.1) : p ∈ lvL (cPut c q k t).1 (cPut c q k t).2.1 := h
section JA
variable {X : xX} {c : xCx} {I : xIn}
/-- the first row of a new list -/
theorem j_growI0 (hX : xBase X) (d : Nat) {z : Nat} (hz : DEs X z) (hA : c.2.2.2 (2, 8) = z) (h1 : (2, 1) ∈ lvL c.1 c.2.1) (hr : c.2.2.1 (2, 1) 1 = some (2, 8)) (hf : cFr c (2, 3)) : xMet X m_Jx4a65c_grow_92f84 (d + 1) [xr (2, 1), xi 1] (I, xst c) 1 15 (fun o h9 => o = .inl (some (xr (2, 3))) ∧ ∃ a, h9 = (zI I (2, 3), xst (cPut (cAd c (2, 3) a) (2, 1) 1 (2, 3)))) := by
  refine xMet_of hX pl_Jx4a65c_grow_92f84.1 (fun w hw => (pl_Jx4a65c_grow_92f84.2.2.1 w hw).1) (by decide) (fun V hV => ?_)
  have hE := hV.eng
  refine x_aload_n (j := 0) (pc := 0) hE dJx4a65c_grow_92f84_0 rfl (x_getR (pc := 1) hE dJx4a65c_grow_92f84_1 fl_RJx4a65c_9 rfl h1 hr (x_delen (pc := 4) hE hz hA dJx4a65c_grow_92f84_4 (x_istore_n (pc := 5) (lo9 := [(2, xi 0), (0, xr (2, 1)), (1, xi 1)]) hE dJx4a65c_grow_92f84_5 (LE1 rfl) rfl ?_)))
  refine x_iload_n (j := 0) (pc := 6) hE dJx4a65c_grow_92f84_6 rfl (x_if_gt (pc := 7) hE dJx4a65c_grow_92f84_7 rfl x0 (fun z => absurd z (by decide)) (fun _ => ?_))
  refine x_aload_n (j := 1) (pc := 10) hE dJx4a65c_grow_92f84_10 rfl (x_getR (pc := 11) hE dJx4a65c_grow_92f84_11 fl_RJx4a65c_9 rfl h1 hr (x_gets (pc := 14) hE hz hA dJx4a65c_grow_92f84_14 (by decide +kernel) (x_acmp_same (pc := 17) hE dJx4a65c_grow_92f84_17 rfl ?_)))
  refine x_aload_n (j := 1) (pc := 45) hE dJx4a65c_grow_92f84_45 rfl (x_bipush (pc := 46) hE dJx4a65c_grow_92f84_46 (by decide) (x_iload_n (j := 2) (pc := 48) hE dJx4a65c_grow_92f84_48 rfl ?_))
  refine x_mmax (pc := 49) hE dJx4a65c_grow_92f84_49 (by decide +kernel) ⟨by decide, by decide⟩ ⟨by decide, by decide⟩ (LE1 rfl) (LE1 rfl) (LE1 rfl) (Nat.succ_le_succ (Nat.zero_le _)) ?_
  refine x_newOA (pc := 52) (nn := 10) (q := (2, 3)) hE dJx4a65c_grow_92f84_52 (by decide +kernel) (by decide) rfl (lv_not hf.1 hf.2.1) (rst_nr hf.1 hf.2.2) (frc (P := fun v => xhas (2, 3) v = false) rfl (frc rfl (frc rfl (frc rfl frn)))) (LE1 rfl) (LE1 rfl) (fun a => ?_)
  rw [xnew_ad hf.1]
  refine x_dup_x1 (pc := 55) hE dJx4a65c_grow_92f84_55 rfl rfl (x_putR (pc := 56) hE dJx4a65c_grow_92f84_56 fl_RJx4a65c_9 rfl (cAd_mem h1) rfl ?_)
  refine x_retA (pc := 59) hV dJx4a65c_grow_92f84_59 rfl (LE1 rfl) (LE1 rfl) ⟨rfl, a, ?_⟩
  exact xst_put rfl
theorem j_grow0 (hX : xBase X) (d : Nat) {z : Nat} (hz : DEs X z) (hA : c.2.2.2 (2, 8) = z) (h1 : (2, 1) ∈ lvL c.1 c.2.1) (hr : c.2.2.1 (2, 1) 1 = some (2, 8)) (hf : cFr c (2, 3)) (hs : I (2, 1) 2 = 0) : xMet X m_Jx4a65c_grow_d5877 (d + 2) [xr (2, 1)] (I, xst c) 1 15 (fun o h9 => o = .inl (some (xr (2, 3))) ∧ ∃ a, h9 = (zI I (2, 3), xst (cPut (cAd c (2, 3) a) (2, 1) 1 (2, 3)))) := by
  refine xMet_of hX pl_Jx4a65c_grow_d5877.1 (fun w hw => (pl_Jx4a65c_grow_d5877.2.2.1 w hw).1) (by decide) (fun V hV => ?_)
  have hE := hV.eng
  refine x_aload_n (j := 0) (pc := 0) hE dJx4a65c_grow_d5877_0 rfl (x_aload_n (j := 0) (pc := 1) hE dJx4a65c_grow_d5877_1 rfl (x_getI (pc := 2) hE dJx4a65c_grow_d5877_2 fl_RJx4a65c_48 rfl h1 (x_iconst (pc := 5) hE dJx4a65c_grow_d5877_5 (x_iadd (pc := 6) hE dJx4a65c_grow_d5877_6 ?_))))
  have e1 : I (2, 1) 2 + 1 = 1 := by rw [hs]; rfl
  show V 7 _ [xi (I (2, 1) 2 + 1), xr (2, 1)] _ _ _
  rw [e1]
  refine x_callV (pc := 7) (as := [xi 1]) (st := []) (q := (2, 1)) hE (j_growI0 hX d hz hA h1 hr hf) dJx4a65c_grow_d5877_7 pl_Jx4a65c_grow_92f84 lk_RJx4a65c_69 rfl h1 rfl rfl (Nat.le_refl _) (LE1 rfl) (LE1 rfl) (LE1 rfl) (fun E h9 hh => by cases hh.1) (fun r h9 hh => ?_)
  obtain ⟨hr9, a, rfl⟩ := hh
  cases hr9
  refine ⟨⟨rfl, rfl⟩, ?_⟩
  exact x_retA (pc := 10) hV dJx4a65c_grow_d5877_10 rfl (LE1 rfl) (LE1 rfl) ⟨rfl, a, rfl⟩
/-- one more into a row that has room -/
theorem j_put (hX : xBase X) {d mc ms k n : Nat} {V : xT} {post : xO → xS → Prop} (hV : xEnd X m_Jx4a65c_add_72be8 d mc ms post V) {qd t : xP} {nn j : Nat} (h1 : (2, 1) ∈ lvL c.1 c.2.1) (hq2 : qd.1 = 2) (hkd : kd qd = (5, nn)) (hqd : qd ∈ lvL c.1 c.2.1) (hkt : kd t = (1, 5)) (ht : t ∈ lvL c.1 c.2.1) (hj : j < nn) (hj9 : j ≤ 100) (hk : k ≤ mc) (hn : n ≤ ms) (hp : post (.inl none) (xu I (2, 1) 2 ((j : Int) + 1), xst (cPut c qd j t))) : V 11 [(0, xr (2, 1)), (1, xr t), (2, xr qd), (3, xi (j : Int))] [] (I, xst c) k n := by
  have hE := hV.eng
  refine x_aload_n (j := 2) (pc := 11) hE dJx4a65c_add_72be8_11 rfl (x_iload_n (j := 3) (pc := 12) hE dJx4a65c_add_72be8_12 rfl (x_aload_n (j := 1) (pc := 13) hE dJx4a65c_add_72be8_13 rfl ?_))
  refine x_oastore (pc := 14) hE dJx4a65c_add_72be8_14 hkd hqd hkt ht (by omega) (by omega) ?_
  have e := xst_put (I := I) (c := c) (q := qd) (t := t) (k := j) hq2
  rw [tnN]
  have e2 : ((I, xst c).1, xuR (xS.R (I, xst c)) qd j (some t), (I, xst c).2.2) = (I, xst (cPut c qd j t)) := e
  rw [e2]
  refine x_aload_n (j := 0) (pc := 15) hE dJx4a65c_add_72be8_15 rfl (x_iload_n (j := 3) (pc := 16) hE dJx4a65c_add_72be8_16 rfl (x_iconst (pc := 17) hE dJx4a65c_add_72be8_17 (x_iadd (pc := 18) hE dJx4a65c_add_72be8_18 ?_)))
  refine x_putI (pc := 19) hE dJx4a65c_add_72be8_19 fl_RJx4a65c_48 rfl h1 rfl ⟨by omega, by omega⟩ ?_
  exact x_retv (pc := 22) hV dJx4a65c_add_72be8_22 rfl hk hn hp
theorem j_add3n (hX : xBase X) (d : Nat) {qd t : xP} {nn j : Nat} (h1 : (2, 1) ∈ lvL c.1 c.2.1) (hq2 : qd.1 = 2) (hkd : kd qd = (5, nn)) (hqd : qd ∈ lvL c.1 c.2.1) (hkt : kd t = (1, 5)) (ht : t ∈ lvL c.1 c.2.1) (hj : j < nn) (hj9 : nn ≤ 100) : xMet X m_Jx4a65c_add_72be8 d [xr (2, 1), xr t, xr qd, xi (j : Int)] (I, xst c) 1 15 (fun o h9 => o = .inl none ∧ h9 = (xu I (2, 1) 2 ((j : Int) + 1), xst (cPut c qd j t))) := by
  refine xMet_of hX pl_Jx4a65c_add_72be8.1 (fun w hw => (pl_Jx4a65c_add_72be8.2.2.1 w hw).1) (LE1 rfl) (fun V hV => ?_)
  have hE := hV.eng
  refine x_iload_n (j := 3) (pc := 0) hE dJx4a65c_add_72be8_0 rfl (x_aload_n (j := 2) (pc := 1) hE dJx4a65c_add_72be8_1 rfl (x_alenO (pc := 2) hE dJx4a65c_add_72be8_2 hkd hqd ?_))
  refine x_icmp_ne (pc := 3) hE dJx4a65c_add_72be8_3 rfl ⟨by omega, by omega⟩ ⟨by omega, by omega⟩ (fun _ => ?_) (fun z => by omega)
  exact j_put hX hV h1 hq2 hkd hqd hkt ht hj (by omega) (LE1 rfl) (LE1 rfl) ⟨rfl, rfl⟩
end JA
