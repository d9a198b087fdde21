/-! adding: the first and what is the same for all -/
section JA
variable {X : xX} {c : xCx} {I : xIn}
theorem j_add3_0 (hX : xBase X) (d : Nat) {z : Nat} {t : xP} (hz : DEs X z) (hA : c.2.2.2 (2, 8) = z) (h1 : (2, 1) ∈ lvL c.1 c.2.1) (hr : c.2.2.1 (2, 1) 1 = some (2, 8)) (hf : cFr c (2, 3)) (hs : I (2, 1) 2 = 0) (hkt : kd t = (1, 5)) (ht : t ∈ lvL c.1 c.2.1) (ht3 : t ≠ (2, 3)) : xMet X m_Jx4a65c_add_72be8 (d + 3) [xr (2, 1), xr t, xr (2, 8), xi 0] (I, xst c) 1 15 (fun o h9 => o = .inl none ∧ ∃ a, h9 = (xu (zI I (2, 3)) (2, 1) 2 1, xst (cPut (cPut (cAd c (2, 3) a) (2, 1) 1 (2, 3)) (2, 3) 0 t))) := by
  refine xMet_of hX pl_Jx4a65c_add_72be8.1 (fun w hw => (pl_Jx4a65c_add_72be8.2.2.1 w hw).1) (LE1 rfl) (fun V hV => ?_)
  have hE := hV.eng
  refine x_iload_n (j := 3) (pc := 0) hE dJx4a65c_add_72be8_0 rfl (x_aload_n (j := 2) (pc := 1) hE dJx4a65c_add_72be8_1 rfl (x_delen (pc := 2) hE hz hA dJx4a65c_add_72be8_2 ?_))
  refine x_icmp_ne (pc := 3) hE dJx4a65c_add_72be8_3 rfl x0 x0 (fun z => absurd rfl z) (fun _ => ?_)
  refine x_aload_n (j := 0) (pc := 6) hE dJx4a65c_add_72be8_6 rfl ?_
  refine x_callV (pc := 7) (as := []) (st := []) (q := (2, 1)) hE (j_grow0 hX d hz hA h1 hr hf hs) dJx4a65c_add_72be8_7 pl_Jx4a65c_grow_d5877 lk_RJx4a65c_129 rfl h1 rfl rfl (Nat.le_refl _) (LE1 rfl) (LE1 rfl) (LE1 rfl) (fun E h9 hh => by cases hh.1) (fun r h9 hh => ?_)
  obtain ⟨hr9, a, rfl⟩ := hh
  cases hr9
  have ht9 : xc (cPut (cAd c (2, 3) a) (2, 1) 1 (2, 3)).2.2.2 (xr t) = xc c.2.2.2 (xr t) := by
    show Value.ref (if t = (2, 3) then a else c.2.2.2 t) = Value.ref (c.2.2.2 t)
    rw [if_neg ht3]
  refine ⟨⟨?_, rfl⟩, ?_⟩
  · show [(0, _), (1, xc (cPut (cAd c (2, 3) a) (2, 1) 1 (2, 3)).2.2.2 (xr t)), (2, _), (3, _)] = [(0, _), (1, xc c.2.2.2 (xr t)), (2, _), (3, _)]
    rw [ht9]
    rfl
  refine x_astore_n (pc := 10) (lo9 := [(2, xr (2, 3)), (0, xr (2, 1)), (1, xr t), (3, xi 0)]) hE dJx4a65c_add_72be8_10 (LE1 rfl) rfl ?_
  refine x_loc hE [1, 2, 0, 3] rfl ?_
  exact j_put hX (c := cPut (cAd c (2, 3) a) (2, 1) 1 (2, 3)) (qd := (2, 3)) (nn := 10) (j := 0) hV (cPut_mem (cAd_mem h1)) rfl rfl (cPut_mem cAd_self) hkt (cPut_mem (cAd_mem ht)) (by decide) (by decide) (LE1 rfl) (LE1 rfl) ⟨rfl, a, rfl⟩
theorem j_addG (hX : xBase X) (d : Nat) {qd t : xP} {mc9 ms9 : Nat} {Q : xS → Prop} (h1 : (2, 1) ∈ lvL c.1 c.2.1) (hr : c.2.2.1 (2, 1) 1 = some qd) (hmod : 0 ≤ I (2, 1) 0 ∧ I (2, 1) 0 ≤ 1000) (hM : xMet X m_Jx4a65c_add_72be8 d [xr (2, 1), xr t, xr qd, xi (I (2, 1) 2)] (xu I (2, 1) 0 (I (2, 1) 0 + 1), xst c) mc9 ms9 (fun o h9 => o = .inl none ∧ Q h9)) : xMet X m_Jx4a65c_add_9ea2d (d + 1) [xr (2, 1), xr t] (I, xst c) mc9 ms9 (fun o h9 => o = .inl (some (xi 1)) ∧ Q h9) := by
  refine xMet_of hX pl_Jx4a65c_add_9ea2d.1 (fun w hw => (pl_Jx4a65c_add_9ea2d.2.2.1 w hw).1) (LE1 rfl) (fun V hV => ?_)
  have hE := hV.eng
  have hx1 : xin (I (2, 1) 0 + 1) := ⟨by omega, by omega⟩
  refine x_aload_n (j := 0) (pc := 0) hE dJx4a65c_add_9ea2d_0 rfl (x_dup (pc := 1) hE dJx4a65c_add_9ea2d_1 rfl (x_getI (pc := 2) hE dJx4a65c_add_9ea2d_2 fl_RJx4a65c_63 rfl h1 (x_iconst (pc := 5) hE dJx4a65c_add_9ea2d_5 (x_iadd (pc := 6) hE dJx4a65c_add_9ea2d_6 (x_putI (pc := 7) hE dJx4a65c_add_9ea2d_7 fl_RJx4a65c_63 rfl h1 rfl hx1 ?_)))))
  refine x_aload_n (j := 0) (pc := 10) hE dJx4a65c_add_9ea2d_10 rfl (x_aload_n (j := 1) (pc := 11) hE dJx4a65c_add_9ea2d_11 rfl (x_aload_n (j := 0) (pc := 12) hE dJx4a65c_add_9ea2d_12 rfl (x_getR (pc := 13) hE dJx4a65c_add_9ea2d_13 fl_RJx4a65c_9 rfl h1 hr (x_aload_n (j := 0) (pc := 16) hE dJx4a65c_add_9ea2d_16 rfl (x_getI (pc := 17) hE dJx4a65c_add_9ea2d_17 fl_RJx4a65c_48 rfl h1 ?_)))))
  refine x_loc hE [] rfl ?_
  have e2 : xu I (2, 1) 0 (I (2, 1) 0 + 1) (2, 1) 2 = I (2, 1) 2 := xu_k (by decide)
  show V 20 [] [xi (xu I (2, 1) 0 (I (2, 1) 0 + 1) (2, 1) 2), xr qd, xr t, xr (2, 1)] _ _ _
  rw [e2]
  refine x_callV (pc := 20) (as := [xr t, xr qd, xi (I (2, 1) 2)]) (st := []) (q := (2, 1)) (mc9 := mc9) (ms9 := ms9) hE hM dJx4a65c_add_9ea2d_20 pl_Jx4a65c_add_72be8 lk_RJx4a65c_131 rfl h1 rfl rfl (Nat.le_refl _) (by omega) (by omega) (LE1 rfl) (fun E h9 hh => by cases hh.1) (fun r h9 hh => ?_)
  obtain ⟨hr9, hQ⟩ := hh
  cases hr9
  refine ⟨⟨rfl, rfl⟩, ?_⟩
  exact x_iconst (pc := 23) hE dJx4a65c_add_9ea2d_23 (x_retz (pc := 24) hV dJx4a65c_add_9ea2d_24 rfl (by omega) (by omega) (Or.inr rfl) ⟨rfl, hQ⟩)
end JA
