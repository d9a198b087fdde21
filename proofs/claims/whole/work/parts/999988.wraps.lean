/-! the law's own parts -/
theorem xuJ_same {J : xP → Nat → Int64} {q : xP} {k : Nat} {v : Int64} : xuJ J q k v q k = v := if_pos ⟨rfl, rfl⟩
theorem xuF_same {J : xP → Nat → UInt64} {q : xP} {k : Nat} {v : UInt64} : xuF J q k v q k = v := if_pos ⟨rfl, rfl⟩
theorem hnd_net : ∀ (j : Nat) (e : String), ([xIAE, xISE] : List String)[j]? = some e → xHnd m_L_net 4 e ((j : Int) + 1) := fun j e h => match j, h with | 0, h => by cases h; exact ⟨[], (⟨0, 9, 12, 13⟩ : ExceptionTableEntry), [(⟨0, 9, 15, 15⟩ : ExceptionTableEntry)], rfl, (fun _ h => by cases h), rfl, by decide, ⟨xIAE, tb3 _ (List.mem_of_getElem? (i := 132) rfl), tb3 _ (List.mem_of_getElem? (i := 140) rfl)⟩, rfl, 3, 1, Or.inl ⟨3, rfl, rfl, dL_net_12⟩, by decide, dL_net_13, dL_net_14⟩ | 1, h => by cases h; exact ⟨[(⟨0, 9, 12, 13⟩ : ExceptionTableEntry)], (⟨0, 9, 15, 15⟩ : ExceptionTableEntry), [], rfl, List.forall_mem_cons.mpr ⟨Or.inr ⟨by decide, xIAE, tb3 _ (List.mem_of_getElem? (i := 132) rfl), by decide +kernel⟩, (fun _ h => by cases h)⟩, rfl, by decide, ⟨xISE, tb3 _ (List.mem_of_getElem? (i := 133) rfl), tb3 _ (List.mem_of_getElem? (i := 210) rfl)⟩, rfl, 3, 1, Or.inl ⟨3, rfl, rfl, dL_net_15⟩, by decide, dL_net_16, dL_net_17⟩ | j + 2, h => by simp at h
set_option maxRecDepth 100000 in
theorem wr_net {X : xX} (hX : xBase X) {d9 mc9 ms9 : Nat} {c : xCx} {I : xIn} {a1 : Int} {F : Int × Int} {C : xIn → xCx → Prop} (hM : xMet X m_X9_net d9 [xr (0, 0), xi a1] (I, xst c) mc9 ms9 (fun o h9 => (o = .inl (some (xi F.1)) ∧ F.2 = 0 ∧ ∃ (I9 : xIn) (c9 : xCx), h9 = (I9, xst c9) ∧ (∀ p : xP, p.1 < 3 → c9.2.2.2 p = c.2.2.2 p) ∧ C I9 c9 ∧ ∀ J, C I9 (c9.1, J, c9.2.2)) ∨ ∃ e, o = .inr e ∧ h9 = (I, xst c) ∧ exL [xIAE, xISE] e F.2 ∧ C I c)) : xMet X m_L_net (d9 + 1) [xr (0, 0), xi a1, xr (2, 0)] (I, xst c) mc9 ms9 (wPost c F.2 (fun c9 => c9.2.1 (2, 0) 0 = (Int32.ofInt F.1).toInt64) C) := by
  refine xMet_of hX pl_L_net.1 (fun w hw => (pl_L_net.2.2.1 w hw).1) (by show 1 + (1 + (1 + 0)) ≤ 4; decide) (fun V hV => ?_)
  have hE := hV.eng
  show V 0 [(0, xr (0, 0)), (1, xi a1), (2, xr (2, 0))] [] (I, xst c) 0 0
  refine x_aload_n (pc := 0) (j := 2) hE dL_net_0 rfl ?_
  refine x_iconst (pc := 1) hE dL_net_1 ?_
  refine x_aload_n (pc := 2) (j := 0) hE dL_net_2 rfl ?_
  refine x_iload_n (pc := 3) (j := 1) hE dL_net_3 rfl ?_
  refine x_callVH (pc := 4) (as := [xi a1]) (st := [xi 0, xr (2, 0)]) hV hM dL_net_4 pl_X9_net lk_RL_7 rfl (lvm0 _ (by decide)) rfl rfl (Nat.le_refl _) (Nat.le_of_eq (Nat.zero_add _)) (Nat.le_of_eq (Nat.zero_add _)) (Nat.le_of_ble_eq_true rfl) ?_ ?_
  · rintro e h9 (⟨h, -⟩ | ⟨e9, he, rfl, ⟨j, hj, hk⟩, hC⟩)
    · cases h
    · cases he
      exact ⟨_, hnd_net j e hj, I, c, rfl, by rw [hk], fun h => by omega, fun _ _ => rfl, hC⟩
  · rintro r h9 (⟨hr, hF2, I9, c9, rfl, hA, hC, hCJ⟩ | ⟨e, he, -⟩)
    · cases hr
      refine ⟨⟨?_, ?_⟩, ?_⟩
      · show [(0, Value.ref (c9.2.2.2 (0, 0))), (1, _), (2, Value.ref (c9.2.2.2 (2, 0)))] = [(0, Value.ref (c.2.2.2 (0, 0))), (1, _), (2, Value.ref (c.2.2.2 (2, 0)))]
        rw [hA _ (by decide), hA _ (by decide)]; rfl
      · show [_, Value.ref (c9.2.2.2 (2, 0))] = [_, Value.ref (c.2.2.2 (2, 0))]
        rw [hA _ (by decide)]; rfl
      refine x_i2l (pc := 7) hE dL_net_7 ?_
      refine x_lastore (pc := 8) (nn := 1) hE dL_net_8 rfl (lvm2 _ (by decide)) (by decide) (by decide) ?_
      refine x_goto (pc := 9) (tgt := 18) hE dL_net_9 rfl (x_iconst (pc := 18) hE dL_net_18 ?_)
      exact x_reti (pc := 19) hV dL_net_19 rfl (Nat.le_of_eq (Nat.zero_add _)) (Nat.le_of_eq (Nat.zero_add _)) ⟨_, (c9.1, xuJ c9.2.1 (2, 0) 0 ((Int32.ofInt F.1).toInt64), c9.2.2), rfl, by rw [hF2], fun _ => xuJ_same (J := c9.2.1) (q := (2, 0)) (k := 0) (v := (Int32.ofInt F.1).toInt64), hA, hCJ _⟩
    · cases he
theorem hnd_edge : ∀ (j : Nat) (e : String), ([xIOB, xIAE, xISE] : List String)[j]? = some e → xHnd m_L_edge 13 e ((j : Int) + 1) := fun j e h => match j, h with | 0, h => by cases h; exact ⟨[], (⟨0, 18, 21, 21⟩ : ExceptionTableEntry), [(⟨0, 18, 25, 13⟩ : ExceptionTableEntry), (⟨0, 18, 29, 15⟩ : ExceptionTableEntry)], rfl, (fun _ h => by cases h), rfl, by decide, ⟨xIOB, tb4 _ (List.mem_of_getElem? (i := 38) rfl), tb4 _ (List.mem_of_getElem? (i := 49) rfl)⟩, rfl, 8, 2, Or.inr ⟨rfl, dL_edge_21⟩, by decide, dL_edge_23, dL_edge_24⟩ | 1, h => by cases h; exact ⟨[(⟨0, 18, 21, 21⟩ : ExceptionTableEntry)], (⟨0, 18, 25, 13⟩ : ExceptionTableEntry), [(⟨0, 18, 29, 15⟩ : ExceptionTableEntry)], rfl, List.forall_mem_cons.mpr ⟨Or.inr ⟨by decide, xIOB, tb4 _ (List.mem_of_getElem? (i := 38) rfl), by decide +kernel⟩, (fun _ h => by cases h)⟩, rfl, by decide, ⟨xIAE, tb3 _ (List.mem_of_getElem? (i := 132) rfl), tb3 _ (List.mem_of_getElem? (i := 140) rfl)⟩, rfl, 8, 2, Or.inr ⟨rfl, dL_edge_25⟩, by decide, dL_edge_27, dL_edge_28⟩ | 2, h => by cases h; exact ⟨[(⟨0, 18, 21, 21⟩ : ExceptionTableEntry), (⟨0, 18, 25, 13⟩ : ExceptionTableEntry)], (⟨0, 18, 29, 15⟩ : ExceptionTableEntry), [], rfl, List.forall_mem_cons.mpr ⟨Or.inr ⟨by decide, xIOB, tb4 _ (List.mem_of_getElem? (i := 38) rfl), by decide +kernel⟩, List.forall_mem_cons.mpr ⟨Or.inr ⟨by decide, xIAE, tb3 _ (List.mem_of_getElem? (i := 132) rfl), by decide +kernel⟩, (fun _ h => by cases h)⟩⟩, rfl, by decide, ⟨xISE, tb3 _ (List.mem_of_getElem? (i := 133) rfl), tb3 _ (List.mem_of_getElem? (i := 210) rfl)⟩, rfl, 8, 2, Or.inr ⟨rfl, dL_edge_29⟩, by decide, dL_edge_31, dL_edge_32⟩ | j + 3, h => by simp at h
set_option maxRecDepth 100000 in
theorem wr_edge {X : xX} (hX : xBase X) {d9 mc9 ms9 : Nat} {c : xCx} {I : xIn} {a1 : Int} {a2 : Int} {a3 : Int} {a4 : Int} {a5 : Int} {a6 : Int} {F : Int × Int} {C : xIn → Prop} (hM : xRet rI X m_X9_edge d9 [xr (0, 0), xi a1, xi a2, xi a3, xi a4, xi a5, xi a6] c I mc9 ms9 (fun v I9 => C I9 ∧ (v, 0) = F) (fun e I9 => C I9 ∧ exL [xIOB, xIAE, xISE] e F.2)) : xMet X m_L_edge (d9 + 1) [xr (0, 0), xi a1, xi a2, xi a3, xi a4, xi a5, xi a6, xr (2, 0)] (I, xst c) mc9 ms9 (wPost c F.2 (fun c9 => c9.2.1 (2, 0) 0 = (Int32.ofInt F.1).toInt64) (fun I9 c9 => C I9 ∧ c9.1 = c.1)) := by
  refine xMet_of hX pl_L_edge.1 (fun w hw => (pl_L_edge.2.2.1 w hw).1) (by show 1 + (1 + (1 + (1 + (1 + (1 + (1 + (1 + 0))))))) ≤ 9; decide) (fun V hV => ?_)
  have hE := hV.eng
  show V 0 [(0, xr (0, 0)), (1, xi a1), (2, xi a2), (3, xi a3), (4, xi a4), (5, xi a5), (6, xi a6), (7, xr (2, 0))] [] (I, xst c) 0 0
  refine x_aload (pc := 0) (j := 7) hE dL_edge_0 rfl ?_
  refine x_iconst (pc := 2) hE dL_edge_2 ?_
  refine x_aload_n (pc := 3) (j := 0) hE dL_edge_3 rfl ?_
  refine x_iload_n (pc := 4) (j := 1) hE dL_edge_4 rfl ?_
  refine x_iload_n (pc := 5) (j := 2) hE dL_edge_5 rfl ?_
  refine x_iload_n (pc := 6) (j := 3) hE dL_edge_6 rfl ?_
  refine x_iload (pc := 7) (j := 4) hE dL_edge_7 rfl ?_
  refine x_iload (pc := 9) (j := 5) hE dL_edge_9 rfl ?_
  refine x_iload (pc := 11) (j := 6) hE dL_edge_11 rfl ?_
  refine x_callVH (pc := 13) (as := [xi a1, xi a2, xi a3, xi a4, xi a5, xi a6]) (st := [xi 0, xr (2, 0)]) hV hM dL_edge_13 pl_X9_edge lk_RL_17 rfl (lvm0 _ (by decide)) rfl rfl (Nat.le_refl _) (Nat.le_of_eq (Nat.zero_add _)) (Nat.le_of_eq (Nat.zero_add _)) (Nat.le_of_ble_eq_true rfl) ?_ ?_
  · rintro e h9 ⟨I9, rfl, ⟨a, ha, -⟩ | ⟨e9, he, hC, j, hj, hk⟩⟩
    · cases ha
    · cases he
      exact ⟨_, hnd_edge j e hj, I9, c, rfl, by rw [hk], fun h => by omega, fun _ _ => rfl, hC, rfl⟩
  · rintro r h9 ⟨I9, rfl, ⟨v, hv, hC, hF9⟩ | ⟨e, he, -⟩⟩
    · cases hv
      cases hF9
      refine ⟨xsame_A rfl, ?_⟩
      refine x_i2l (pc := 16) hE dL_edge_16 ?_
      refine x_lastore (pc := 17) (nn := 1) hE dL_edge_17 rfl (lvm2 _ (by decide)) (by decide) (by decide) ?_
      refine x_goto (pc := 18) (tgt := 33) hE dL_edge_18 rfl (x_iconst (pc := 33) hE dL_edge_33 ?_)
      exact x_reti (pc := 34) hV dL_edge_34 rfl (Nat.le_of_eq (Nat.zero_add _)) (Nat.le_of_eq (Nat.zero_add _)) ⟨_, (c.1, xuJ c.2.1 (2, 0) 0 ((Int32.ofInt v).toInt64), c.2.2), rfl, rfl, fun _ => xuJ_same (J := c.2.1) (q := (2, 0)) (k := 0) (v := (Int32.ofInt v).toInt64), fun _ _ => rfl, hC, rfl⟩
    · cases he
theorem hnd_change : ∀ (j : Nat) (e : String), ([xIOB, xIAE] : List String)[j]? = some e → xHnd m_L_change 11 e ((j : Int) + 1) := fun j e h => match j, h with | 0, h => by cases h; exact ⟨[], (⟨0, 16, 19, 21⟩ : ExceptionTableEntry), [(⟨0, 16, 23, 13⟩ : ExceptionTableEntry)], rfl, (fun _ h => by cases h), rfl, by decide, ⟨xIOB, tb4 _ (List.mem_of_getElem? (i := 38) rfl), tb4 _ (List.mem_of_getElem? (i := 49) rfl)⟩, rfl, 7, 2, Or.inr ⟨rfl, dL_change_19⟩, by decide, dL_change_21, dL_change_22⟩ | 1, h => by cases h; exact ⟨[(⟨0, 16, 19, 21⟩ : ExceptionTableEntry)], (⟨0, 16, 23, 13⟩ : ExceptionTableEntry), [], rfl, List.forall_mem_cons.mpr ⟨Or.inr ⟨by decide, xIOB, tb4 _ (List.mem_of_getElem? (i := 38) rfl), by decide +kernel⟩, (fun _ h => by cases h)⟩, rfl, by decide, ⟨xIAE, tb3 _ (List.mem_of_getElem? (i := 132) rfl), tb3 _ (List.mem_of_getElem? (i := 140) rfl)⟩, rfl, 7, 2, Or.inr ⟨rfl, dL_change_23⟩, by decide, dL_change_25, dL_change_26⟩ | j + 2, h => by simp at h
set_option maxRecDepth 100000 in
theorem wr_change {X : xX} (hX : xBase X) {d9 mc9 ms9 : Nat} {c : xCx} {I : xIn} {a1 : Int} {a2 : Int} {a3 : Int} {a4 : Int} {a5 : Int} {F : Int × Int} {C : xIn → Prop} (hM : xRet rI X m_X9_change d9 [xr (0, 0), xi a1, xi a2, xi a3, xi a4, xi a5] c I mc9 ms9 (fun v I9 => C I9 ∧ (v, 0) = F) (fun e I9 => C I9 ∧ exL [xIOB, xIAE] e F.2)) : xMet X m_L_change (d9 + 1) [xr (0, 0), xi a1, xi a2, xi a3, xi a4, xi a5, xr (2, 0)] (I, xst c) mc9 ms9 (wPost c F.2 (fun c9 => c9.2.1 (2, 0) 0 = (Int32.ofInt F.1).toInt64) (fun I9 c9 => C I9 ∧ c9.1 = c.1)) := by
  refine xMet_of hX pl_L_change.1 (fun w hw => (pl_L_change.2.2.1 w hw).1) (by show 1 + (1 + (1 + (1 + (1 + (1 + (1 + 0)))))) ≤ 8; decide) (fun V hV => ?_)
  have hE := hV.eng
  show V 0 [(0, xr (0, 0)), (1, xi a1), (2, xi a2), (3, xi a3), (4, xi a4), (5, xi a5), (6, xr (2, 0))] [] (I, xst c) 0 0
  refine x_aload (pc := 0) (j := 6) hE dL_change_0 rfl ?_
  refine x_iconst (pc := 2) hE dL_change_2 ?_
  refine x_aload_n (pc := 3) (j := 0) hE dL_change_3 rfl ?_
  refine x_iload_n (pc := 4) (j := 1) hE dL_change_4 rfl ?_
  refine x_iload_n (pc := 5) (j := 2) hE dL_change_5 rfl ?_
  refine x_iload_n (pc := 6) (j := 3) hE dL_change_6 rfl ?_
  refine x_iload (pc := 7) (j := 4) hE dL_change_7 rfl ?_
  refine x_iload (pc := 9) (j := 5) hE dL_change_9 rfl ?_
  refine x_callVH (pc := 11) (as := [xi a1, xi a2, xi a3, xi a4, xi a5]) (st := [xi 0, xr (2, 0)]) hV hM dL_change_11 pl_X9_change lk_RL_23 rfl (lvm0 _ (by decide)) rfl rfl (Nat.le_refl _) (Nat.le_of_eq (Nat.zero_add _)) (Nat.le_of_eq (Nat.zero_add _)) (Nat.le_of_ble_eq_true rfl) ?_ ?_
  · rintro e h9 ⟨I9, rfl, ⟨a, ha, -⟩ | ⟨e9, he, hC, j, hj, hk⟩⟩
    · cases ha
    · cases he
      exact ⟨_, hnd_change j e hj, I9, c, rfl, by rw [hk], fun h => by omega, fun _ _ => rfl, hC, rfl⟩
  · rintro r h9 ⟨I9, rfl, ⟨v, hv, hC, hF9⟩ | ⟨e, he, -⟩⟩
    · cases hv
      cases hF9
      refine ⟨xsame_A rfl, ?_⟩
      refine x_i2l (pc := 14) hE dL_change_14 ?_
      refine x_lastore (pc := 15) (nn := 1) hE dL_change_15 rfl (lvm2 _ (by decide)) (by decide) (by decide) ?_
      refine x_goto (pc := 16) (tgt := 27) hE dL_change_16 rfl (x_iconst (pc := 27) hE dL_change_27 ?_)
      exact x_reti (pc := 28) hV dL_change_28 rfl (Nat.le_of_eq (Nat.zero_add _)) (Nat.le_of_eq (Nat.zero_add _)) ⟨_, (c.1, xuJ c.2.1 (2, 0) 0 ((Int32.ofInt v).toInt64), c.2.2), rfl, rfl, fun _ => xuJ_same (J := c.2.1) (q := (2, 0)) (k := 0) (v := (Int32.ofInt v).toInt64), fun _ _ => rfl, hC, rfl⟩
    · cases he
theorem hnd_drop : ∀ (j : Nat) (e : String), ([xIOB] : List String)[j]? = some e → xHnd m_L_drop 5 e ((j : Int) + 1) := fun j e h => match j, h with | 0, h => by cases h; exact ⟨[], (⟨0, 10, 13, 21⟩ : ExceptionTableEntry), [], rfl, (fun _ h => by cases h), rfl, by decide, ⟨xIOB, tb4 _ (List.mem_of_getElem? (i := 38) rfl), tb4 _ (List.mem_of_getElem? (i := 49) rfl)⟩, rfl, 4, 2, Or.inr ⟨rfl, dL_drop_13⟩, by decide, dL_drop_15, dL_drop_16⟩ | j + 1, h => by simp at h
set_option maxRecDepth 100000 in
theorem wr_drop {X : xX} (hX : xBase X) {d9 mc9 ms9 : Nat} {c : xCx} {I : xIn} {a1 : Int} {a2 : Int} {F : Int × Int} {C : xIn → Prop} (hM : xRet rI X m_X9_drop d9 [xr (0, 0), xi a1, xi a2] c I mc9 ms9 (fun v I9 => C I9 ∧ (v, 0) = F) (fun e I9 => C I9 ∧ exL [xIOB] e F.2)) : xMet X m_L_drop (d9 + 1) [xr (0, 0), xi a1, xi a2, xr (2, 0)] (I, xst c) mc9 ms9 (wPost c F.2 (fun c9 => c9.2.1 (2, 0) 0 = (Int32.ofInt F.1).toInt64) (fun I9 c9 => C I9 ∧ c9.1 = c.1)) := by
  refine xMet_of hX pl_L_drop.1 (fun w hw => (pl_L_drop.2.2.1 w hw).1) (by show 1 + (1 + (1 + (1 + 0))) ≤ 5; decide) (fun V hV => ?_)
  have hE := hV.eng
  show V 0 [(0, xr (0, 0)), (1, xi a1), (2, xi a2), (3, xr (2, 0))] [] (I, xst c) 0 0
  refine x_aload_n (pc := 0) (j := 3) hE dL_drop_0 rfl ?_
  refine x_iconst (pc := 1) hE dL_drop_1 ?_
  refine x_aload_n (pc := 2) (j := 0) hE dL_drop_2 rfl ?_
  refine x_iload_n (pc := 3) (j := 1) hE dL_drop_3 rfl ?_
  refine x_iload_n (pc := 4) (j := 2) hE dL_drop_4 rfl ?_
  refine x_callVH (pc := 5) (as := [xi a1, xi a2]) (st := [xi 0, xr (2, 0)]) hV hM dL_drop_5 pl_X9_drop lk_RL_27 rfl (lvm0 _ (by decide)) rfl rfl (Nat.le_refl _) (Nat.le_of_eq (Nat.zero_add _)) (Nat.le_of_eq (Nat.zero_add _)) (Nat.le_of_ble_eq_true rfl) ?_ ?_
  · rintro e h9 ⟨I9, rfl, ⟨a, ha, -⟩ | ⟨e9, he, hC, j, hj, hk⟩⟩
    · cases ha
    · cases he
      exact ⟨_, hnd_drop j e hj, I9, c, rfl, by rw [hk], fun h => by omega, fun _ _ => rfl, hC, rfl⟩
  · rintro r h9 ⟨I9, rfl, ⟨v, hv, hC, hF9⟩ | ⟨e, he, -⟩⟩
    · cases hv
      cases hF9
      refine ⟨xsame_A rfl, ?_⟩
      refine x_i2l (pc := 8) hE dL_drop_8 ?_
      refine x_lastore (pc := 9) (nn := 1) hE dL_drop_9 rfl (lvm2 _ (by decide)) (by decide) (by decide) ?_
      refine x_goto (pc := 10) (tgt := 17) hE dL_drop_10 rfl (x_iconst (pc := 17) hE dL_drop_17 ?_)
      exact x_reti (pc := 18) hV dL_drop_18 rfl (Nat.le_of_eq (Nat.zero_add _)) (Nat.le_of_eq (Nat.zero_add _)) ⟨_, (c.1, xuJ c.2.1 (2, 0) 0 ((Int32.ofInt v).toInt64), c.2.2), rfl, rfl, fun _ => xuJ_same (J := c.2.1) (q := (2, 0)) (k := 0) (v := (Int32.ofInt v).toInt64), fun _ _ => rfl, hC, rfl⟩
    · cases he
theorem hnd_edges : ∀ (j : Nat) (e : String), ([xIOB] : List String)[j]? = some e → xHnd m_L_edges 4 e ((j : Int) + 1) := fun j e h => match j, h with | 0, h => by cases h; exact ⟨[], (⟨0, 9, 12, 21⟩ : ExceptionTableEntry), [], rfl, (fun _ h => by cases h), rfl, by decide, ⟨xIOB, tb4 _ (List.mem_of_getElem? (i := 38) rfl), tb4 _ (List.mem_of_getElem? (i := 49) rfl)⟩, rfl, 3, 1, Or.inl ⟨3, rfl, rfl, dL_edges_12⟩, by decide, dL_edges_13, dL_edges_14⟩ | j + 1, h => by simp at h
set_option maxRecDepth 100000 in
theorem wr_edges {X : xX} (hX : xBase X) {d9 mc9 ms9 : Nat} {c : xCx} {I : xIn} {a1 : Int} {F : Int × Int} {C : xIn → Prop} (hM : xRet rI X m_X9_edges d9 [xr (0, 0), xi a1] c I mc9 ms9 (fun v I9 => C I9 ∧ (v, 0) = F) (fun e I9 => C I9 ∧ exL [xIOB] e F.2)) : xMet X m_L_edges (d9 + 1) [xr (0, 0), xi a1, xr (2, 0)] (I, xst c) mc9 ms9 (wPost c F.2 (fun c9 => c9.2.1 (2, 0) 0 = (Int32.ofInt F.1).toInt64) (fun I9 c9 => C I9 ∧ c9.1 = c.1)) := by
  refine xMet_of hX pl_L_edges.1 (fun w hw => (pl_L_edges.2.2.1 w hw).1) (by show 1 + (1 + (1 + 0)) ≤ 4; decide) (fun V hV => ?_)
  have hE := hV.eng
  show V 0 [(0, xr (0, 0)), (1, xi a1), (2, xr (2, 0))] [] (I, xst c) 0 0
  refine x_aload_n (pc := 0) (j := 2) hE dL_edges_0 rfl ?_
  refine x_iconst (pc := 1) hE dL_edges_1 ?_
  refine x_aload_n (pc := 2) (j := 0) hE dL_edges_2 rfl ?_
  refine x_iload_n (pc := 3) (j := 1) hE dL_edges_3 rfl ?_
  refine x_callVH (pc := 4) (as := [xi a1]) (st := [xi 0, xr (2, 0)]) hV hM dL_edges_4 pl_X9_edges lk_RL_31 rfl (lvm0 _ (by decide)) rfl rfl (Nat.le_refl _) (Nat.le_of_eq (Nat.zero_add _)) (Nat.le_of_eq (Nat.zero_add _)) (Nat.le_of_ble_eq_true rfl) ?_ ?_
  · rintro e h9 ⟨I9, rfl, ⟨a, ha, -⟩ | ⟨e9, he, hC, j, hj, hk⟩⟩
    · cases ha
    · cases he
      exact ⟨_, hnd_edges j e hj, I9, c, rfl, by rw [hk], fun h => by omega, fun _ _ => rfl, hC, rfl⟩
  · rintro r h9 ⟨I9, rfl, ⟨v, hv, hC, hF9⟩ | ⟨e, he, -⟩⟩
    · cases hv
      cases hF9
      refine ⟨xsame_A rfl, ?_⟩
      refine x_i2l (pc := 7) hE dL_edges_7 ?_
      refine x_lastore (pc := 8) (nn := 1) hE dL_edges_8 rfl (lvm2 _ (by decide)) (by decide) (by decide) ?_
      refine x_goto (pc := 9) (tgt := 15) hE dL_edges_9 rfl (x_iconst (pc := 15) hE dL_edges_15 ?_)
      exact x_reti (pc := 16) hV dL_edges_16 rfl (Nat.le_of_eq (Nat.zero_add _)) (Nat.le_of_eq (Nat.zero_add _)) ⟨_, (c.1, xuJ c.2.1 (2, 0) 0 ((Int32.ofInt v).toInt64), c.2.2), rfl, rfl, fun _ => xuJ_same (J := c.2.1) (q := (2, 0)) (k := 0) (v := (Int32.ofInt v).toInt64), fun _ _ => rfl, hC, rfl⟩
    · cases he
theorem hnd_supply : ∀ (j : Nat) (e : String), ([xIOB, xIAE] : List String)[j]? = some e → xHnd m_L_supply 7 e ((j : Int) + 1) := fun j e h => match j, h with | 0, h => by cases h; exact ⟨[], (⟨0, 12, 15, 21⟩ : ExceptionTableEntry), [(⟨0, 12, 19, 13⟩ : ExceptionTableEntry)], rfl, (fun _ h => by cases h), rfl, by decide, ⟨xIOB, tb4 _ (List.mem_of_getElem? (i := 38) rfl), tb4 _ (List.mem_of_getElem? (i := 49) rfl)⟩, rfl, 5, 2, Or.inr ⟨rfl, dL_supply_15⟩, by decide, dL_supply_17, dL_supply_18⟩ | 1, h => by cases h; exact ⟨[(⟨0, 12, 15, 21⟩ : ExceptionTableEntry)], (⟨0, 12, 19, 13⟩ : ExceptionTableEntry), [], rfl, List.forall_mem_cons.mpr ⟨Or.inr ⟨by decide, xIOB, tb4 _ (List.mem_of_getElem? (i := 38) rfl), by decide +kernel⟩, (fun _ h => by cases h)⟩, rfl, by decide, ⟨xIAE, tb3 _ (List.mem_of_getElem? (i := 132) rfl), tb3 _ (List.mem_of_getElem? (i := 140) rfl)⟩, rfl, 5, 2, Or.inr ⟨rfl, dL_supply_19⟩, by decide, dL_supply_21, dL_supply_22⟩ | j + 2, h => by simp at h
set_option maxRecDepth 100000 in
theorem wr_supply {X : xX} (hX : xBase X) {d9 mc9 ms9 : Nat} {c : xCx} {I : xIn} {a1 : Int} {a2 : Int} {a3 : Int} {F : Int × Int} {C : xIn → Prop} (hM : xRet rI X m_X9_supply d9 [xr (0, 0), xi a1, xi a2, xi a3] c I mc9 ms9 (fun v I9 => C I9 ∧ (v, 0) = F) (fun e I9 => C I9 ∧ exL [xIOB, xIAE] e F.2)) : xMet X m_L_supply (d9 + 1) [xr (0, 0), xi a1, xi a2, xi a3, xr (2, 0)] (I, xst c) mc9 ms9 (wPost c F.2 (fun c9 => c9.2.1 (2, 0) 0 = (Int32.ofInt F.1).toInt64) (fun I9 c9 => C I9 ∧ c9.1 = c.1)) := by
  refine xMet_of hX pl_L_supply.1 (fun w hw => (pl_L_supply.2.2.1 w hw).1) (by show 1 + (1 + (1 + (1 + (1 + 0)))) ≤ 6; decide) (fun V hV => ?_)
  have hE := hV.eng
  show V 0 [(0, xr (0, 0)), (1, xi a1), (2, xi a2), (3, xi a3), (4, xr (2, 0))] [] (I, xst c) 0 0
  refine x_aload (pc := 0) (j := 4) hE dL_supply_0 rfl ?_
  refine x_iconst (pc := 2) hE dL_supply_2 ?_
  refine x_aload_n (pc := 3) (j := 0) hE dL_supply_3 rfl ?_
  refine x_iload_n (pc := 4) (j := 1) hE dL_supply_4 rfl ?_
  refine x_iload_n (pc := 5) (j := 2) hE dL_supply_5 rfl ?_
  refine x_iload_n (pc := 6) (j := 3) hE dL_supply_6 rfl ?_
  refine x_callVH (pc := 7) (as := [xi a1, xi a2, xi a3]) (st := [xi 0, xr (2, 0)]) hV hM dL_supply_7 pl_X9_supply lk_RL_34 rfl (lvm0 _ (by decide)) rfl rfl (Nat.le_refl _) (Nat.le_of_eq (Nat.zero_add _)) (Nat.le_of_eq (Nat.zero_add _)) (Nat.le_of_ble_eq_true rfl) ?_ ?_
  · rintro e h9 ⟨I9, rfl, ⟨a, ha, -⟩ | ⟨e9, he, hC, j, hj, hk⟩⟩
    · cases ha
    · cases he
      exact ⟨_, hnd_supply j e hj, I9, c, rfl, by rw [hk], fun h => by omega, fun _ _ => rfl, hC, rfl⟩
  · rintro r h9 ⟨I9, rfl, ⟨v, hv, hC, hF9⟩ | ⟨e, he, -⟩⟩
    · cases hv
      cases hF9
      refine ⟨xsame_A rfl, ?_⟩
      refine x_i2l (pc := 10) hE dL_supply_10 ?_
      refine x_lastore (pc := 11) (nn := 1) hE dL_supply_11 rfl (lvm2 _ (by decide)) (by decide) (by decide) ?_
      refine x_goto (pc := 12) (tgt := 23) hE dL_supply_12 rfl (x_iconst (pc := 23) hE dL_supply_23 ?_)
      exact x_reti (pc := 24) hV dL_supply_24 rfl (Nat.le_of_eq (Nat.zero_add _)) (Nat.le_of_eq (Nat.zero_add _)) ⟨_, (c.1, xuJ c.2.1 (2, 0) 0 ((Int32.ofInt v).toInt64), c.2.2), rfl, rfl, fun _ => xuJ_same (J := c.2.1) (q := (2, 0)) (k := 0) (v := (Int32.ofInt v).toInt64), fun _ _ => rfl, hC, rfl⟩
    · cases he
theorem hnd_most : ∀ (j : Nat) (e : String), ([xIOB, xIAE, xNSE] : List String)[j]? = some e → xHnd m_L_most 7 e ((j : Int) + 1) := fun j e h => match j, h with | 0, h => by cases h; exact ⟨[], (⟨0, 12, 15, 21⟩ : ExceptionTableEntry), [(⟨0, 12, 19, 13⟩ : ExceptionTableEntry), (⟨0, 12, 23, 41⟩ : ExceptionTableEntry)], rfl, (fun _ h => by cases h), rfl, by decide, ⟨xIOB, tb4 _ (List.mem_of_getElem? (i := 38) rfl), tb4 _ (List.mem_of_getElem? (i := 49) rfl)⟩, rfl, 5, 2, Or.inr ⟨rfl, dL_most_15⟩, by decide, dL_most_17, dL_most_18⟩ | 1, h => by cases h; exact ⟨[(⟨0, 12, 15, 21⟩ : ExceptionTableEntry)], (⟨0, 12, 19, 13⟩ : ExceptionTableEntry), [(⟨0, 12, 23, 41⟩ : ExceptionTableEntry)], rfl, List.forall_mem_cons.mpr ⟨Or.inr ⟨by decide, xIOB, tb4 _ (List.mem_of_getElem? (i := 38) rfl), by decide +kernel⟩, (fun _ h => by cases h)⟩, rfl, by decide, ⟨xIAE, tb3 _ (List.mem_of_getElem? (i := 132) rfl), tb3 _ (List.mem_of_getElem? (i := 140) rfl)⟩, rfl, 5, 2, Or.inr ⟨rfl, dL_most_19⟩, by decide, dL_most_21, dL_most_22⟩ | 2, h => by cases h; exact ⟨[(⟨0, 12, 15, 21⟩ : ExceptionTableEntry), (⟨0, 12, 19, 13⟩ : ExceptionTableEntry)], (⟨0, 12, 23, 41⟩ : ExceptionTableEntry), [], rfl, List.forall_mem_cons.mpr ⟨Or.inr ⟨by decide, xIOB, tb4 _ (List.mem_of_getElem? (i := 38) rfl), by decide +kernel⟩, List.forall_mem_cons.mpr ⟨Or.inr ⟨by decide, xIAE, tb3 _ (List.mem_of_getElem? (i := 132) rfl), by decide +kernel⟩, (fun _ h => by cases h)⟩⟩, rfl, by decide, ⟨xNSE, tb4 _ (List.mem_of_getElem? (i := 125) rfl), tb4 _ (List.mem_of_getElem? (i := 139) rfl)⟩, rfl, 5, 2, Or.inr ⟨rfl, dL_most_23⟩, by decide, dL_most_25, dL_most_26⟩ | j + 3, h => by simp at h
set_option maxRecDepth 100000 in
theorem wr_most {X : xX} (hX : xBase X) {d9 mc9 ms9 : Nat} {c : xCx} {I : xIn} {a1 : Int} {a2 : Int} {a3 : Int} {F : Int × Int} {C : xIn → Prop} (hM : xRet rI X m_X9_most d9 [xr (0, 0), xi a1, xi a2, xi a3] c I mc9 ms9 (fun v I9 => C I9 ∧ (v, 0) = F) (fun e I9 => C I9 ∧ exL [xIOB, xIAE, xNSE] e F.2)) : xMet X m_L_most (d9 + 1) [xr (0, 0), xi a1, xi a2, xi a3, xr (2, 0)] (I, xst c) mc9 ms9 (wPost c F.2 (fun c9 => c9.2.1 (2, 0) 0 = (Int32.ofInt F.1).toInt64) (fun I9 c9 => C I9 ∧ c9.1 = c.1)) := by
  refine xMet_of hX pl_L_most.1 (fun w hw => (pl_L_most.2.2.1 w hw).1) (by show 1 + (1 + (1 + (1 + (1 + 0)))) ≤ 6; decide) (fun V hV => ?_)
  have hE := hV.eng
  show V 0 [(0, xr (0, 0)), (1, xi a1), (2, xi a2), (3, xi a3), (4, xr (2, 0))] [] (I, xst c) 0 0
  refine x_aload (pc := 0) (j := 4) hE dL_most_0 rfl ?_
  refine x_iconst (pc := 2) hE dL_most_2 ?_
  refine x_aload_n (pc := 3) (j := 0) hE dL_most_3 rfl ?_
  refine x_iload_n (pc := 4) (j := 1) hE dL_most_4 rfl ?_
  refine x_iload_n (pc := 5) (j := 2) hE dL_most_5 rfl ?_
  refine x_iload_n (pc := 6) (j := 3) hE dL_most_6 rfl ?_
  refine x_callVH (pc := 7) (as := [xi a1, xi a2, xi a3]) (st := [xi 0, xr (2, 0)]) hV hM dL_most_7 pl_X9_most lk_RL_38 rfl (lvm0 _ (by decide)) rfl rfl (Nat.le_refl _) (Nat.le_of_eq (Nat.zero_add _)) (Nat.le_of_eq (Nat.zero_add _)) (Nat.le_of_ble_eq_true rfl) ?_ ?_
  · rintro e h9 ⟨I9, rfl, ⟨a, ha, -⟩ | ⟨e9, he, hC, j, hj, hk⟩⟩
    · cases ha
    · cases he
      exact ⟨_, hnd_most j e hj, I9, c, rfl, by rw [hk], fun h => by omega, fun _ _ => rfl, hC, rfl⟩
  · rintro r h9 ⟨I9, rfl, ⟨v, hv, hC, hF9⟩ | ⟨e, he, -⟩⟩
    · cases hv
      cases hF9
      refine ⟨xsame_A rfl, ?_⟩
      refine x_i2l (pc := 10) hE dL_most_10 ?_
      refine x_lastore (pc := 11) (nn := 1) hE dL_most_11 rfl (lvm2 _ (by decide)) (by decide) (by decide) ?_
      refine x_goto (pc := 12) (tgt := 27) hE dL_most_12 rfl (x_iconst (pc := 27) hE dL_most_27 ?_)
      exact x_reti (pc := 28) hV dL_most_28 rfl (Nat.le_of_eq (Nat.zero_add _)) (Nat.le_of_eq (Nat.zero_add _)) ⟨_, (c.1, xuJ c.2.1 (2, 0) 0 ((Int32.ofInt v).toInt64), c.2.2), rfl, rfl, fun _ => xuJ_same (J := c.2.1) (q := (2, 0)) (k := 0) (v := (Int32.ofInt v).toInt64), fun _ _ => rfl, hC, rfl⟩
    · cases he
theorem hnd_flow : ∀ (j : Nat) (e : String), ([xIOB, xIAE, xNSE] : List String)[j]? = some e → xHnd m_L_flow 9 e ((j : Int) + 1) := fun j e h => match j, h with | 0, h => by cases h; exact ⟨[], (⟨0, 14, 17, 21⟩ : ExceptionTableEntry), [(⟨0, 14, 21, 13⟩ : ExceptionTableEntry), (⟨0, 14, 25, 41⟩ : ExceptionTableEntry)], rfl, (fun _ h => by cases h), rfl, by decide, ⟨xIOB, tb4 _ (List.mem_of_getElem? (i := 38) rfl), tb4 _ (List.mem_of_getElem? (i := 49) rfl)⟩, rfl, 6, 2, Or.inr ⟨rfl, dL_flow_17⟩, by decide, dL_flow_19, dL_flow_20⟩ | 1, h => by cases h; exact ⟨[(⟨0, 14, 17, 21⟩ : ExceptionTableEntry)], (⟨0, 14, 21, 13⟩ : ExceptionTableEntry), [(⟨0, 14, 25, 41⟩ : ExceptionTableEntry)], rfl, List.forall_mem_cons.mpr ⟨Or.inr ⟨by decide, xIOB, tb4 _ (List.mem_of_getElem? (i := 38) rfl), by decide +kernel⟩, (fun _ h => by cases h)⟩, rfl, by decide, ⟨xIAE, tb3 _ (List.mem_of_getElem? (i := 132) rfl), tb3 _ (List.mem_of_getElem? (i := 140) rfl)⟩, rfl, 6, 2, Or.inr ⟨rfl, dL_flow_21⟩, by decide, dL_flow_23, dL_flow_24⟩ | 2, h => by cases h; exact ⟨[(⟨0, 14, 17, 21⟩ : ExceptionTableEntry), (⟨0, 14, 21, 13⟩ : ExceptionTableEntry)], (⟨0, 14, 25, 41⟩ : ExceptionTableEntry), [], rfl, List.forall_mem_cons.mpr ⟨Or.inr ⟨by decide, xIOB, tb4 _ (List.mem_of_getElem? (i := 38) rfl), by decide +kernel⟩, List.forall_mem_cons.mpr ⟨Or.inr ⟨by decide, xIAE, tb3 _ (List.mem_of_getElem? (i := 132) rfl), by decide +kernel⟩, (fun _ h => by cases h)⟩⟩, rfl, by decide, ⟨xNSE, tb4 _ (List.mem_of_getElem? (i := 125) rfl), tb4 _ (List.mem_of_getElem? (i := 139) rfl)⟩, rfl, 6, 2, Or.inr ⟨rfl, dL_flow_25⟩, by decide, dL_flow_27, dL_flow_28⟩ | j + 3, h => by simp at h
set_option maxRecDepth 100000 in
theorem wr_flow {X : xX} (hX : xBase X) {d9 mc9 ms9 : Nat} {c : xCx} {I : xIn} {a1 : Int} {a2 : Int} {a3 : Int} {a4 : Int} {F : Int × Int} {C : xIn → Prop} (hM : xRet rI X m_X9_flow d9 [xr (0, 0), xi a1, xi a2, xi a3, xi a4] c I mc9 ms9 (fun v I9 => C I9 ∧ (v, 0) = F) (fun e I9 => C I9 ∧ exL [xIOB, xIAE, xNSE] e F.2)) : xMet X m_L_flow (d9 + 1) [xr (0, 0), xi a1, xi a2, xi a3, xi a4, xr (2, 0)] (I, xst c) mc9 ms9 (wPost c F.2 (fun c9 => c9.2.1 (2, 0) 0 = (Int32.ofInt F.1).toInt64) (fun I9 c9 => C I9 ∧ c9.1 = c.1)) := by
  refine xMet_of hX pl_L_flow.1 (fun w hw => (pl_L_flow.2.2.1 w hw).1) (by show 1 + (1 + (1 + (1 + (1 + (1 + 0))))) ≤ 7; decide) (fun V hV => ?_)
  have hE := hV.eng
  show V 0 [(0, xr (0, 0)), (1, xi a1), (2, xi a2), (3, xi a3), (4, xi a4), (5, xr (2, 0))] [] (I, xst c) 0 0
  refine x_aload (pc := 0) (j := 5) hE dL_flow_0 rfl ?_
  refine x_iconst (pc := 2) hE dL_flow_2 ?_
  refine x_aload_n (pc := 3) (j := 0) hE dL_flow_3 rfl ?_
  refine x_iload_n (pc := 4) (j := 1) hE dL_flow_4 rfl ?_
  refine x_iload_n (pc := 5) (j := 2) hE dL_flow_5 rfl ?_
  refine x_iload_n (pc := 6) (j := 3) hE dL_flow_6 rfl ?_
  refine x_iload (pc := 7) (j := 4) hE dL_flow_7 rfl ?_
  refine x_callVH (pc := 9) (as := [xi a1, xi a2, xi a3, xi a4]) (st := [xi 0, xr (2, 0)]) hV hM dL_flow_9 pl_X9_flow lk_RL_43 rfl (lvm0 _ (by decide)) rfl rfl (Nat.le_refl _) (Nat.le_of_eq (Nat.zero_add _)) (Nat.le_of_eq (Nat.zero_add _)) (Nat.le_of_ble_eq_true rfl) ?_ ?_
  · rintro e h9 ⟨I9, rfl, ⟨a, ha, -⟩ | ⟨e9, he, hC, j, hj, hk⟩⟩
    · cases ha
    · cases he
      exact ⟨_, hnd_flow j e hj, I9, c, rfl, by rw [hk], fun h => by omega, fun _ _ => rfl, hC, rfl⟩
  · rintro r h9 ⟨I9, rfl, ⟨v, hv, hC, hF9⟩ | ⟨e, he, -⟩⟩
    · cases hv
      cases hF9
      refine ⟨xsame_A rfl, ?_⟩
      refine x_i2l (pc := 12) hE dL_flow_12 ?_
      refine x_lastore (pc := 13) (nn := 1) hE dL_flow_13 rfl (lvm2 _ (by decide)) (by decide) (by decide) ?_
      refine x_goto (pc := 14) (tgt := 29) hE dL_flow_14 rfl (x_iconst (pc := 29) hE dL_flow_29 ?_)
      exact x_reti (pc := 30) hV dL_flow_30 rfl (Nat.le_of_eq (Nat.zero_add _)) (Nat.le_of_eq (Nat.zero_add _)) ⟨_, (c.1, xuJ c.2.1 (2, 0) 0 ((Int32.ofInt v).toInt64), c.2.2), rfl, rfl, fun _ => xuJ_same (J := c.2.1) (q := (2, 0)) (k := 0) (v := (Int32.ofInt v).toInt64), fun _ _ => rfl, hC, rfl⟩
    · cases he
theorem hnd_crowd : ∀ (j : Nat) (e : String), ([xIOB, xIAE, xNSE] : List String)[j]? = some e → xHnd m_L_crowd 7 e ((j : Int) + 1) := fun j e h => match j, h with | 0, h => by cases h; exact ⟨[], (⟨0, 12, 15, 21⟩ : ExceptionTableEntry), [(⟨0, 12, 19, 13⟩ : ExceptionTableEntry), (⟨0, 12, 23, 41⟩ : ExceptionTableEntry)], rfl, (fun _ h => by cases h), rfl, by decide, ⟨xIOB, tb4 _ (List.mem_of_getElem? (i := 38) rfl), tb4 _ (List.mem_of_getElem? (i := 49) rfl)⟩, rfl, 5, 2, Or.inr ⟨rfl, dL_crowd_15⟩, by decide, dL_crowd_17, dL_crowd_18⟩ | 1, h => by cases h; exact ⟨[(⟨0, 12, 15, 21⟩ : ExceptionTableEntry)], (⟨0, 12, 19, 13⟩ : ExceptionTableEntry), [(⟨0, 12, 23, 41⟩ : ExceptionTableEntry)], rfl, List.forall_mem_cons.mpr ⟨Or.inr ⟨by decide, xIOB, tb4 _ (List.mem_of_getElem? (i := 38) rfl), by decide +kernel⟩, (fun _ h => by cases h)⟩, rfl, by decide, ⟨xIAE, tb3 _ (List.mem_of_getElem? (i := 132) rfl), tb3 _ (List.mem_of_getElem? (i := 140) rfl)⟩, rfl, 5, 2, Or.inr ⟨rfl, dL_crowd_19⟩, by decide, dL_crowd_21, dL_crowd_22⟩ | 2, h => by cases h; exact ⟨[(⟨0, 12, 15, 21⟩ : ExceptionTableEntry), (⟨0, 12, 19, 13⟩ : ExceptionTableEntry)], (⟨0, 12, 23, 41⟩ : ExceptionTableEntry), [], rfl, List.forall_mem_cons.mpr ⟨Or.inr ⟨by decide, xIOB, tb4 _ (List.mem_of_getElem? (i := 38) rfl), by decide +kernel⟩, List.forall_mem_cons.mpr ⟨Or.inr ⟨by decide, xIAE, tb3 _ (List.mem_of_getElem? (i := 132) rfl), by decide +kernel⟩, (fun _ h => by cases h)⟩⟩, rfl, by decide, ⟨xNSE, tb4 _ (List.mem_of_getElem? (i := 125) rfl), tb4 _ (List.mem_of_getElem? (i := 139) rfl)⟩, rfl, 5, 2, Or.inr ⟨rfl, dL_crowd_23⟩, by decide, dL_crowd_25, dL_crowd_26⟩ | j + 3, h => by simp at h
set_option maxRecDepth 100000 in
theorem wr_crowd {X : xX} (hX : xBase X) {d9 mc9 ms9 : Nat} {c : xCx} {I : xIn} {a1 : Int} {a2 : Int} {a3 : Int} {F : Int × Int} {C : xIn → Prop} (hM : xRet rI X m_X9_crowd d9 [xr (0, 0), xi a1, xi a2, xi a3] c I mc9 ms9 (fun v I9 => C I9 ∧ (v, 0) = F) (fun e I9 => C I9 ∧ exL [xIOB, xIAE, xNSE] e F.2)) : xMet X m_L_crowd (d9 + 1) [xr (0, 0), xi a1, xi a2, xi a3, xr (2, 0)] (I, xst c) mc9 ms9 (wPost c F.2 (fun c9 => c9.2.1 (2, 0) 0 = (Int32.ofInt F.1).toInt64) (fun I9 c9 => C I9 ∧ c9.1 = c.1)) := by
  refine xMet_of hX pl_L_crowd.1 (fun w hw => (pl_L_crowd.2.2.1 w hw).1) (by show 1 + (1 + (1 + (1 + (1 + 0)))) ≤ 6; decide) (fun V hV => ?_)
  have hE := hV.eng
  show V 0 [(0, xr (0, 0)), (1, xi a1), (2, xi a2), (3, xi a3), (4, xr (2, 0))] [] (I, xst c) 0 0
  refine x_aload (pc := 0) (j := 4) hE dL_crowd_0 rfl ?_
  refine x_iconst (pc := 2) hE dL_crowd_2 ?_
  refine x_aload_n (pc := 3) (j := 0) hE dL_crowd_3 rfl ?_
  refine x_iload_n (pc := 4) (j := 1) hE dL_crowd_4 rfl ?_
  refine x_iload_n (pc := 5) (j := 2) hE dL_crowd_5 rfl ?_
  refine x_iload_n (pc := 6) (j := 3) hE dL_crowd_6 rfl ?_
  refine x_callVH (pc := 7) (as := [xi a1, xi a2, xi a3]) (st := [xi 0, xr (2, 0)]) hV hM dL_crowd_7 pl_X9_crowd lk_RL_47 rfl (lvm0 _ (by decide)) rfl rfl (Nat.le_refl _) (Nat.le_of_eq (Nat.zero_add _)) (Nat.le_of_eq (Nat.zero_add _)) (Nat.le_of_ble_eq_true rfl) ?_ ?_
  · rintro e h9 ⟨I9, rfl, ⟨a, ha, -⟩ | ⟨e9, he, hC, j, hj, hk⟩⟩
    · cases ha
    · cases he
      exact ⟨_, hnd_crowd j e hj, I9, c, rfl, by rw [hk], fun h => by omega, fun _ _ => rfl, hC, rfl⟩
  · rintro r h9 ⟨I9, rfl, ⟨v, hv, hC, hF9⟩ | ⟨e, he, -⟩⟩
    · cases hv
      cases hF9
      refine ⟨xsame_A rfl, ?_⟩
      refine x_i2l (pc := 10) hE dL_crowd_10 ?_
      refine x_lastore (pc := 11) (nn := 1) hE dL_crowd_11 rfl (lvm2 _ (by decide)) (by decide) (by decide) ?_
      refine x_goto (pc := 12) (tgt := 27) hE dL_crowd_12 rfl (x_iconst (pc := 27) hE dL_crowd_27 ?_)
      exact x_reti (pc := 28) hV dL_crowd_28 rfl (Nat.le_of_eq (Nat.zero_add _)) (Nat.le_of_eq (Nat.zero_add _)) ⟨_, (c.1, xuJ c.2.1 (2, 0) 0 ((Int32.ofInt v).toInt64), c.2.2), rfl, rfl, fun _ => xuJ_same (J := c.2.1) (q := (2, 0)) (k := 0) (v := (Int32.ofInt v).toInt64), fun _ _ => rfl, hC, rfl⟩
    · cases he
theorem hnd_cut : ∀ (j : Nat) (e : String), ([xIOB, xIAE, xNSE] : List String)[j]? = some e → xHnd m_L_cut 9 e ((j : Int) + 1) := fun j e h => match j, h with | 0, h => by cases h; exact ⟨[], (⟨0, 14, 17, 21⟩ : ExceptionTableEntry), [(⟨0, 14, 21, 13⟩ : ExceptionTableEntry), (⟨0, 14, 25, 41⟩ : ExceptionTableEntry)], rfl, (fun _ h => by cases h), rfl, by decide, ⟨xIOB, tb4 _ (List.mem_of_getElem? (i := 38) rfl), tb4 _ (List.mem_of_getElem? (i := 49) rfl)⟩, rfl, 6, 2, Or.inr ⟨rfl, dL_cut_17⟩, by decide, dL_cut_19, dL_cut_20⟩ | 1, h => by cases h; exact ⟨[(⟨0, 14, 17, 21⟩ : ExceptionTableEntry)], (⟨0, 14, 21, 13⟩ : ExceptionTableEntry), [(⟨0, 14, 25, 41⟩ : ExceptionTableEntry)], rfl, List.forall_mem_cons.mpr ⟨Or.inr ⟨by decide, xIOB, tb4 _ (List.mem_of_getElem? (i := 38) rfl), by decide +kernel⟩, (fun _ h => by cases h)⟩, rfl, by decide, ⟨xIAE, tb3 _ (List.mem_of_getElem? (i := 132) rfl), tb3 _ (List.mem_of_getElem? (i := 140) rfl)⟩, rfl, 6, 2, Or.inr ⟨rfl, dL_cut_21⟩, by decide, dL_cut_23, dL_cut_24⟩ | 2, h => by cases h; exact ⟨[(⟨0, 14, 17, 21⟩ : ExceptionTableEntry), (⟨0, 14, 21, 13⟩ : ExceptionTableEntry)], (⟨0, 14, 25, 41⟩ : ExceptionTableEntry), [], rfl, List.forall_mem_cons.mpr ⟨Or.inr ⟨by decide, xIOB, tb4 _ (List.mem_of_getElem? (i := 38) rfl), by decide +kernel⟩, List.forall_mem_cons.mpr ⟨Or.inr ⟨by decide, xIAE, tb3 _ (List.mem_of_getElem? (i := 132) rfl), by decide +kernel⟩, (fun _ h => by cases h)⟩⟩, rfl, by decide, ⟨xNSE, tb4 _ (List.mem_of_getElem? (i := 125) rfl), tb4 _ (List.mem_of_getElem? (i := 139) rfl)⟩, rfl, 6, 2, Or.inr ⟨rfl, dL_cut_25⟩, by decide, dL_cut_27, dL_cut_28⟩ | j + 3, h => by simp at h
set_option maxRecDepth 100000 in
theorem wr_cut {X : xX} (hX : xBase X) {d9 mc9 ms9 : Nat} {c : xCx} {I : xIn} {a1 : Int} {a2 : Int} {a3 : Int} {a4 : Bool} {F : Int × Int} {C : xIn → Prop} (hM : xRet rI X m_X9_cut d9 [xr (0, 0), xi a1, xi a2, xi a3, xi (xbi a4)] c I mc9 ms9 (fun v I9 => C I9 ∧ (v, 0) = F) (fun e I9 => C I9 ∧ exL [xIOB, xIAE, xNSE] e F.2)) : xMet X m_L_cut (d9 + 1) [xr (0, 0), xi a1, xi a2, xi a3, xi (xbi a4), xr (2, 0)] (I, xst c) mc9 ms9 (wPost c F.2 (fun c9 => c9.2.1 (2, 0) 0 = (Int32.ofInt F.1).toInt64) (fun I9 c9 => C I9 ∧ c9.1 = c.1)) := by
  refine xMet_of hX pl_L_cut.1 (fun w hw => (pl_L_cut.2.2.1 w hw).1) (by show 1 + (1 + (1 + (1 + (1 + (1 + 0))))) ≤ 7; decide) (fun V hV => ?_)
  have hE := hV.eng
  show V 0 [(0, xr (0, 0)), (1, xi a1), (2, xi a2), (3, xi a3), (4, xi (xbi a4)), (5, xr (2, 0))] [] (I, xst c) 0 0
  refine x_aload (pc := 0) (j := 5) hE dL_cut_0 rfl ?_
  refine x_iconst (pc := 2) hE dL_cut_2 ?_
  refine x_aload_n (pc := 3) (j := 0) hE dL_cut_3 rfl ?_
  refine x_iload_n (pc := 4) (j := 1) hE dL_cut_4 rfl ?_
  refine x_iload_n (pc := 5) (j := 2) hE dL_cut_5 rfl ?_
  refine x_iload_n (pc := 6) (j := 3) hE dL_cut_6 rfl ?_
  refine x_iload (pc := 7) (j := 4) hE dL_cut_7 rfl ?_
  refine x_callVH (pc := 9) (as := [xi a1, xi a2, xi a3, xi (xbi a4)]) (st := [xi 0, xr (2, 0)]) hV hM dL_cut_9 pl_X9_cut lk_RL_50 rfl (lvm0 _ (by decide)) rfl rfl (Nat.le_refl _) (Nat.le_of_eq (Nat.zero_add _)) (Nat.le_of_eq (Nat.zero_add _)) (Nat.le_of_ble_eq_true rfl) ?_ ?_
  · rintro e h9 ⟨I9, rfl, ⟨a, ha, -⟩ | ⟨e9, he, hC, j, hj, hk⟩⟩
    · cases ha
    · cases he
      exact ⟨_, hnd_cut j e hj, I9, c, rfl, by rw [hk], fun h => by omega, fun _ _ => rfl, hC, rfl⟩
  · rintro r h9 ⟨I9, rfl, ⟨v, hv, hC, hF9⟩ | ⟨e, he, -⟩⟩
    · cases hv
      cases hF9
      refine ⟨xsame_A rfl, ?_⟩
      refine x_i2l (pc := 12) hE dL_cut_12 ?_
      refine x_lastore (pc := 13) (nn := 1) hE dL_cut_13 rfl (lvm2 _ (by decide)) (by decide) (by decide) ?_
      refine x_goto (pc := 14) (tgt := 29) hE dL_cut_14 rfl (x_iconst (pc := 29) hE dL_cut_29 ?_)
      exact x_reti (pc := 30) hV dL_cut_30 rfl (Nat.le_of_eq (Nat.zero_add _)) (Nat.le_of_eq (Nat.zero_add _)) ⟨_, (c.1, xuJ c.2.1 (2, 0) 0 ((Int32.ofInt v).toInt64), c.2.2), rfl, rfl, fun _ => xuJ_same (J := c.2.1) (q := (2, 0)) (k := 0) (v := (Int32.ofInt v).toInt64), fun _ _ => rfl, hC, rfl⟩
    · cases he
theorem hnd_cutSum : ∀ (j : Nat) (e : String), ([xIOB, xIAE] : List String)[j]? = some e → xHnd m_L_cutSum 9 e ((j : Int) + 1) := fun j e h => match j, h with | 0, h => by cases h; exact ⟨[], (⟨0, 14, 17, 21⟩ : ExceptionTableEntry), [(⟨0, 14, 21, 13⟩ : ExceptionTableEntry)], rfl, (fun _ h => by cases h), rfl, by decide, ⟨xIOB, tb4 _ (List.mem_of_getElem? (i := 38) rfl), tb4 _ (List.mem_of_getElem? (i := 49) rfl)⟩, rfl, 6, 2, Or.inr ⟨rfl, dL_cutSum_17⟩, by decide, dL_cutSum_19, dL_cutSum_20⟩ | 1, h => by cases h; exact ⟨[(⟨0, 14, 17, 21⟩ : ExceptionTableEntry)], (⟨0, 14, 21, 13⟩ : ExceptionTableEntry), [], rfl, List.forall_mem_cons.mpr ⟨Or.inr ⟨by decide, xIOB, tb4 _ (List.mem_of_getElem? (i := 38) rfl), by decide +kernel⟩, (fun _ h => by cases h)⟩, rfl, by decide, ⟨xIAE, tb3 _ (List.mem_of_getElem? (i := 132) rfl), tb3 _ (List.mem_of_getElem? (i := 140) rfl)⟩, rfl, 6, 2, Or.inr ⟨rfl, dL_cutSum_21⟩, by decide, dL_cutSum_23, dL_cutSum_24⟩ | j + 2, h => by simp at h
set_option maxRecDepth 100000 in
theorem wr_cutSum {X : xX} (hX : xBase X) {d9 mc9 ms9 : Nat} {c : xCx} {I : xIn} {a1 : Int} {a2 : Int} {a3 : Int} {a4 : Int} {F : Int × Int} {C : xIn → Prop} (hM : xRet rI X m_X9_cutSum d9 [xr (0, 0), xi a1, xi a2, xi a3, xi a4] c I mc9 ms9 (fun v I9 => C I9 ∧ (v, 0) = F) (fun e I9 => C I9 ∧ exL [xIOB, xIAE] e F.2)) : xMet X m_L_cutSum (d9 + 1) [xr (0, 0), xi a1, xi a2, xi a3, xi a4, xr (2, 0)] (I, xst c) mc9 ms9 (wPost c F.2 (fun c9 => c9.2.1 (2, 0) 0 = (Int32.ofInt F.1).toInt64) (fun I9 c9 => C I9 ∧ c9.1 = c.1)) := by
  refine xMet_of hX pl_L_cutSum.1 (fun w hw => (pl_L_cutSum.2.2.1 w hw).1) (by show 1 + (1 + (1 + (1 + (1 + (1 + 0))))) ≤ 7; decide) (fun V hV => ?_)
  have hE := hV.eng
  show V 0 [(0, xr (0, 0)), (1, xi a1), (2, xi a2), (3, xi a3), (4, xi a4), (5, xr (2, 0))] [] (I, xst c) 0 0
  refine x_aload (pc := 0) (j := 5) hE dL_cutSum_0 rfl ?_
  refine x_iconst (pc := 2) hE dL_cutSum_2 ?_
  refine x_aload_n (pc := 3) (j := 0) hE dL_cutSum_3 rfl ?_
  refine x_iload_n (pc := 4) (j := 1) hE dL_cutSum_4 rfl ?_
  refine x_iload_n (pc := 5) (j := 2) hE dL_cutSum_5 rfl ?_
  refine x_iload_n (pc := 6) (j := 3) hE dL_cutSum_6 rfl ?_
  refine x_iload (pc := 7) (j := 4) hE dL_cutSum_7 rfl ?_
  refine x_callVH (pc := 9) (as := [xi a1, xi a2, xi a3, xi a4]) (st := [xi 0, xr (2, 0)]) hV hM dL_cutSum_9 pl_X9_cutSum lk_RL_54 rfl (lvm0 _ (by decide)) rfl rfl (Nat.le_refl _) (Nat.le_of_eq (Nat.zero_add _)) (Nat.le_of_eq (Nat.zero_add _)) (Nat.le_of_ble_eq_true rfl) ?_ ?_
  · rintro e h9 ⟨I9, rfl, ⟨a, ha, -⟩ | ⟨e9, he, hC, j, hj, hk⟩⟩
    · cases ha
    · cases he
      exact ⟨_, hnd_cutSum j e hj, I9, c, rfl, by rw [hk], fun h => by omega, fun _ _ => rfl, hC, rfl⟩
  · rintro r h9 ⟨I9, rfl, ⟨v, hv, hC, hF9⟩ | ⟨e, he, -⟩⟩
    · cases hv
      cases hF9
      refine ⟨xsame_A rfl, ?_⟩
      refine x_i2l (pc := 12) hE dL_cutSum_12 ?_
      refine x_lastore (pc := 13) (nn := 1) hE dL_cutSum_13 rfl (lvm2 _ (by decide)) (by decide) (by decide) ?_
      refine x_goto (pc := 14) (tgt := 25) hE dL_cutSum_14 rfl (x_iconst (pc := 25) hE dL_cutSum_25 ?_)
      exact x_reti (pc := 26) hV dL_cutSum_26 rfl (Nat.le_of_eq (Nat.zero_add _)) (Nat.le_of_eq (Nat.zero_add _)) ⟨_, (c.1, xuJ c.2.1 (2, 0) 0 ((Int32.ofInt v).toInt64), c.2.2), rfl, rfl, fun _ => xuJ_same (J := c.2.1) (q := (2, 0)) (k := 0) (v := (Int32.ofInt v).toInt64), fun _ _ => rfl, hC, rfl⟩
    · cases he
theorem hnd_cuts : ∀ (j : Nat) (e : String), ([xIOB, xIAE, xNSE] : List String)[j]? = some e → xHnd m_L_cuts 7 e ((j : Int) + 1) := fun j e h => match j, h with | 0, h => by cases h; exact ⟨[], (⟨0, 12, 15, 21⟩ : ExceptionTableEntry), [(⟨0, 12, 19, 13⟩ : ExceptionTableEntry), (⟨0, 12, 23, 41⟩ : ExceptionTableEntry)], rfl, (fun _ h => by cases h), rfl, by decide, ⟨xIOB, tb4 _ (List.mem_of_getElem? (i := 38) rfl), tb4 _ (List.mem_of_getElem? (i := 49) rfl)⟩, rfl, 5, 2, Or.inr ⟨rfl, dL_cuts_15⟩, by decide, dL_cuts_17, dL_cuts_18⟩ | 1, h => by cases h; exact ⟨[(⟨0, 12, 15, 21⟩ : ExceptionTableEntry)], (⟨0, 12, 19, 13⟩ : ExceptionTableEntry), [(⟨0, 12, 23, 41⟩ : ExceptionTableEntry)], rfl, List.forall_mem_cons.mpr ⟨Or.inr ⟨by decide, xIOB, tb4 _ (List.mem_of_getElem? (i := 38) rfl), by decide +kernel⟩, (fun _ h => by cases h)⟩, rfl, by decide, ⟨xIAE, tb3 _ (List.mem_of_getElem? (i := 132) rfl), tb3 _ (List.mem_of_getElem? (i := 140) rfl)⟩, rfl, 5, 2, Or.inr ⟨rfl, dL_cuts_19⟩, by decide, dL_cuts_21, dL_cuts_22⟩ | 2, h => by cases h; exact ⟨[(⟨0, 12, 15, 21⟩ : ExceptionTableEntry), (⟨0, 12, 19, 13⟩ : ExceptionTableEntry)], (⟨0, 12, 23, 41⟩ : ExceptionTableEntry), [], rfl, List.forall_mem_cons.mpr ⟨Or.inr ⟨by decide, xIOB, tb4 _ (List.mem_of_getElem? (i := 38) rfl), by decide +kernel⟩, List.forall_mem_cons.mpr ⟨Or.inr ⟨by decide, xIAE, tb3 _ (List.mem_of_getElem? (i := 132) rfl), by decide +kernel⟩, (fun _ h => by cases h)⟩⟩, rfl, by decide, ⟨xNSE, tb4 _ (List.mem_of_getElem? (i := 125) rfl), tb4 _ (List.mem_of_getElem? (i := 139) rfl)⟩, rfl, 5, 2, Or.inr ⟨rfl, dL_cuts_23⟩, by decide, dL_cuts_25, dL_cuts_26⟩ | j + 3, h => by simp at h
set_option maxRecDepth 100000 in
theorem wr_cuts {X : xX} (hX : xBase X) {d9 mc9 ms9 : Nat} {c : xCx} {I : xIn} {a1 : Int} {a2 : Int} {a3 : Int} {F : Int × Int} {C : xIn → Prop} (hM : xRet rI X m_X9_cuts d9 [xr (0, 0), xi a1, xi a2, xi a3] c I mc9 ms9 (fun v I9 => C I9 ∧ (v, 0) = F) (fun e I9 => C I9 ∧ exL [xIOB, xIAE, xNSE] e F.2)) : xMet X m_L_cuts (d9 + 1) [xr (0, 0), xi a1, xi a2, xi a3, xr (2, 0)] (I, xst c) mc9 ms9 (wPost c F.2 (fun c9 => c9.2.1 (2, 0) 0 = (Int32.ofInt F.1).toInt64) (fun I9 c9 => C I9 ∧ c9.1 = c.1)) := by
  refine xMet_of hX pl_L_cuts.1 (fun w hw => (pl_L_cuts.2.2.1 w hw).1) (by show 1 + (1 + (1 + (1 + (1 + 0)))) ≤ 6; decide) (fun V hV => ?_)
  have hE := hV.eng
  show V 0 [(0, xr (0, 0)), (1, xi a1), (2, xi a2), (3, xi a3), (4, xr (2, 0))] [] (I, xst c) 0 0
  refine x_aload (pc := 0) (j := 4) hE dL_cuts_0 rfl ?_
  refine x_iconst (pc := 2) hE dL_cuts_2 ?_
  refine x_aload_n (pc := 3) (j := 0) hE dL_cuts_3 rfl ?_
  refine x_iload_n (pc := 4) (j := 1) hE dL_cuts_4 rfl ?_
  refine x_iload_n (pc := 5) (j := 2) hE dL_cuts_5 rfl ?_
  refine x_iload_n (pc := 6) (j := 3) hE dL_cuts_6 rfl ?_
  refine x_callVH (pc := 7) (as := [xi a1, xi a2, xi a3]) (st := [xi 0, xr (2, 0)]) hV hM dL_cuts_7 pl_X9_cuts lk_RL_57 rfl (lvm0 _ (by decide)) rfl rfl (Nat.le_refl _) (Nat.le_of_eq (Nat.zero_add _)) (Nat.le_of_eq (Nat.zero_add _)) (Nat.le_of_ble_eq_true rfl) ?_ ?_
  · rintro e h9 ⟨I9, rfl, ⟨a, ha, -⟩ | ⟨e9, he, hC, j, hj, hk⟩⟩
    · cases ha
    · cases he
      exact ⟨_, hnd_cuts j e hj, I9, c, rfl, by rw [hk], fun h => by omega, fun _ _ => rfl, hC, rfl⟩
  · rintro r h9 ⟨I9, rfl, ⟨v, hv, hC, hF9⟩ | ⟨e, he, -⟩⟩
    · cases hv
      cases hF9
      refine ⟨xsame_A rfl, ?_⟩
      refine x_i2l (pc := 10) hE dL_cuts_10 ?_
      refine x_lastore (pc := 11) (nn := 1) hE dL_cuts_11 rfl (lvm2 _ (by decide)) (by decide) (by decide) ?_
      refine x_goto (pc := 12) (tgt := 27) hE dL_cuts_12 rfl (x_iconst (pc := 27) hE dL_cuts_27 ?_)
      exact x_reti (pc := 28) hV dL_cuts_28 rfl (Nat.le_of_eq (Nat.zero_add _)) (Nat.le_of_eq (Nat.zero_add _)) ⟨_, (c.1, xuJ c.2.1 (2, 0) 0 ((Int32.ofInt v).toInt64), c.2.2), rfl, rfl, fun _ => xuJ_same (J := c.2.1) (q := (2, 0)) (k := 0) (v := (Int32.ofInt v).toInt64), fun _ _ => rfl, hC, rfl⟩
    · cases he
theorem hnd_isFull : ∀ (j : Nat) (e : String), ([xIOB, xIAE, xNSE] : List String)[j]? = some e → xHnd m_L_isFull 9 e ((j : Int) + 1) := fun j e h => match j, h with | 0, h => by cases h; exact ⟨[], (⟨0, 21, 24, 21⟩ : ExceptionTableEntry), [(⟨0, 21, 28, 13⟩ : ExceptionTableEntry), (⟨0, 21, 32, 41⟩ : ExceptionTableEntry)], rfl, (fun _ h => by cases h), rfl, by decide, ⟨xIOB, tb4 _ (List.mem_of_getElem? (i := 38) rfl), tb4 _ (List.mem_of_getElem? (i := 49) rfl)⟩, rfl, 6, 2, Or.inr ⟨rfl, dL_isFull_24⟩, by decide, dL_isFull_26, dL_isFull_27⟩ | 1, h => by cases h; exact ⟨[(⟨0, 21, 24, 21⟩ : ExceptionTableEntry)], (⟨0, 21, 28, 13⟩ : ExceptionTableEntry), [(⟨0, 21, 32, 41⟩ : ExceptionTableEntry)], rfl, List.forall_mem_cons.mpr ⟨Or.inr ⟨by decide, xIOB, tb4 _ (List.mem_of_getElem? (i := 38) rfl), by decide +kernel⟩, (fun _ h => by cases h)⟩, rfl, by decide, ⟨xIAE, tb3 _ (List.mem_of_getElem? (i := 132) rfl), tb3 _ (List.mem_of_getElem? (i := 140) rfl)⟩, rfl, 6, 2, Or.inr ⟨rfl, dL_isFull_28⟩, by decide, dL_isFull_30, dL_isFull_31⟩ | 2, h => by cases h; exact ⟨[(⟨0, 21, 24, 21⟩ : ExceptionTableEntry), (⟨0, 21, 28, 13⟩ : ExceptionTableEntry)], (⟨0, 21, 32, 41⟩ : ExceptionTableEntry), [], rfl, List.forall_mem_cons.mpr ⟨Or.inr ⟨by decide, xIOB, tb4 _ (List.mem_of_getElem? (i := 38) rfl), by decide +kernel⟩, List.forall_mem_cons.mpr ⟨Or.inr ⟨by decide, xIAE, tb3 _ (List.mem_of_getElem? (i := 132) rfl), by decide +kernel⟩, (fun _ h => by cases h)⟩⟩, rfl, by decide, ⟨xNSE, tb4 _ (List.mem_of_getElem? (i := 125) rfl), tb4 _ (List.mem_of_getElem? (i := 139) rfl)⟩, rfl, 6, 2, Or.inr ⟨rfl, dL_isFull_32⟩, by decide, dL_isFull_34, dL_isFull_35⟩ | j + 3, h => by simp at h
set_option maxRecDepth 100000 in
theorem wr_isFull {X : xX} (hX : xBase X) {d9 mc9 ms9 : Nat} {c : xCx} {I : xIn} {a1 : Int} {a2 : Int} {a3 : Int} {a4 : Int} {F : Bool × Int} {C : xIn → Prop} (hM : xRet rB X m_X9_isFull d9 [xr (0, 0), xi a1, xi a2, xi a3, xi a4] c I mc9 ms9 (fun v I9 => C I9 ∧ (v, 0) = F) (fun e I9 => C I9 ∧ exL [xIOB, xIAE, xNSE] e F.2)) : xMet X m_L_isFull (d9 + 1) [xr (0, 0), xi a1, xi a2, xi a3, xi a4, xr (2, 0)] (I, xst c) mc9 ms9 (wPost c F.2 (fun c9 => c9.2.1 (2, 0) 0 = blV F.1) (fun I9 c9 => C I9 ∧ c9.1 = c.1)) := by
  refine xMet_of hX pl_L_isFull.1 (fun w hw => (pl_L_isFull.2.2.1 w hw).1) (by show 1 + (1 + (1 + (1 + (1 + (1 + 0))))) ≤ 7; decide) (fun V hV => ?_)
  have hE := hV.eng
  show V 0 [(0, xr (0, 0)), (1, xi a1), (2, xi a2), (3, xi a3), (4, xi a4), (5, xr (2, 0))] [] (I, xst c) 0 0
  refine x_aload (pc := 0) (j := 5) hE dL_isFull_0 rfl ?_
  refine x_iconst (pc := 2) hE dL_isFull_2 ?_
  refine x_aload_n (pc := 3) (j := 0) hE dL_isFull_3 rfl ?_
  refine x_iload_n (pc := 4) (j := 1) hE dL_isFull_4 rfl ?_
  refine x_iload_n (pc := 5) (j := 2) hE dL_isFull_5 rfl ?_
  refine x_iload_n (pc := 6) (j := 3) hE dL_isFull_6 rfl ?_
  refine x_iload (pc := 7) (j := 4) hE dL_isFull_7 rfl ?_
  refine x_callVH (pc := 9) (as := [xi a1, xi a2, xi a3, xi a4]) (st := [xi 0, xr (2, 0)]) hV hM dL_isFull_9 pl_X9_isFull lk_RL_60 rfl (lvm0 _ (by decide)) rfl rfl (Nat.le_refl _) (Nat.le_of_eq (Nat.zero_add _)) (Nat.le_of_eq (Nat.zero_add _)) (Nat.le_of_ble_eq_true rfl) ?_ ?_
  · rintro e h9 ⟨I9, rfl, ⟨a, ha, -⟩ | ⟨e9, he, hC, j, hj, hk⟩⟩
    · cases ha
    · cases he
      exact ⟨_, hnd_isFull j e hj, I9, c, rfl, by rw [hk], fun h => by omega, fun _ _ => rfl, hC, rfl⟩
  · rintro r h9 ⟨I9, rfl, ⟨v, hv, hC, hF9⟩ | ⟨e, he, -⟩⟩
    · cases hv
      cases hF9
      refine ⟨xsame_A rfl, ?_⟩
      refine x_ifb_eq (pc := 12) (tgt := 19) (b := v) hE dL_isFull_12 rfl (fun hb => ?_) (fun hb => ?_)
      · subst hb
        refine x_lconst (pc := 19) hE dL_isFull_19 ?_
        refine x_lastore (pc := 20) (nn := 1) hE dL_isFull_20 rfl (lvm2 _ (by decide)) (by decide) (by decide) ?_
        refine x_goto (pc := 21) (tgt := 36) hE dL_isFull_21 rfl (x_iconst (pc := 36) hE dL_isFull_36 ?_)
        exact x_reti (pc := 37) hV dL_isFull_37 rfl (Nat.le_of_eq (Nat.zero_add _)) (Nat.le_of_eq (Nat.zero_add _)) ⟨_, (c.1, xuJ c.2.1 (2, 0) 0 (blV false), c.2.2), rfl, rfl, fun _ => xuJ_same (J := c.2.1) (q := (2, 0)) (k := 0) (v := blV false), fun _ _ => rfl, hC, rfl⟩
      · subst hb
        refine x_lconst (pc := 15) hE dL_isFull_15 (x_goto (pc := 16) (tgt := 20) hE dL_isFull_16 rfl ?_)
        refine x_lastore (pc := 20) (nn := 1) hE dL_isFull_20 rfl (lvm2 _ (by decide)) (by decide) (by decide) ?_
        refine x_goto (pc := 21) (tgt := 36) hE dL_isFull_21 rfl (x_iconst (pc := 36) hE dL_isFull_36 ?_)
        exact x_reti (pc := 37) hV dL_isFull_37 rfl (Nat.le_of_eq (Nat.zero_add _)) (Nat.le_of_eq (Nat.zero_add _)) ⟨_, (c.1, xuJ c.2.1 (2, 0) 0 (blV true), c.2.2), rfl, rfl, fun _ => xuJ_same (J := c.2.1) (q := (2, 0)) (k := 0) (v := blV true), fun _ _ => rfl, hC, rfl⟩
    · cases he
theorem hnd_rounds : ∀ (j : Nat) (e : String), ([xIOB, xIAE, xUOE] : List String)[j]? = some e → xHnd m_L_rounds 7 e ((j : Int) + 1) := fun j e h => match j, h with | 0, h => by cases h; exact ⟨[], (⟨0, 12, 15, 21⟩ : ExceptionTableEntry), [(⟨0, 12, 19, 13⟩ : ExceptionTableEntry), (⟨0, 12, 23, 67⟩ : ExceptionTableEntry)], rfl, (fun _ h => by cases h), rfl, by decide, ⟨xIOB, tb4 _ (List.mem_of_getElem? (i := 38) rfl), tb4 _ (List.mem_of_getElem? (i := 49) rfl)⟩, rfl, 5, 2, Or.inr ⟨rfl, dL_rounds_15⟩, by decide, dL_rounds_17, dL_rounds_18⟩ | 1, h => by cases h; exact ⟨[(⟨0, 12, 15, 21⟩ : ExceptionTableEntry)], (⟨0, 12, 19, 13⟩ : ExceptionTableEntry), [(⟨0, 12, 23, 67⟩ : ExceptionTableEntry)], rfl, List.forall_mem_cons.mpr ⟨Or.inr ⟨by decide, xIOB, tb4 _ (List.mem_of_getElem? (i := 38) rfl), by decide +kernel⟩, (fun _ h => by cases h)⟩, rfl, by decide, ⟨xIAE, tb3 _ (List.mem_of_getElem? (i := 132) rfl), tb3 _ (List.mem_of_getElem? (i := 140) rfl)⟩, rfl, 5, 2, Or.inr ⟨rfl, dL_rounds_19⟩, by decide, dL_rounds_21, dL_rounds_22⟩ | 2, h => by cases h; exact ⟨[(⟨0, 12, 15, 21⟩ : ExceptionTableEntry), (⟨0, 12, 19, 13⟩ : ExceptionTableEntry)], (⟨0, 12, 23, 67⟩ : ExceptionTableEntry), [], rfl, List.forall_mem_cons.mpr ⟨Or.inr ⟨by decide, xIOB, tb4 _ (List.mem_of_getElem? (i := 38) rfl), by decide +kernel⟩, List.forall_mem_cons.mpr ⟨Or.inr ⟨by decide, xIAE, tb3 _ (List.mem_of_getElem? (i := 132) rfl), by decide +kernel⟩, (fun _ h => by cases h)⟩⟩, rfl, by decide, ⟨xUOE, tb4 _ (List.mem_of_getElem? (i := 210) rfl), tb4 _ (List.mem_of_getElem? (i := 220) rfl)⟩, rfl, 5, 2, Or.inr ⟨rfl, dL_rounds_23⟩, by decide, dL_rounds_25, dL_rounds_26⟩ | j + 3, h => by simp at h
set_option maxRecDepth 100000 in
theorem wr_rounds {X : xX} (hX : xBase X) {d9 mc9 ms9 : Nat} {c : xCx} {I : xIn} {a1 : Int} {a2 : Int} {a3 : Int} {F : Int × Int} {C : xIn → Prop} (hM : xRet rI X m_X9_rounds d9 [xr (0, 0), xi a1, xi a2, xi a3] c I mc9 ms9 (fun v I9 => C I9 ∧ (v, 0) = F) (fun e I9 => C I9 ∧ exL [xIOB, xIAE, xUOE] e F.2)) : xMet X m_L_rounds (d9 + 1) [xr (0, 0), xi a1, xi a2, xi a3, xr (2, 0)] (I, xst c) mc9 ms9 (wPost c F.2 (fun c9 => c9.2.1 (2, 0) 0 = (Int32.ofInt F.1).toInt64) (fun I9 c9 => C I9 ∧ c9.1 = c.1)) := by
  refine xMet_of hX pl_L_rounds.1 (fun w hw => (pl_L_rounds.2.2.1 w hw).1) (by show 1 + (1 + (1 + (1 + (1 + 0)))) ≤ 6; decide) (fun V hV => ?_)
  have hE := hV.eng
  show V 0 [(0, xr (0, 0)), (1, xi a1), (2, xi a2), (3, xi a3), (4, xr (2, 0))] [] (I, xst c) 0 0
  refine x_aload (pc := 0) (j := 4) hE dL_rounds_0 rfl ?_
  refine x_iconst (pc := 2) hE dL_rounds_2 ?_
  refine x_aload_n (pc := 3) (j := 0) hE dL_rounds_3 rfl ?_
  refine x_iload_n (pc := 4) (j := 1) hE dL_rounds_4 rfl ?_
  refine x_iload_n (pc := 5) (j := 2) hE dL_rounds_5 rfl ?_
  refine x_iload_n (pc := 6) (j := 3) hE dL_rounds_6 rfl ?_
  refine x_callVH (pc := 7) (as := [xi a1, xi a2, xi a3]) (st := [xi 0, xr (2, 0)]) hV hM dL_rounds_7 pl_X9_rounds lk_RL_64 rfl (lvm0 _ (by decide)) rfl rfl (Nat.le_refl _) (Nat.le_of_eq (Nat.zero_add _)) (Nat.le_of_eq (Nat.zero_add _)) (Nat.le_of_ble_eq_true rfl) ?_ ?_
  · rintro e h9 ⟨I9, rfl, ⟨a, ha, -⟩ | ⟨e9, he, hC, j, hj, hk⟩⟩
    · cases ha
    · cases he
      exact ⟨_, hnd_rounds j e hj, I9, c, rfl, by rw [hk], fun h => by omega, fun _ _ => rfl, hC, rfl⟩
  · rintro r h9 ⟨I9, rfl, ⟨v, hv, hC, hF9⟩ | ⟨e, he, -⟩⟩
    · cases hv
      cases hF9
      refine ⟨xsame_A rfl, ?_⟩
      refine x_i2l (pc := 10) hE dL_rounds_10 ?_
      refine x_lastore (pc := 11) (nn := 1) hE dL_rounds_11 rfl (lvm2 _ (by decide)) (by decide) (by decide) ?_
      refine x_goto (pc := 12) (tgt := 27) hE dL_rounds_12 rfl (x_iconst (pc := 27) hE dL_rounds_27 ?_)
      exact x_reti (pc := 28) hV dL_rounds_28 rfl (Nat.le_of_eq (Nat.zero_add _)) (Nat.le_of_eq (Nat.zero_add _)) ⟨_, (c.1, xuJ c.2.1 (2, 0) 0 ((Int32.ofInt v).toInt64), c.2.2), rfl, rfl, fun _ => xuJ_same (J := c.2.1) (q := (2, 0)) (k := 0) (v := (Int32.ofInt v).toInt64), fun _ _ => rfl, hC, rfl⟩
    · cases he
theorem hnd_roundAmount : ∀ (j : Nat) (e : String), ([xIOB, xIAE, xUOE, xNSE] : List String)[j]? = some e → xHnd m_L_roundAmount 9 e ((j : Int) + 1) := fun j e h => match j, h with | 0, h => by cases h; exact ⟨[], (⟨0, 14, 17, 21⟩ : ExceptionTableEntry), [(⟨0, 14, 21, 13⟩ : ExceptionTableEntry), (⟨0, 14, 25, 67⟩ : ExceptionTableEntry), (⟨0, 14, 29, 41⟩ : ExceptionTableEntry)], rfl, (fun _ h => by cases h), rfl, by decide, ⟨xIOB, tb4 _ (List.mem_of_getElem? (i := 38) rfl), tb4 _ (List.mem_of_getElem? (i := 49) rfl)⟩, rfl, 6, 2, Or.inr ⟨rfl, dL_roundAmount_17⟩, by decide, dL_roundAmount_19, dL_roundAmount_20⟩ | 1, h => by cases h; exact ⟨[(⟨0, 14, 17, 21⟩ : ExceptionTableEntry)], (⟨0, 14, 21, 13⟩ : ExceptionTableEntry), [(⟨0, 14, 25, 67⟩ : ExceptionTableEntry), (⟨0, 14, 29, 41⟩ : ExceptionTableEntry)], rfl, List.forall_mem_cons.mpr ⟨Or.inr ⟨by decide, xIOB, tb4 _ (List.mem_of_getElem? (i := 38) rfl), by decide +kernel⟩, (fun _ h => by cases h)⟩, rfl, by decide, ⟨xIAE, tb3 _ (List.mem_of_getElem? (i := 132) rfl), tb3 _ (List.mem_of_getElem? (i := 140) rfl)⟩, rfl, 6, 2, Or.inr ⟨rfl, dL_roundAmount_21⟩, by decide, dL_roundAmount_23, dL_roundAmount_24⟩ | 2, h => by cases h; exact ⟨[(⟨0, 14, 17, 21⟩ : ExceptionTableEntry), (⟨0, 14, 21, 13⟩ : ExceptionTableEntry)], (⟨0, 14, 25, 67⟩ : ExceptionTableEntry), [(⟨0, 14, 29, 41⟩ : ExceptionTableEntry)], rfl, List.forall_mem_cons.mpr ⟨Or.inr ⟨by decide, xIOB, tb4 _ (List.mem_of_getElem? (i := 38) rfl), by decide +kernel⟩, List.forall_mem_cons.mpr ⟨Or.inr ⟨by decide, xIAE, tb3 _ (List.mem_of_getElem? (i := 132) rfl), by decide +kernel⟩, (fun _ h => by cases h)⟩⟩, rfl, by decide, ⟨xUOE, tb4 _ (List.mem_of_getElem? (i := 210) rfl), tb4 _ (List.mem_of_getElem? (i := 220) rfl)⟩, rfl, 6, 2, Or.inr ⟨rfl, dL_roundAmount_25⟩, by decide, dL_roundAmount_27, dL_roundAmount_28⟩ | 3, h => by cases h; exact ⟨[(⟨0, 14, 17, 21⟩ : ExceptionTableEntry), (⟨0, 14, 21, 13⟩ : ExceptionTableEntry), (⟨0, 14, 25, 67⟩ : ExceptionTableEntry)], (⟨0, 14, 29, 41⟩ : ExceptionTableEntry), [], rfl, List.forall_mem_cons.mpr ⟨Or.inr ⟨by decide, xIOB, tb4 _ (List.mem_of_getElem? (i := 38) rfl), by decide +kernel⟩, List.forall_mem_cons.mpr ⟨Or.inr ⟨by decide, xIAE, tb3 _ (List.mem_of_getElem? (i := 132) rfl), by decide +kernel⟩, List.forall_mem_cons.mpr ⟨Or.inr ⟨by decide, xUOE, tb4 _ (List.mem_of_getElem? (i := 210) rfl), by decide +kernel⟩, (fun _ h => by cases h)⟩⟩⟩, rfl, by decide, ⟨xNSE, tb4 _ (List.mem_of_getElem? (i := 125) rfl), tb4 _ (List.mem_of_getElem? (i := 139) rfl)⟩, rfl, 6, 2, Or.inr ⟨rfl, dL_roundAmount_29⟩, by decide, dL_roundAmount_31, dL_roundAmount_32⟩ | j + 4, h => by simp at h
set_option maxRecDepth 100000 in
theorem wr_roundAmount {X : xX} (hX : xBase X) {d9 mc9 ms9 : Nat} {c : xCx} {I : xIn} {a1 : Int} {a2 : Int} {a3 : Int} {a4 : Int} {F : Int × Int} {C : xIn → Prop} (hM : xRet rI X m_X9_roundAmount d9 [xr (0, 0), xi a1, xi a2, xi a3, xi a4] c I mc9 ms9 (fun v I9 => C I9 ∧ (v, 0) = F) (fun e I9 => C I9 ∧ exL [xIOB, xIAE, xUOE, xNSE] e F.2)) : xMet X m_L_roundAmount (d9 + 1) [xr (0, 0), xi a1, xi a2, xi a3, xi a4, xr (2, 0)] (I, xst c) mc9 ms9 (wPost c F.2 (fun c9 => c9.2.1 (2, 0) 0 = (Int32.ofInt F.1).toInt64) (fun I9 c9 => C I9 ∧ c9.1 = c.1)) := by
  refine xMet_of hX pl_L_roundAmount.1 (fun w hw => (pl_L_roundAmount.2.2.1 w hw).1) (by show 1 + (1 + (1 + (1 + (1 + (1 + 0))))) ≤ 7; decide) (fun V hV => ?_)
  have hE := hV.eng
  show V 0 [(0, xr (0, 0)), (1, xi a1), (2, xi a2), (3, xi a3), (4, xi a4), (5, xr (2, 0))] [] (I, xst c) 0 0
  refine x_aload (pc := 0) (j := 5) hE dL_roundAmount_0 rfl ?_
  refine x_iconst (pc := 2) hE dL_roundAmount_2 ?_
  refine x_aload_n (pc := 3) (j := 0) hE dL_roundAmount_3 rfl ?_
  refine x_iload_n (pc := 4) (j := 1) hE dL_roundAmount_4 rfl ?_
  refine x_iload_n (pc := 5) (j := 2) hE dL_roundAmount_5 rfl ?_
  refine x_iload_n (pc := 6) (j := 3) hE dL_roundAmount_6 rfl ?_
  refine x_iload (pc := 7) (j := 4) hE dL_roundAmount_7 rfl ?_
  refine x_callVH (pc := 9) (as := [xi a1, xi a2, xi a3, xi a4]) (st := [xi 0, xr (2, 0)]) hV hM dL_roundAmount_9 pl_X9_roundAmount lk_RL_69 rfl (lvm0 _ (by decide)) rfl rfl (Nat.le_refl _) (Nat.le_of_eq (Nat.zero_add _)) (Nat.le_of_eq (Nat.zero_add _)) (Nat.le_of_ble_eq_true rfl) ?_ ?_
  · rintro e h9 ⟨I9, rfl, ⟨a, ha, -⟩ | ⟨e9, he, hC, j, hj, hk⟩⟩
    · cases ha
    · cases he
      exact ⟨_, hnd_roundAmount j e hj, I9, c, rfl, by rw [hk], fun h => by omega, fun _ _ => rfl, hC, rfl⟩
  · rintro r h9 ⟨I9, rfl, ⟨v, hv, hC, hF9⟩ | ⟨e, he, -⟩⟩
    · cases hv
      cases hF9
      refine ⟨xsame_A rfl, ?_⟩
      refine x_i2l (pc := 12) hE dL_roundAmount_12 ?_
      refine x_lastore (pc := 13) (nn := 1) hE dL_roundAmount_13 rfl (lvm2 _ (by decide)) (by decide) (by decide) ?_
      refine x_goto (pc := 14) (tgt := 33) hE dL_roundAmount_14 rfl (x_iconst (pc := 33) hE dL_roundAmount_33 ?_)
      exact x_reti (pc := 34) hV dL_roundAmount_34 rfl (Nat.le_of_eq (Nat.zero_add _)) (Nat.le_of_eq (Nat.zero_add _)) ⟨_, (c.1, xuJ c.2.1 (2, 0) 0 ((Int32.ofInt v).toInt64), c.2.2), rfl, rfl, fun _ => xuJ_same (J := c.2.1) (q := (2, 0)) (k := 0) (v := (Int32.ofInt v).toInt64), fun _ _ => rfl, hC, rfl⟩
    · cases he
theorem hnd_roundSign : ∀ (j : Nat) (e : String), ([xIOB, xIAE, xUOE, xNSE] : List String)[j]? = some e → xHnd m_L_roundSign 11 e ((j : Int) + 1) := fun j e h => match j, h with | 0, h => by cases h; exact ⟨[], (⟨0, 16, 19, 21⟩ : ExceptionTableEntry), [(⟨0, 16, 23, 13⟩ : ExceptionTableEntry), (⟨0, 16, 27, 67⟩ : ExceptionTableEntry), (⟨0, 16, 31, 41⟩ : ExceptionTableEntry)], rfl, (fun _ h => by cases h), rfl, by decide, ⟨xIOB, tb4 _ (List.mem_of_getElem? (i := 38) rfl), tb4 _ (List.mem_of_getElem? (i := 49) rfl)⟩, rfl, 7, 2, Or.inr ⟨rfl, dL_roundSign_19⟩, by decide, dL_roundSign_21, dL_roundSign_22⟩ | 1, h => by cases h; exact ⟨[(⟨0, 16, 19, 21⟩ : ExceptionTableEntry)], (⟨0, 16, 23, 13⟩ : ExceptionTableEntry), [(⟨0, 16, 27, 67⟩ : ExceptionTableEntry), (⟨0, 16, 31, 41⟩ : ExceptionTableEntry)], rfl, List.forall_mem_cons.mpr ⟨Or.inr ⟨by decide, xIOB, tb4 _ (List.mem_of_getElem? (i := 38) rfl), by decide +kernel⟩, (fun _ h => by cases h)⟩, rfl, by decide, ⟨xIAE, tb3 _ (List.mem_of_getElem? (i := 132) rfl), tb3 _ (List.mem_of_getElem? (i := 140) rfl)⟩, rfl, 7, 2, Or.inr ⟨rfl, dL_roundSign_23⟩, by decide, dL_roundSign_25, dL_roundSign_26⟩ | 2, h => by cases h; exact ⟨[(⟨0, 16, 19, 21⟩ : ExceptionTableEntry), (⟨0, 16, 23, 13⟩ : ExceptionTableEntry)], (⟨0, 16, 27, 67⟩ : ExceptionTableEntry), [(⟨0, 16, 31, 41⟩ : ExceptionTableEntry)], rfl, List.forall_mem_cons.mpr ⟨Or.inr ⟨by decide, xIOB, tb4 _ (List.mem_of_getElem? (i := 38) rfl), by decide +kernel⟩, List.forall_mem_cons.mpr ⟨Or.inr ⟨by decide, xIAE, tb3 _ (List.mem_of_getElem? (i := 132) rfl), by decide +kernel⟩, (fun _ h => by cases h)⟩⟩, rfl, by decide, ⟨xUOE, tb4 _ (List.mem_of_getElem? (i := 210) rfl), tb4 _ (List.mem_of_getElem? (i := 220) rfl)⟩, rfl, 7, 2, Or.inr ⟨rfl, dL_roundSign_27⟩, by decide, dL_roundSign_29, dL_roundSign_30⟩ | 3, h => by cases h; exact ⟨[(⟨0, 16, 19, 21⟩ : ExceptionTableEntry), (⟨0, 16, 23, 13⟩ : ExceptionTableEntry), (⟨0, 16, 27, 67⟩ : ExceptionTableEntry)], (⟨0, 16, 31, 41⟩ : ExceptionTableEntry), [], rfl, List.forall_mem_cons.mpr ⟨Or.inr ⟨by decide, xIOB, tb4 _ (List.mem_of_getElem? (i := 38) rfl), by decide +kernel⟩, List.forall_mem_cons.mpr ⟨Or.inr ⟨by decide, xIAE, tb3 _ (List.mem_of_getElem? (i := 132) rfl), by decide +kernel⟩, List.forall_mem_cons.mpr ⟨Or.inr ⟨by decide, xUOE, tb4 _ (List.mem_of_getElem? (i := 210) rfl), by decide +kernel⟩, (fun _ h => by cases h)⟩⟩⟩, rfl, by decide, ⟨xNSE, tb4 _ (List.mem_of_getElem? (i := 125) rfl), tb4 _ (List.mem_of_getElem? (i := 139) rfl)⟩, rfl, 7, 2, Or.inr ⟨rfl, dL_roundSign_31⟩, by decide, dL_roundSign_33, dL_roundSign_34⟩ | j + 4, h => by simp at h
set_option maxRecDepth 100000 in
theorem wr_roundSign {X : xX} (hX : xBase X) {d9 mc9 ms9 : Nat} {c : xCx} {I : xIn} {a1 : Int} {a2 : Int} {a3 : Int} {a4 : Int} {a5 : Int} {F : Int × Int} {C : xIn → Prop} (hM : xRet rI X m_X9_roundSign d9 [xr (0, 0), xi a1, xi a2, xi a3, xi a4, xi a5] c I mc9 ms9 (fun v I9 => C I9 ∧ (v, 0) = F) (fun e I9 => C I9 ∧ exL [xIOB, xIAE, xUOE, xNSE] e F.2)) : xMet X m_L_roundSign (d9 + 1) [xr (0, 0), xi a1, xi a2, xi a3, xi a4, xi a5, xr (2, 0)] (I, xst c) mc9 ms9 (wPost c F.2 (fun c9 => c9.2.1 (2, 0) 0 = (Int32.ofInt F.1).toInt64) (fun I9 c9 => C I9 ∧ c9.1 = c.1)) := by
  refine xMet_of hX pl_L_roundSign.1 (fun w hw => (pl_L_roundSign.2.2.1 w hw).1) (by show 1 + (1 + (1 + (1 + (1 + (1 + (1 + 0)))))) ≤ 8; decide) (fun V hV => ?_)
  have hE := hV.eng
  show V 0 [(0, xr (0, 0)), (1, xi a1), (2, xi a2), (3, xi a3), (4, xi a4), (5, xi a5), (6, xr (2, 0))] [] (I, xst c) 0 0
  refine x_aload (pc := 0) (j := 6) hE dL_roundSign_0 rfl ?_
  refine x_iconst (pc := 2) hE dL_roundSign_2 ?_
  refine x_aload_n (pc := 3) (j := 0) hE dL_roundSign_3 rfl ?_
  refine x_iload_n (pc := 4) (j := 1) hE dL_roundSign_4 rfl ?_
  refine x_iload_n (pc := 5) (j := 2) hE dL_roundSign_5 rfl ?_
  refine x_iload_n (pc := 6) (j := 3) hE dL_roundSign_6 rfl ?_
  refine x_iload (pc := 7) (j := 4) hE dL_roundSign_7 rfl ?_
  refine x_iload (pc := 9) (j := 5) hE dL_roundSign_9 rfl ?_
  refine x_callVH (pc := 11) (as := [xi a1, xi a2, xi a3, xi a4, xi a5]) (st := [xi 0, xr (2, 0)]) hV hM dL_roundSign_11 pl_X9_roundSign lk_RL_72 rfl (lvm0 _ (by decide)) rfl rfl (Nat.le_refl _) (Nat.le_of_eq (Nat.zero_add _)) (Nat.le_of_eq (Nat.zero_add _)) (Nat.le_of_ble_eq_true rfl) ?_ ?_
  · rintro e h9 ⟨I9, rfl, ⟨a, ha, -⟩ | ⟨e9, he, hC, j, hj, hk⟩⟩
    · cases ha
    · cases he
      exact ⟨_, hnd_roundSign j e hj, I9, c, rfl, by rw [hk], fun h => by omega, fun _ _ => rfl, hC, rfl⟩
  · rintro r h9 ⟨I9, rfl, ⟨v, hv, hC, hF9⟩ | ⟨e, he, -⟩⟩
    · cases hv
      cases hF9
      refine ⟨xsame_A rfl, ?_⟩
      refine x_i2l (pc := 14) hE dL_roundSign_14 ?_
      refine x_lastore (pc := 15) (nn := 1) hE dL_roundSign_15 rfl (lvm2 _ (by decide)) (by decide) (by decide) ?_
      refine x_goto (pc := 16) (tgt := 35) hE dL_roundSign_16 rfl (x_iconst (pc := 35) hE dL_roundSign_35 ?_)
      exact x_reti (pc := 36) hV dL_roundSign_36 rfl (Nat.le_of_eq (Nat.zero_add _)) (Nat.le_of_eq (Nat.zero_add _)) ⟨_, (c.1, xuJ c.2.1 (2, 0) 0 ((Int32.ofInt v).toInt64), c.2.2), rfl, rfl, fun _ => xuJ_same (J := c.2.1) (q := (2, 0)) (k := 0) (v := (Int32.ofInt v).toInt64), fun _ _ => rfl, hC, rfl⟩
    · cases he
theorem hnd_cost : ∀ (j : Nat) (e : String), ([xIOB, xIAE, xNSE] : List String)[j]? = some e → xHnd m_L_cost 7 e ((j : Int) + 1) := fun j e h => match j, h with | 0, h => by cases h; exact ⟨[], (⟨0, 12, 15, 21⟩ : ExceptionTableEntry), [(⟨0, 12, 19, 13⟩ : ExceptionTableEntry), (⟨0, 12, 23, 41⟩ : ExceptionTableEntry)], rfl, (fun _ h => by cases h), rfl, by decide, ⟨xIOB, tb4 _ (List.mem_of_getElem? (i := 38) rfl), tb4 _ (List.mem_of_getElem? (i := 49) rfl)⟩, rfl, 5, 2, Or.inr ⟨rfl, dL_cost_15⟩, by decide, dL_cost_17, dL_cost_18⟩ | 1, h => by cases h; exact ⟨[(⟨0, 12, 15, 21⟩ : ExceptionTableEntry)], (⟨0, 12, 19, 13⟩ : ExceptionTableEntry), [(⟨0, 12, 23, 41⟩ : ExceptionTableEntry)], rfl, List.forall_mem_cons.mpr ⟨Or.inr ⟨by decide, xIOB, tb4 _ (List.mem_of_getElem? (i := 38) rfl), by decide +kernel⟩, (fun _ h => by cases h)⟩, rfl, by decide, ⟨xIAE, tb3 _ (List.mem_of_getElem? (i := 132) rfl), tb3 _ (List.mem_of_getElem? (i := 140) rfl)⟩, rfl, 5, 2, Or.inr ⟨rfl, dL_cost_19⟩, by decide, dL_cost_21, dL_cost_22⟩ | 2, h => by cases h; exact ⟨[(⟨0, 12, 15, 21⟩ : ExceptionTableEntry), (⟨0, 12, 19, 13⟩ : ExceptionTableEntry)], (⟨0, 12, 23, 41⟩ : ExceptionTableEntry), [], rfl, List.forall_mem_cons.mpr ⟨Or.inr ⟨by decide, xIOB, tb4 _ (List.mem_of_getElem? (i := 38) rfl), by decide +kernel⟩, List.forall_mem_cons.mpr ⟨Or.inr ⟨by decide, xIAE, tb3 _ (List.mem_of_getElem? (i := 132) rfl), by decide +kernel⟩, (fun _ h => by cases h)⟩⟩, rfl, by decide, ⟨xNSE, tb4 _ (List.mem_of_getElem? (i := 125) rfl), tb4 _ (List.mem_of_getElem? (i := 139) rfl)⟩, rfl, 5, 2, Or.inr ⟨rfl, dL_cost_23⟩, by decide, dL_cost_25, dL_cost_26⟩ | j + 3, h => by simp at h
set_option maxRecDepth 100000 in
theorem wr_cost {X : xX} (hX : xBase X) {d9 mc9 ms9 : Nat} {c : xCx} {I : xIn} {a1 : Int} {a2 : Int} {a3 : Int} {F : Int × Int} {C : xIn → Prop} (hM : xRet rI X m_X9_cost d9 [xr (0, 0), xi a1, xi a2, xi a3] c I mc9 ms9 (fun v I9 => C I9 ∧ (v, 0) = F) (fun e I9 => C I9 ∧ exL [xIOB, xIAE, xNSE] e F.2)) : xMet X m_L_cost (d9 + 1) [xr (0, 0), xi a1, xi a2, xi a3, xr (2, 0)] (I, xst c) mc9 ms9 (wPost c F.2 (fun c9 => c9.2.1 (2, 0) 0 = (Int32.ofInt F.1).toInt64) (fun I9 c9 => C I9 ∧ c9.1 = c.1)) := by
  refine xMet_of hX pl_L_cost.1 (fun w hw => (pl_L_cost.2.2.1 w hw).1) (by show 1 + (1 + (1 + (1 + (1 + 0)))) ≤ 6; decide) (fun V hV => ?_)
  have hE := hV.eng
  show V 0 [(0, xr (0, 0)), (1, xi a1), (2, xi a2), (3, xi a3), (4, xr (2, 0))] [] (I, xst c) 0 0
  refine x_aload (pc := 0) (j := 4) hE dL_cost_0 rfl ?_
  refine x_iconst (pc := 2) hE dL_cost_2 ?_
  refine x_aload_n (pc := 3) (j := 0) hE dL_cost_3 rfl ?_
  refine x_iload_n (pc := 4) (j := 1) hE dL_cost_4 rfl ?_
  refine x_iload_n (pc := 5) (j := 2) hE dL_cost_5 rfl ?_
  refine x_iload_n (pc := 6) (j := 3) hE dL_cost_6 rfl ?_
  refine x_callVH (pc := 7) (as := [xi a1, xi a2, xi a3]) (st := [xi 0, xr (2, 0)]) hV hM dL_cost_7 pl_X9_cost lk_RL_75 rfl (lvm0 _ (by decide)) rfl rfl (Nat.le_refl _) (Nat.le_of_eq (Nat.zero_add _)) (Nat.le_of_eq (Nat.zero_add _)) (Nat.le_of_ble_eq_true rfl) ?_ ?_
  · rintro e h9 ⟨I9, rfl, ⟨a, ha, -⟩ | ⟨e9, he, hC, j, hj, hk⟩⟩
    · cases ha
    · cases he
      exact ⟨_, hnd_cost j e hj, I9, c, rfl, by rw [hk], fun h => by omega, fun _ _ => rfl, hC, rfl⟩
  · rintro r h9 ⟨I9, rfl, ⟨v, hv, hC, hF9⟩ | ⟨e, he, -⟩⟩
    · cases hv
      cases hF9
      refine ⟨xsame_A rfl, ?_⟩
      refine x_i2l (pc := 10) hE dL_cost_10 ?_
      refine x_lastore (pc := 11) (nn := 1) hE dL_cost_11 rfl (lvm2 _ (by decide)) (by decide) (by decide) ?_
      refine x_goto (pc := 12) (tgt := 27) hE dL_cost_12 rfl (x_iconst (pc := 27) hE dL_cost_27 ?_)
      exact x_reti (pc := 28) hV dL_cost_28 rfl (Nat.le_of_eq (Nat.zero_add _)) (Nat.le_of_eq (Nat.zero_add _)) ⟨_, (c.1, xuJ c.2.1 (2, 0) 0 ((Int32.ofInt v).toInt64), c.2.2), rfl, rfl, fun _ => xuJ_same (J := c.2.1) (q := (2, 0)) (k := 0) (v := (Int32.ofInt v).toInt64), fun _ _ => rfl, hC, rfl⟩
    · cases he
theorem hnd_cheapest : ∀ (j : Nat) (e : String), ([xIOB, xIAE, xNSE] : List String)[j]? = some e → xHnd m_L_cheapest 9 e ((j : Int) + 1) := fun j e h => match j, h with | 0, h => by cases h; exact ⟨[], (⟨0, 14, 17, 21⟩ : ExceptionTableEntry), [(⟨0, 14, 21, 13⟩ : ExceptionTableEntry), (⟨0, 14, 25, 41⟩ : ExceptionTableEntry)], rfl, (fun _ h => by cases h), rfl, by decide, ⟨xIOB, tb4 _ (List.mem_of_getElem? (i := 38) rfl), tb4 _ (List.mem_of_getElem? (i := 49) rfl)⟩, rfl, 6, 2, Or.inr ⟨rfl, dL_cheapest_17⟩, by decide, dL_cheapest_19, dL_cheapest_20⟩ | 1, h => by cases h; exact ⟨[(⟨0, 14, 17, 21⟩ : ExceptionTableEntry)], (⟨0, 14, 21, 13⟩ : ExceptionTableEntry), [(⟨0, 14, 25, 41⟩ : ExceptionTableEntry)], rfl, List.forall_mem_cons.mpr ⟨Or.inr ⟨by decide, xIOB, tb4 _ (List.mem_of_getElem? (i := 38) rfl), by decide +kernel⟩, (fun _ h => by cases h)⟩, rfl, by decide, ⟨xIAE, tb3 _ (List.mem_of_getElem? (i := 132) rfl), tb3 _ (List.mem_of_getElem? (i := 140) rfl)⟩, rfl, 6, 2, Or.inr ⟨rfl, dL_cheapest_21⟩, by decide, dL_cheapest_23, dL_cheapest_24⟩ | 2, h => by cases h; exact ⟨[(⟨0, 14, 17, 21⟩ : ExceptionTableEntry), (⟨0, 14, 21, 13⟩ : ExceptionTableEntry)], (⟨0, 14, 25, 41⟩ : ExceptionTableEntry), [], rfl, List.forall_mem_cons.mpr ⟨Or.inr ⟨by decide, xIOB, tb4 _ (List.mem_of_getElem? (i := 38) rfl), by decide +kernel⟩, List.forall_mem_cons.mpr ⟨Or.inr ⟨by decide, xIAE, tb3 _ (List.mem_of_getElem? (i := 132) rfl), by decide +kernel⟩, (fun _ h => by cases h)⟩⟩, rfl, by decide, ⟨xNSE, tb4 _ (List.mem_of_getElem? (i := 125) rfl), tb4 _ (List.mem_of_getElem? (i := 139) rfl)⟩, rfl, 6, 2, Or.inr ⟨rfl, dL_cheapest_25⟩, by decide, dL_cheapest_27, dL_cheapest_28⟩ | j + 3, h => by simp at h
set_option maxRecDepth 100000 in
theorem wr_cheapest {X : xX} (hX : xBase X) {d9 mc9 ms9 : Nat} {c : xCx} {I : xIn} {a1 : Int} {a2 : Int} {a3 : Int} {a4 : Int} {F : Int × Int} {C : xIn → Prop} (hM : xRet rI X m_X9_cheapest d9 [xr (0, 0), xi a1, xi a2, xi a3, xi a4] c I mc9 ms9 (fun v I9 => C I9 ∧ (v, 0) = F) (fun e I9 => C I9 ∧ exL [xIOB, xIAE, xNSE] e F.2)) : xMet X m_L_cheapest (d9 + 1) [xr (0, 0), xi a1, xi a2, xi a3, xi a4, xr (2, 0)] (I, xst c) mc9 ms9 (wPost c F.2 (fun c9 => c9.2.1 (2, 0) 0 = (Int32.ofInt F.1).toInt64) (fun I9 c9 => C I9 ∧ c9.1 = c.1)) := by
  refine xMet_of hX pl_L_cheapest.1 (fun w hw => (pl_L_cheapest.2.2.1 w hw).1) (by show 1 + (1 + (1 + (1 + (1 + (1 + 0))))) ≤ 7; decide) (fun V hV => ?_)
  have hE := hV.eng
  show V 0 [(0, xr (0, 0)), (1, xi a1), (2, xi a2), (3, xi a3), (4, xi a4), (5, xr (2, 0))] [] (I, xst c) 0 0
  refine x_aload (pc := 0) (j := 5) hE dL_cheapest_0 rfl ?_
  refine x_iconst (pc := 2) hE dL_cheapest_2 ?_
  refine x_aload_n (pc := 3) (j := 0) hE dL_cheapest_3 rfl ?_
  refine x_iload_n (pc := 4) (j := 1) hE dL_cheapest_4 rfl ?_
  refine x_iload_n (pc := 5) (j := 2) hE dL_cheapest_5 rfl ?_
  refine x_iload_n (pc := 6) (j := 3) hE dL_cheapest_6 rfl ?_
  refine x_iload (pc := 7) (j := 4) hE dL_cheapest_7 rfl ?_
  refine x_callVH (pc := 9) (as := [xi a1, xi a2, xi a3, xi a4]) (st := [xi 0, xr (2, 0)]) hV hM dL_cheapest_9 pl_X9_cheapest lk_RL_78 rfl (lvm0 _ (by decide)) rfl rfl (Nat.le_refl _) (Nat.le_of_eq (Nat.zero_add _)) (Nat.le_of_eq (Nat.zero_add _)) (Nat.le_of_ble_eq_true rfl) ?_ ?_
  · rintro e h9 ⟨I9, rfl, ⟨a, ha, -⟩ | ⟨e9, he, hC, j, hj, hk⟩⟩
    · cases ha
    · cases he
      exact ⟨_, hnd_cheapest j e hj, I9, c, rfl, by rw [hk], fun h => by omega, fun _ _ => rfl, hC, rfl⟩
  · rintro r h9 ⟨I9, rfl, ⟨v, hv, hC, hF9⟩ | ⟨e, he, -⟩⟩
    · cases hv
      cases hF9
      refine ⟨xsame_A rfl, ?_⟩
      refine x_i2l (pc := 12) hE dL_cheapest_12 ?_
      refine x_lastore (pc := 13) (nn := 1) hE dL_cheapest_13 rfl (lvm2 _ (by decide)) (by decide) (by decide) ?_
      refine x_goto (pc := 14) (tgt := 29) hE dL_cheapest_14 rfl (x_iconst (pc := 29) hE dL_cheapest_29 ?_)
      exact x_reti (pc := 30) hV dL_cheapest_30 rfl (Nat.le_of_eq (Nat.zero_add _)) (Nat.le_of_eq (Nat.zero_add _)) ⟨_, (c.1, xuJ c.2.1 (2, 0) 0 ((Int32.ofInt v).toInt64), c.2.2), rfl, rfl, fun _ => xuJ_same (J := c.2.1) (q := (2, 0)) (k := 0) (v := (Int32.ofInt v).toInt64), fun _ _ => rfl, hC, rfl⟩
    · cases he
theorem hnd_price : ∀ (j : Nat) (e : String), ([xIOB, xIAE, xNSE] : List String)[j]? = some e → xHnd m_L_price 9 e ((j : Int) + 1) := fun j e h => match j, h with | 0, h => by cases h; exact ⟨[], (⟨0, 14, 17, 21⟩ : ExceptionTableEntry), [(⟨0, 14, 21, 13⟩ : ExceptionTableEntry), (⟨0, 14, 25, 41⟩ : ExceptionTableEntry)], rfl, (fun _ h => by cases h), rfl, by decide, ⟨xIOB, tb4 _ (List.mem_of_getElem? (i := 38) rfl), tb4 _ (List.mem_of_getElem? (i := 49) rfl)⟩, rfl, 6, 2, Or.inr ⟨rfl, dL_price_17⟩, by decide, dL_price_19, dL_price_20⟩ | 1, h => by cases h; exact ⟨[(⟨0, 14, 17, 21⟩ : ExceptionTableEntry)], (⟨0, 14, 21, 13⟩ : ExceptionTableEntry), [(⟨0, 14, 25, 41⟩ : ExceptionTableEntry)], rfl, List.forall_mem_cons.mpr ⟨Or.inr ⟨by decide, xIOB, tb4 _ (List.mem_of_getElem? (i := 38) rfl), by decide +kernel⟩, (fun _ h => by cases h)⟩, rfl, by decide, ⟨xIAE, tb3 _ (List.mem_of_getElem? (i := 132) rfl), tb3 _ (List.mem_of_getElem? (i := 140) rfl)⟩, rfl, 6, 2, Or.inr ⟨rfl, dL_price_21⟩, by decide, dL_price_23, dL_price_24⟩ | 2, h => by cases h; exact ⟨[(⟨0, 14, 17, 21⟩ : ExceptionTableEntry), (⟨0, 14, 21, 13⟩ : ExceptionTableEntry)], (⟨0, 14, 25, 41⟩ : ExceptionTableEntry), [], rfl, List.forall_mem_cons.mpr ⟨Or.inr ⟨by decide, xIOB, tb4 _ (List.mem_of_getElem? (i := 38) rfl), by decide +kernel⟩, List.forall_mem_cons.mpr ⟨Or.inr ⟨by decide, xIAE, tb3 _ (List.mem_of_getElem? (i := 132) rfl), by decide +kernel⟩, (fun _ h => by cases h)⟩⟩, rfl, by decide, ⟨xNSE, tb4 _ (List.mem_of_getElem? (i := 125) rfl), tb4 _ (List.mem_of_getElem? (i := 139) rfl)⟩, rfl, 6, 2, Or.inr ⟨rfl, dL_price_25⟩, by decide, dL_price_27, dL_price_28⟩ | j + 3, h => by simp at h
set_option maxRecDepth 100000 in
theorem wr_price {X : xX} (hX : xBase X) {d9 mc9 ms9 : Nat} {c : xCx} {I : xIn} {a1 : Int} {a2 : Int} {a3 : Int} {a4 : Int} {F : Int × Int} {C : xIn → Prop} (hM : xRet rI X m_X9_price d9 [xr (0, 0), xi a1, xi a2, xi a3, xi a4] c I mc9 ms9 (fun v I9 => C I9 ∧ (v, 0) = F) (fun e I9 => C I9 ∧ exL [xIOB, xIAE, xNSE] e F.2)) : xMet X m_L_price (d9 + 1) [xr (0, 0), xi a1, xi a2, xi a3, xi a4, xr (2, 0)] (I, xst c) mc9 ms9 (wPost c F.2 (fun c9 => c9.2.1 (2, 0) 0 = (Int32.ofInt F.1).toInt64) (fun I9 c9 => C I9 ∧ c9.1 = c.1)) := by
  refine xMet_of hX pl_L_price.1 (fun w hw => (pl_L_price.2.2.1 w hw).1) (by show 1 + (1 + (1 + (1 + (1 + (1 + 0))))) ≤ 7; decide) (fun V hV => ?_)
  have hE := hV.eng
  show V 0 [(0, xr (0, 0)), (1, xi a1), (2, xi a2), (3, xi a3), (4, xi a4), (5, xr (2, 0))] [] (I, xst c) 0 0
  refine x_aload (pc := 0) (j := 5) hE dL_price_0 rfl ?_
  refine x_iconst (pc := 2) hE dL_price_2 ?_
  refine x_aload_n (pc := 3) (j := 0) hE dL_price_3 rfl ?_
  refine x_iload_n (pc := 4) (j := 1) hE dL_price_4 rfl ?_
  refine x_iload_n (pc := 5) (j := 2) hE dL_price_5 rfl ?_
  refine x_iload_n (pc := 6) (j := 3) hE dL_price_6 rfl ?_
  refine x_iload (pc := 7) (j := 4) hE dL_price_7 rfl ?_
  refine x_callVH (pc := 9) (as := [xi a1, xi a2, xi a3, xi a4]) (st := [xi 0, xr (2, 0)]) hV hM dL_price_9 pl_X9_price lk_RL_81 rfl (lvm0 _ (by decide)) rfl rfl (Nat.le_refl _) (Nat.le_of_eq (Nat.zero_add _)) (Nat.le_of_eq (Nat.zero_add _)) (Nat.le_of_ble_eq_true rfl) ?_ ?_
  · rintro e h9 ⟨I9, rfl, ⟨a, ha, -⟩ | ⟨e9, he, hC, j, hj, hk⟩⟩
    · cases ha
    · cases he
      exact ⟨_, hnd_price j e hj, I9, c, rfl, by rw [hk], fun h => by omega, fun _ _ => rfl, hC, rfl⟩
  · rintro r h9 ⟨I9, rfl, ⟨v, hv, hC, hF9⟩ | ⟨e, he, -⟩⟩
    · cases hv
      cases hF9
      refine ⟨xsame_A rfl, ?_⟩
      refine x_i2l (pc := 12) hE dL_price_12 ?_
      refine x_lastore (pc := 13) (nn := 1) hE dL_price_13 rfl (lvm2 _ (by decide)) (by decide) (by decide) ?_
      refine x_goto (pc := 14) (tgt := 29) hE dL_price_14 rfl (x_iconst (pc := 29) hE dL_price_29 ?_)
      exact x_reti (pc := 30) hV dL_price_30 rfl (Nat.le_of_eq (Nat.zero_add _)) (Nat.le_of_eq (Nat.zero_add _)) ⟨_, (c.1, xuJ c.2.1 (2, 0) 0 ((Int32.ofInt v).toInt64), c.2.2), rfl, rfl, fun _ => xuJ_same (J := c.2.1) (q := (2, 0)) (k := 0) (v := (Int32.ofInt v).toInt64), fun _ _ => rfl, hC, rfl⟩
    · cases he
theorem hnd_edgeWays : ∀ (j : Nat) (e : String), ([xIOB, xIAE] : List String)[j]? = some e → xHnd m_L_edgeWays 7 e ((j : Int) + 1) := fun j e h => match j, h with | 0, h => by cases h; exact ⟨[], (⟨0, 12, 15, 21⟩ : ExceptionTableEntry), [(⟨0, 12, 19, 13⟩ : ExceptionTableEntry)], rfl, (fun _ h => by cases h), rfl, by decide, ⟨xIOB, tb4 _ (List.mem_of_getElem? (i := 38) rfl), tb4 _ (List.mem_of_getElem? (i := 49) rfl)⟩, rfl, 5, 2, Or.inr ⟨rfl, dL_edgeWays_15⟩, by decide, dL_edgeWays_17, dL_edgeWays_18⟩ | 1, h => by cases h; exact ⟨[(⟨0, 12, 15, 21⟩ : ExceptionTableEntry)], (⟨0, 12, 19, 13⟩ : ExceptionTableEntry), [], rfl, List.forall_mem_cons.mpr ⟨Or.inr ⟨by decide, xIOB, tb4 _ (List.mem_of_getElem? (i := 38) rfl), by decide +kernel⟩, (fun _ h => by cases h)⟩, rfl, by decide, ⟨xIAE, tb3 _ (List.mem_of_getElem? (i := 132) rfl), tb3 _ (List.mem_of_getElem? (i := 140) rfl)⟩, rfl, 5, 2, Or.inr ⟨rfl, dL_edgeWays_19⟩, by decide, dL_edgeWays_21, dL_edgeWays_22⟩ | j + 2, h => by simp at h
set_option maxRecDepth 100000 in
theorem wr_edgeWays {X : xX} (hX : xBase X) {d9 mc9 ms9 : Nat} {c : xCx} {I : xIn} {a1 : Int} {a2 : Int} {a3 : Int} {F : Int × Int} {C : xIn → Prop} (hM : xRet rI X m_X9_edgeWays d9 [xr (0, 0), xi a1, xi a2, xi a3] c I mc9 ms9 (fun v I9 => C I9 ∧ (v, 0) = F) (fun e I9 => C I9 ∧ exL [xIOB, xIAE] e F.2)) : xMet X m_L_edgeWays (d9 + 1) [xr (0, 0), xi a1, xi a2, xi a3, xr (2, 0)] (I, xst c) mc9 ms9 (wPost c F.2 (fun c9 => c9.2.1 (2, 0) 0 = (Int32.ofInt F.1).toInt64) (fun I9 c9 => C I9 ∧ c9.1 = c.1)) := by
  refine xMet_of hX pl_L_edgeWays.1 (fun w hw => (pl_L_edgeWays.2.2.1 w hw).1) (by show 1 + (1 + (1 + (1 + (1 + 0)))) ≤ 6; decide) (fun V hV => ?_)
  have hE := hV.eng
  show V 0 [(0, xr (0, 0)), (1, xi a1), (2, xi a2), (3, xi a3), (4, xr (2, 0))] [] (I, xst c) 0 0
  refine x_aload (pc := 0) (j := 4) hE dL_edgeWays_0 rfl ?_
  refine x_iconst (pc := 2) hE dL_edgeWays_2 ?_
  refine x_aload_n (pc := 3) (j := 0) hE dL_edgeWays_3 rfl ?_
  refine x_iload_n (pc := 4) (j := 1) hE dL_edgeWays_4 rfl ?_
  refine x_iload_n (pc := 5) (j := 2) hE dL_edgeWays_5 rfl ?_
  refine x_iload_n (pc := 6) (j := 3) hE dL_edgeWays_6 rfl ?_
  refine x_callVH (pc := 7) (as := [xi a1, xi a2, xi a3]) (st := [xi 0, xr (2, 0)]) hV hM dL_edgeWays_7 pl_X9_edgeWays lk_RL_84 rfl (lvm0 _ (by decide)) rfl rfl (Nat.le_refl _) (Nat.le_of_eq (Nat.zero_add _)) (Nat.le_of_eq (Nat.zero_add _)) (Nat.le_of_ble_eq_true rfl) ?_ ?_
  · rintro e h9 ⟨I9, rfl, ⟨a, ha, -⟩ | ⟨e9, he, hC, j, hj, hk⟩⟩
    · cases ha
    · cases he
      exact ⟨_, hnd_edgeWays j e hj, I9, c, rfl, by rw [hk], fun h => by omega, fun _ _ => rfl, hC, rfl⟩
  · rintro r h9 ⟨I9, rfl, ⟨v, hv, hC, hF9⟩ | ⟨e, he, -⟩⟩
    · cases hv
      cases hF9
      refine ⟨xsame_A rfl, ?_⟩
      refine x_i2l (pc := 10) hE dL_edgeWays_10 ?_
      refine x_lastore (pc := 11) (nn := 1) hE dL_edgeWays_11 rfl (lvm2 _ (by decide)) (by decide) (by decide) ?_
      refine x_goto (pc := 12) (tgt := 23) hE dL_edgeWays_12 rfl (x_iconst (pc := 23) hE dL_edgeWays_23 ?_)
      exact x_reti (pc := 24) hV dL_edgeWays_24 rfl (Nat.le_of_eq (Nat.zero_add _)) (Nat.le_of_eq (Nat.zero_add _)) ⟨_, (c.1, xuJ c.2.1 (2, 0) 0 ((Int32.ofInt v).toInt64), c.2.2), rfl, rfl, fun _ => xuJ_same (J := c.2.1) (q := (2, 0)) (k := 0) (v := (Int32.ofInt v).toInt64), fun _ _ => rfl, hC, rfl⟩
    · cases he
theorem hnd_cornerWays : ∀ (j : Nat) (e : String), ([xIOB, xIAE] : List String)[j]? = some e → xHnd m_L_cornerWays 7 e ((j : Int) + 1) := fun j e h => match j, h with | 0, h => by cases h; exact ⟨[], (⟨0, 12, 15, 21⟩ : ExceptionTableEntry), [(⟨0, 12, 19, 13⟩ : ExceptionTableEntry)], rfl, (fun _ h => by cases h), rfl, by decide, ⟨xIOB, tb4 _ (List.mem_of_getElem? (i := 38) rfl), tb4 _ (List.mem_of_getElem? (i := 49) rfl)⟩, rfl, 5, 2, Or.inr ⟨rfl, dL_cornerWays_15⟩, by decide, dL_cornerWays_17, dL_cornerWays_18⟩ | 1, h => by cases h; exact ⟨[(⟨0, 12, 15, 21⟩ : ExceptionTableEntry)], (⟨0, 12, 19, 13⟩ : ExceptionTableEntry), [], rfl, List.forall_mem_cons.mpr ⟨Or.inr ⟨by decide, xIOB, tb4 _ (List.mem_of_getElem? (i := 38) rfl), by decide +kernel⟩, (fun _ h => by cases h)⟩, rfl, by decide, ⟨xIAE, tb3 _ (List.mem_of_getElem? (i := 132) rfl), tb3 _ (List.mem_of_getElem? (i := 140) rfl)⟩, rfl, 5, 2, Or.inr ⟨rfl, dL_cornerWays_19⟩, by decide, dL_cornerWays_21, dL_cornerWays_22⟩ | j + 2, h => by simp at h
set_option maxRecDepth 100000 in
theorem wr_cornerWays {X : xX} (hX : xBase X) {d9 mc9 ms9 : Nat} {c : xCx} {I : xIn} {a1 : Int} {a2 : Int} {a3 : Int} {F : Int × Int} {C : xIn → Prop} (hM : xRet rI X m_X9_cornerWays d9 [xr (0, 0), xi a1, xi a2, xi a3] c I mc9 ms9 (fun v I9 => C I9 ∧ (v, 0) = F) (fun e I9 => C I9 ∧ exL [xIOB, xIAE] e F.2)) : xMet X m_L_cornerWays (d9 + 1) [xr (0, 0), xi a1, xi a2, xi a3, xr (2, 0)] (I, xst c) mc9 ms9 (wPost c F.2 (fun c9 => c9.2.1 (2, 0) 0 = (Int32.ofInt F.1).toInt64) (fun I9 c9 => C I9 ∧ c9.1 = c.1)) := by
  refine xMet_of hX pl_L_cornerWays.1 (fun w hw => (pl_L_cornerWays.2.2.1 w hw).1) (by show 1 + (1 + (1 + (1 + (1 + 0)))) ≤ 6; decide) (fun V hV => ?_)
  have hE := hV.eng
  show V 0 [(0, xr (0, 0)), (1, xi a1), (2, xi a2), (3, xi a3), (4, xr (2, 0))] [] (I, xst c) 0 0
  refine x_aload (pc := 0) (j := 4) hE dL_cornerWays_0 rfl ?_
  refine x_iconst (pc := 2) hE dL_cornerWays_2 ?_
  refine x_aload_n (pc := 3) (j := 0) hE dL_cornerWays_3 rfl ?_
  refine x_iload_n (pc := 4) (j := 1) hE dL_cornerWays_4 rfl ?_
  refine x_iload_n (pc := 5) (j := 2) hE dL_cornerWays_5 rfl ?_
  refine x_iload_n (pc := 6) (j := 3) hE dL_cornerWays_6 rfl ?_
  refine x_callVH (pc := 7) (as := [xi a1, xi a2, xi a3]) (st := [xi 0, xr (2, 0)]) hV hM dL_cornerWays_7 pl_X9_cornerWays lk_RL_87 rfl (lvm0 _ (by decide)) rfl rfl (Nat.le_refl _) (Nat.le_of_eq (Nat.zero_add _)) (Nat.le_of_eq (Nat.zero_add _)) (Nat.le_of_ble_eq_true rfl) ?_ ?_
  · rintro e h9 ⟨I9, rfl, ⟨a, ha, -⟩ | ⟨e9, he, hC, j, hj, hk⟩⟩
    · cases ha
    · cases he
      exact ⟨_, hnd_cornerWays j e hj, I9, c, rfl, by rw [hk], fun h => by omega, fun _ _ => rfl, hC, rfl⟩
  · rintro r h9 ⟨I9, rfl, ⟨v, hv, hC, hF9⟩ | ⟨e, he, -⟩⟩
    · cases hv
      cases hF9
      refine ⟨xsame_A rfl, ?_⟩
      refine x_i2l (pc := 10) hE dL_cornerWays_10 ?_
      refine x_lastore (pc := 11) (nn := 1) hE dL_cornerWays_11 rfl (lvm2 _ (by decide)) (by decide) (by decide) ?_
      refine x_goto (pc := 12) (tgt := 23) hE dL_cornerWays_12 rfl (x_iconst (pc := 23) hE dL_cornerWays_23 ?_)
      exact x_reti (pc := 24) hV dL_cornerWays_24 rfl (Nat.le_of_eq (Nat.zero_add _)) (Nat.le_of_eq (Nat.zero_add _)) ⟨_, (c.1, xuJ c.2.1 (2, 0) 0 ((Int32.ofInt v).toInt64), c.2.2), rfl, rfl, fun _ => xuJ_same (J := c.2.1) (q := (2, 0)) (k := 0) (v := (Int32.ofInt v).toInt64), fun _ _ => rfl, hC, rfl⟩
    · cases he
theorem hnd_apart : ∀ (j : Nat) (e : String), ([xIOB, xIAE, xUOE] : List String)[j]? = some e → xHnd m_L_apart 7 e ((j : Int) + 1) := fun j e h => match j, h with | 0, h => by cases h; exact ⟨[], (⟨0, 12, 15, 21⟩ : ExceptionTableEntry), [(⟨0, 12, 19, 13⟩ : ExceptionTableEntry), (⟨0, 12, 23, 67⟩ : ExceptionTableEntry)], rfl, (fun _ h => by cases h), rfl, by decide, ⟨xIOB, tb4 _ (List.mem_of_getElem? (i := 38) rfl), tb4 _ (List.mem_of_getElem? (i := 49) rfl)⟩, rfl, 5, 2, Or.inr ⟨rfl, dL_apart_15⟩, by decide, dL_apart_17, dL_apart_18⟩ | 1, h => by cases h; exact ⟨[(⟨0, 12, 15, 21⟩ : ExceptionTableEntry)], (⟨0, 12, 19, 13⟩ : ExceptionTableEntry), [(⟨0, 12, 23, 67⟩ : ExceptionTableEntry)], rfl, List.forall_mem_cons.mpr ⟨Or.inr ⟨by decide, xIOB, tb4 _ (List.mem_of_getElem? (i := 38) rfl), by decide +kernel⟩, (fun _ h => by cases h)⟩, rfl, by decide, ⟨xIAE, tb3 _ (List.mem_of_getElem? (i := 132) rfl), tb3 _ (List.mem_of_getElem? (i := 140) rfl)⟩, rfl, 5, 2, Or.inr ⟨rfl, dL_apart_19⟩, by decide, dL_apart_21, dL_apart_22⟩ | 2, h => by cases h; exact ⟨[(⟨0, 12, 15, 21⟩ : ExceptionTableEntry), (⟨0, 12, 19, 13⟩ : ExceptionTableEntry)], (⟨0, 12, 23, 67⟩ : ExceptionTableEntry), [], rfl, List.forall_mem_cons.mpr ⟨Or.inr ⟨by decide, xIOB, tb4 _ (List.mem_of_getElem? (i := 38) rfl), by decide +kernel⟩, List.forall_mem_cons.mpr ⟨Or.inr ⟨by decide, xIAE, tb3 _ (List.mem_of_getElem? (i := 132) rfl), by decide +kernel⟩, (fun _ h => by cases h)⟩⟩, rfl, by decide, ⟨xUOE, tb4 _ (List.mem_of_getElem? (i := 210) rfl), tb4 _ (List.mem_of_getElem? (i := 220) rfl)⟩, rfl, 5, 2, Or.inr ⟨rfl, dL_apart_23⟩, by decide, dL_apart_25, dL_apart_26⟩ | j + 3, h => by simp at h
set_option maxRecDepth 100000 in
theorem wr_apart {X : xX} (hX : xBase X) {d9 mc9 ms9 : Nat} {c : xCx} {I : xIn} {a1 : Int} {a2 : Int} {a3 : Int} {F : Int × Int} {C : xIn → Prop} (hM : xRet rI X m_X9_apart d9 [xr (0, 0), xi a1, xi a2, xi a3] c I mc9 ms9 (fun v I9 => C I9 ∧ (v, 0) = F) (fun e I9 => C I9 ∧ exL [xIOB, xIAE, xUOE] e F.2)) : xMet X m_L_apart (d9 + 1) [xr (0, 0), xi a1, xi a2, xi a3, xr (2, 0)] (I, xst c) mc9 ms9 (wPost c F.2 (fun c9 => c9.2.1 (2, 0) 0 = (Int32.ofInt F.1).toInt64) (fun I9 c9 => C I9 ∧ c9.1 = c.1)) := by
  refine xMet_of hX pl_L_apart.1 (fun w hw => (pl_L_apart.2.2.1 w hw).1) (by show 1 + (1 + (1 + (1 + (1 + 0)))) ≤ 6; decide) (fun V hV => ?_)
  have hE := hV.eng
  show V 0 [(0, xr (0, 0)), (1, xi a1), (2, xi a2), (3, xi a3), (4, xr (2, 0))] [] (I, xst c) 0 0
  refine x_aload (pc := 0) (j := 4) hE dL_apart_0 rfl ?_
  refine x_iconst (pc := 2) hE dL_apart_2 ?_
  refine x_aload_n (pc := 3) (j := 0) hE dL_apart_3 rfl ?_
  refine x_iload_n (pc := 4) (j := 1) hE dL_apart_4 rfl ?_
  refine x_iload_n (pc := 5) (j := 2) hE dL_apart_5 rfl ?_
  refine x_iload_n (pc := 6) (j := 3) hE dL_apart_6 rfl ?_
  refine x_callVH (pc := 7) (as := [xi a1, xi a2, xi a3]) (st := [xi 0, xr (2, 0)]) hV hM dL_apart_7 pl_X9_apart lk_RL_90 rfl (lvm0 _ (by decide)) rfl rfl (Nat.le_refl _) (Nat.le_of_eq (Nat.zero_add _)) (Nat.le_of_eq (Nat.zero_add _)) (Nat.le_of_ble_eq_true rfl) ?_ ?_
  · rintro e h9 ⟨I9, rfl, ⟨a, ha, -⟩ | ⟨e9, he, hC, j, hj, hk⟩⟩
    · cases ha
    · cases he
      exact ⟨_, hnd_apart j e hj, I9, c, rfl, by rw [hk], fun h => by omega, fun _ _ => rfl, hC, rfl⟩
  · rintro r h9 ⟨I9, rfl, ⟨v, hv, hC, hF9⟩ | ⟨e, he, -⟩⟩
    · cases hv
      cases hF9
      refine ⟨xsame_A rfl, ?_⟩
      refine x_i2l (pc := 10) hE dL_apart_10 ?_
      refine x_lastore (pc := 11) (nn := 1) hE dL_apart_11 rfl (lvm2 _ (by decide)) (by decide) (by decide) ?_
      refine x_goto (pc := 12) (tgt := 27) hE dL_apart_12 rfl (x_iconst (pc := 27) hE dL_apart_27 ?_)
      exact x_reti (pc := 28) hV dL_apart_28 rfl (Nat.le_of_eq (Nat.zero_add _)) (Nat.le_of_eq (Nat.zero_add _)) ⟨_, (c.1, xuJ c.2.1 (2, 0) 0 ((Int32.ofInt v).toInt64), c.2.2), rfl, rfl, fun _ => xuJ_same (J := c.2.1) (q := (2, 0)) (k := 0) (v := (Int32.ofInt v).toInt64), fun _ _ => rfl, hC, rfl⟩
    · cases he
theorem hnd_wider : ∀ (j : Nat) (e : String), ([xIOB, xIAE, xNSE] : List String)[j]? = some e → xHnd m_L_wider 9 e ((j : Int) + 1) := fun j e h => match j, h with | 0, h => by cases h; exact ⟨[], (⟨0, 14, 17, 21⟩ : ExceptionTableEntry), [(⟨0, 14, 21, 13⟩ : ExceptionTableEntry), (⟨0, 14, 25, 41⟩ : ExceptionTableEntry)], rfl, (fun _ h => by cases h), rfl, by decide, ⟨xIOB, tb4 _ (List.mem_of_getElem? (i := 38) rfl), tb4 _ (List.mem_of_getElem? (i := 49) rfl)⟩, rfl, 6, 2, Or.inr ⟨rfl, dL_wider_17⟩, by decide, dL_wider_19, dL_wider_20⟩ | 1, h => by cases h; exact ⟨[(⟨0, 14, 17, 21⟩ : ExceptionTableEntry)], (⟨0, 14, 21, 13⟩ : ExceptionTableEntry), [(⟨0, 14, 25, 41⟩ : ExceptionTableEntry)], rfl, List.forall_mem_cons.mpr ⟨Or.inr ⟨by decide, xIOB, tb4 _ (List.mem_of_getElem? (i := 38) rfl), by decide +kernel⟩, (fun _ h => by cases h)⟩, rfl, by decide, ⟨xIAE, tb3 _ (List.mem_of_getElem? (i := 132) rfl), tb3 _ (List.mem_of_getElem? (i := 140) rfl)⟩, rfl, 6, 2, Or.inr ⟨rfl, dL_wider_21⟩, by decide, dL_wider_23, dL_wider_24⟩ | 2, h => by cases h; exact ⟨[(⟨0, 14, 17, 21⟩ : ExceptionTableEntry), (⟨0, 14, 21, 13⟩ : ExceptionTableEntry)], (⟨0, 14, 25, 41⟩ : ExceptionTableEntry), [], rfl, List.forall_mem_cons.mpr ⟨Or.inr ⟨by decide, xIOB, tb4 _ (List.mem_of_getElem? (i := 38) rfl), by decide +kernel⟩, List.forall_mem_cons.mpr ⟨Or.inr ⟨by decide, xIAE, tb3 _ (List.mem_of_getElem? (i := 132) rfl), by decide +kernel⟩, (fun _ h => by cases h)⟩⟩, rfl, by decide, ⟨xNSE, tb4 _ (List.mem_of_getElem? (i := 125) rfl), tb4 _ (List.mem_of_getElem? (i := 139) rfl)⟩, rfl, 6, 2, Or.inr ⟨rfl, dL_wider_25⟩, by decide, dL_wider_27, dL_wider_28⟩ | j + 3, h => by simp at h
set_option maxRecDepth 100000 in
theorem wr_wider {X : xX} (hX : xBase X) {d9 mc9 ms9 : Nat} {c : xCx} {I : xIn} {a1 : Int} {a2 : Int} {a3 : Int} {a4 : Int} {F : Int × Int} {C : xIn → Prop} (hM : xRet rI X m_X9_wider d9 [xr (0, 0), xi a1, xi a2, xi a3, xi a4] c I mc9 ms9 (fun v I9 => C I9 ∧ (v, 0) = F) (fun e I9 => C I9 ∧ exL [xIOB, xIAE, xNSE] e F.2)) : xMet X m_L_wider (d9 + 1) [xr (0, 0), xi a1, xi a2, xi a3, xi a4, xr (2, 0)] (I, xst c) mc9 ms9 (wPost c F.2 (fun c9 => c9.2.1 (2, 0) 0 = (Int32.ofInt F.1).toInt64) (fun I9 c9 => C I9 ∧ c9.1 = c.1)) := by
  refine xMet_of hX pl_L_wider.1 (fun w hw => (pl_L_wider.2.2.1 w hw).1) (by show 1 + (1 + (1 + (1 + (1 + (1 + 0))))) ≤ 7; decide) (fun V hV => ?_)
  have hE := hV.eng
  show V 0 [(0, xr (0, 0)), (1, xi a1), (2, xi a2), (3, xi a3), (4, xi a4), (5, xr (2, 0))] [] (I, xst c) 0 0
  refine x_aload (pc := 0) (j := 5) hE dL_wider_0 rfl ?_
  refine x_iconst (pc := 2) hE dL_wider_2 ?_
  refine x_aload_n (pc := 3) (j := 0) hE dL_wider_3 rfl ?_
  refine x_iload_n (pc := 4) (j := 1) hE dL_wider_4 rfl ?_
  refine x_iload_n (pc := 5) (j := 2) hE dL_wider_5 rfl ?_
  refine x_iload_n (pc := 6) (j := 3) hE dL_wider_6 rfl ?_
  refine x_iload (pc := 7) (j := 4) hE dL_wider_7 rfl ?_
  refine x_callVH (pc := 9) (as := [xi a1, xi a2, xi a3, xi a4]) (st := [xi 0, xr (2, 0)]) hV hM dL_wider_9 pl_X9_wider lk_RL_93 rfl (lvm0 _ (by decide)) rfl rfl (Nat.le_refl _) (Nat.le_of_eq (Nat.zero_add _)) (Nat.le_of_eq (Nat.zero_add _)) (Nat.le_of_ble_eq_true rfl) ?_ ?_
  · rintro e h9 ⟨I9, rfl, ⟨a, ha, -⟩ | ⟨e9, he, hC, j, hj, hk⟩⟩
    · cases ha
    · cases he
      exact ⟨_, hnd_wider j e hj, I9, c, rfl, by rw [hk], fun h => by omega, fun _ _ => rfl, hC, rfl⟩
  · rintro r h9 ⟨I9, rfl, ⟨v, hv, hC, hF9⟩ | ⟨e, he, -⟩⟩
    · cases hv
      cases hF9
      refine ⟨xsame_A rfl, ?_⟩
      refine x_i2l (pc := 12) hE dL_wider_12 ?_
      refine x_lastore (pc := 13) (nn := 1) hE dL_wider_13 rfl (lvm2 _ (by decide)) (by decide) (by decide) ?_
      refine x_goto (pc := 14) (tgt := 29) hE dL_wider_14 rfl (x_iconst (pc := 29) hE dL_wider_29 ?_)
      exact x_reti (pc := 30) hV dL_wider_30 rfl (Nat.le_of_eq (Nat.zero_add _)) (Nat.le_of_eq (Nat.zero_add _)) ⟨_, (c.1, xuJ c.2.1 (2, 0) 0 ((Int32.ofInt v).toInt64), c.2.2), rfl, rfl, fun _ => xuJ_same (J := c.2.1) (q := (2, 0)) (k := 0) (v := (Int32.ofInt v).toInt64), fun _ _ => rfl, hC, rfl⟩
    · cases he
theorem hnd_without : ∀ (j : Nat) (e : String), ([xIOB, xIAE, xNSE] : List String)[j]? = some e → xHnd m_L_without 9 e ((j : Int) + 1) := fun j e h => match j, h with | 0, h => by cases h; exact ⟨[], (⟨0, 14, 17, 21⟩ : ExceptionTableEntry), [(⟨0, 14, 21, 13⟩ : ExceptionTableEntry), (⟨0, 14, 25, 41⟩ : ExceptionTableEntry)], rfl, (fun _ h => by cases h), rfl, by decide, ⟨xIOB, tb4 _ (List.mem_of_getElem? (i := 38) rfl), tb4 _ (List.mem_of_getElem? (i := 49) rfl)⟩, rfl, 6, 2, Or.inr ⟨rfl, dL_without_17⟩, by decide, dL_without_19, dL_without_20⟩ | 1, h => by cases h; exact ⟨[(⟨0, 14, 17, 21⟩ : ExceptionTableEntry)], (⟨0, 14, 21, 13⟩ : ExceptionTableEntry), [(⟨0, 14, 25, 41⟩ : ExceptionTableEntry)], rfl, List.forall_mem_cons.mpr ⟨Or.inr ⟨by decide, xIOB, tb4 _ (List.mem_of_getElem? (i := 38) rfl), by decide +kernel⟩, (fun _ h => by cases h)⟩, rfl, by decide, ⟨xIAE, tb3 _ (List.mem_of_getElem? (i := 132) rfl), tb3 _ (List.mem_of_getElem? (i := 140) rfl)⟩, rfl, 6, 2, Or.inr ⟨rfl, dL_without_21⟩, by decide, dL_without_23, dL_without_24⟩ | 2, h => by cases h; exact ⟨[(⟨0, 14, 17, 21⟩ : ExceptionTableEntry), (⟨0, 14, 21, 13⟩ : ExceptionTableEntry)], (⟨0, 14, 25, 41⟩ : ExceptionTableEntry), [], rfl, List.forall_mem_cons.mpr ⟨Or.inr ⟨by decide, xIOB, tb4 _ (List.mem_of_getElem? (i := 38) rfl), by decide +kernel⟩, List.forall_mem_cons.mpr ⟨Or.inr ⟨by decide, xIAE, tb3 _ (List.mem_of_getElem? (i := 132) rfl), by decide +kernel⟩, (fun _ h => by cases h)⟩⟩, rfl, by decide, ⟨xNSE, tb4 _ (List.mem_of_getElem? (i := 125) rfl), tb4 _ (List.mem_of_getElem? (i := 139) rfl)⟩, rfl, 6, 2, Or.inr ⟨rfl, dL_without_25⟩, by decide, dL_without_27, dL_without_28⟩ | j + 3, h => by simp at h
set_option maxRecDepth 100000 in
theorem wr_without {X : xX} (hX : xBase X) {d9 mc9 ms9 : Nat} {c : xCx} {I : xIn} {a1 : Int} {a2 : Int} {a3 : Int} {a4 : Int} {F : Int × Int} {C : xIn → Prop} (hM : xRet rI X m_X9_without d9 [xr (0, 0), xi a1, xi a2, xi a3, xi a4] c I mc9 ms9 (fun v I9 => C I9 ∧ (v, 0) = F) (fun e I9 => C I9 ∧ exL [xIOB, xIAE, xNSE] e F.2)) : xMet X m_L_without (d9 + 1) [xr (0, 0), xi a1, xi a2, xi a3, xi a4, xr (2, 0)] (I, xst c) mc9 ms9 (wPost c F.2 (fun c9 => c9.2.1 (2, 0) 0 = (Int32.ofInt F.1).toInt64) (fun I9 c9 => C I9 ∧ c9.1 = c.1)) := by
  refine xMet_of hX pl_L_without.1 (fun w hw => (pl_L_without.2.2.1 w hw).1) (by show 1 + (1 + (1 + (1 + (1 + (1 + 0))))) ≤ 7; decide) (fun V hV => ?_)
  have hE := hV.eng
  show V 0 [(0, xr (0, 0)), (1, xi a1), (2, xi a2), (3, xi a3), (4, xi a4), (5, xr (2, 0))] [] (I, xst c) 0 0
  refine x_aload (pc := 0) (j := 5) hE dL_without_0 rfl ?_
  refine x_iconst (pc := 2) hE dL_without_2 ?_
  refine x_aload_n (pc := 3) (j := 0) hE dL_without_3 rfl ?_
  refine x_iload_n (pc := 4) (j := 1) hE dL_without_4 rfl ?_
  refine x_iload_n (pc := 5) (j := 2) hE dL_without_5 rfl ?_
  refine x_iload_n (pc := 6) (j := 3) hE dL_without_6 rfl ?_
  refine x_iload (pc := 7) (j := 4) hE dL_without_7 rfl ?_
  refine x_callVH (pc := 9) (as := [xi a1, xi a2, xi a3, xi a4]) (st := [xi 0, xr (2, 0)]) hV hM dL_without_9 pl_X9_without lk_RL_96 rfl (lvm0 _ (by decide)) rfl rfl (Nat.le_refl _) (Nat.le_of_eq (Nat.zero_add _)) (Nat.le_of_eq (Nat.zero_add _)) (Nat.le_of_ble_eq_true rfl) ?_ ?_
  · rintro e h9 ⟨I9, rfl, ⟨a, ha, -⟩ | ⟨e9, he, hC, j, hj, hk⟩⟩
    · cases ha
    · cases he
      exact ⟨_, hnd_without j e hj, I9, c, rfl, by rw [hk], fun h => by omega, fun _ _ => rfl, hC, rfl⟩
  · rintro r h9 ⟨I9, rfl, ⟨v, hv, hC, hF9⟩ | ⟨e, he, -⟩⟩
    · cases hv
      cases hF9
      refine ⟨xsame_A rfl, ?_⟩
      refine x_i2l (pc := 12) hE dL_without_12 ?_
      refine x_lastore (pc := 13) (nn := 1) hE dL_without_13 rfl (lvm2 _ (by decide)) (by decide) (by decide) ?_
      refine x_goto (pc := 14) (tgt := 29) hE dL_without_14 rfl (x_iconst (pc := 29) hE dL_without_29 ?_)
      exact x_reti (pc := 30) hV dL_without_30 rfl (Nat.le_of_eq (Nat.zero_add _)) (Nat.le_of_eq (Nat.zero_add _)) ⟨_, (c.1, xuJ c.2.1 (2, 0) 0 ((Int32.ofInt v).toInt64), c.2.2), rfl, rfl, fun _ => xuJ_same (J := c.2.1) (q := (2, 0)) (k := 0) (v := (Int32.ofInt v).toInt64), fun _ _ => rfl, hC, rfl⟩
    · cases he
theorem hnd_holds : ∀ (j : Nat) (e : String), ([xIOB] : List String)[j]? = some e → xHnd m_L_holds 4 e ((j : Int) + 1) := fun j e h => match j, h with | 0, h => by cases h; exact ⟨[], (⟨0, 16, 19, 21⟩ : ExceptionTableEntry), [], rfl, (fun _ h => by cases h), rfl, by decide, ⟨xIOB, tb4 _ (List.mem_of_getElem? (i := 38) rfl), tb4 _ (List.mem_of_getElem? (i := 49) rfl)⟩, rfl, 3, 1, Or.inl ⟨3, rfl, rfl, dL_holds_19⟩, by decide, dL_holds_20, dL_holds_21⟩ | j + 1, h => by simp at h
set_option maxRecDepth 100000 in
theorem wr_holds {X : xX} (hX : xBase X) {d9 mc9 ms9 : Nat} {c : xCx} {I : xIn} {a1 : Int} {F : Bool × Int} {C : xIn → Prop} (hM : xRet rB X m_X9_holds d9 [xr (0, 0), xi a1] c I mc9 ms9 (fun v I9 => C I9 ∧ (v, 0) = F) (fun e I9 => C I9 ∧ exL [xIOB] e F.2)) : xMet X m_L_holds (d9 + 1) [xr (0, 0), xi a1, xr (2, 0)] (I, xst c) mc9 ms9 (wPost c F.2 (fun c9 => c9.2.1 (2, 0) 0 = blV F.1) (fun I9 c9 => C I9 ∧ c9.1 = c.1)) := by
  refine xMet_of hX pl_L_holds.1 (fun w hw => (pl_L_holds.2.2.1 w hw).1) (by show 1 + (1 + (1 + 0)) ≤ 4; decide) (fun V hV => ?_)
  have hE := hV.eng
  show V 0 [(0, xr (0, 0)), (1, xi a1), (2, xr (2, 0))] [] (I, xst c) 0 0
  refine x_aload_n (pc := 0) (j := 2) hE dL_holds_0 rfl ?_
  refine x_iconst (pc := 1) hE dL_holds_1 ?_
  refine x_aload_n (pc := 2) (j := 0) hE dL_holds_2 rfl ?_
  refine x_iload_n (pc := 3) (j := 1) hE dL_holds_3 rfl ?_
  refine x_callVH (pc := 4) (as := [xi a1]) (st := [xi 0, xr (2, 0)]) hV hM dL_holds_4 pl_X9_holds lk_RL_99 rfl (lvm0 _ (by decide)) rfl rfl (Nat.le_refl _) (Nat.le_of_eq (Nat.zero_add _)) (Nat.le_of_eq (Nat.zero_add _)) (Nat.le_of_ble_eq_true rfl) ?_ ?_
  · rintro e h9 ⟨I9, rfl, ⟨a, ha, -⟩ | ⟨e9, he, hC, j, hj, hk⟩⟩
    · cases ha
    · cases he
      exact ⟨_, hnd_holds j e hj, I9, c, rfl, by rw [hk], fun h => by omega, fun _ _ => rfl, hC, rfl⟩
  · rintro r h9 ⟨I9, rfl, ⟨v, hv, hC, hF9⟩ | ⟨e, he, -⟩⟩
    · cases hv
      cases hF9
      refine ⟨xsame_A rfl, ?_⟩
      refine x_ifb_eq (pc := 7) (tgt := 14) (b := v) hE dL_holds_7 rfl (fun hb => ?_) (fun hb => ?_)
      · subst hb
        refine x_lconst (pc := 14) hE dL_holds_14 ?_
        refine x_lastore (pc := 15) (nn := 1) hE dL_holds_15 rfl (lvm2 _ (by decide)) (by decide) (by decide) ?_
        refine x_goto (pc := 16) (tgt := 22) hE dL_holds_16 rfl (x_iconst (pc := 22) hE dL_holds_22 ?_)
        exact x_reti (pc := 23) hV dL_holds_23 rfl (Nat.le_of_eq (Nat.zero_add _)) (Nat.le_of_eq (Nat.zero_add _)) ⟨_, (c.1, xuJ c.2.1 (2, 0) 0 (blV false), c.2.2), rfl, rfl, fun _ => xuJ_same (J := c.2.1) (q := (2, 0)) (k := 0) (v := blV false), fun _ _ => rfl, hC, rfl⟩
      · subst hb
        refine x_lconst (pc := 10) hE dL_holds_10 (x_goto (pc := 11) (tgt := 15) hE dL_holds_11 rfl ?_)
        refine x_lastore (pc := 15) (nn := 1) hE dL_holds_15 rfl (lvm2 _ (by decide)) (by decide) (by decide) ?_
        refine x_goto (pc := 16) (tgt := 22) hE dL_holds_16 rfl (x_iconst (pc := 22) hE dL_holds_22 ?_)
        exact x_reti (pc := 23) hV dL_holds_23 rfl (Nat.le_of_eq (Nat.zero_add _)) (Nat.le_of_eq (Nat.zero_add _)) ⟨_, (c.1, xuJ c.2.1 (2, 0) 0 (blV true), c.2.2), rfl, rfl, fun _ => xuJ_same (J := c.2.1) (q := (2, 0)) (k := 0) (v := blV true), fun _ _ => rfl, hC, rfl⟩
    · cases he
theorem hnd_meets : ∀ (j : Nat) (e : String), ([xIOB, xNSE] : List String)[j]? = some e → xHnd m_L_meets 5 e ((j : Int) + 1) := fun j e h => match j, h with | 0, h => by cases h; exact ⟨[], (⟨0, 10, 13, 21⟩ : ExceptionTableEntry), [(⟨0, 10, 17, 41⟩ : ExceptionTableEntry)], rfl, (fun _ h => by cases h), rfl, by decide, ⟨xIOB, tb4 _ (List.mem_of_getElem? (i := 38) rfl), tb4 _ (List.mem_of_getElem? (i := 49) rfl)⟩, rfl, 4, 2, Or.inr ⟨rfl, dL_meets_13⟩, by decide, dL_meets_15, dL_meets_16⟩ | 1, h => by cases h; exact ⟨[(⟨0, 10, 13, 21⟩ : ExceptionTableEntry)], (⟨0, 10, 17, 41⟩ : ExceptionTableEntry), [], rfl, List.forall_mem_cons.mpr ⟨Or.inr ⟨by decide, xIOB, tb4 _ (List.mem_of_getElem? (i := 38) rfl), by decide +kernel⟩, (fun _ h => by cases h)⟩, rfl, by decide, ⟨xNSE, tb4 _ (List.mem_of_getElem? (i := 125) rfl), tb4 _ (List.mem_of_getElem? (i := 139) rfl)⟩, rfl, 4, 2, Or.inr ⟨rfl, dL_meets_17⟩, by decide, dL_meets_19, dL_meets_20⟩ | j + 2, h => by simp at h
set_option maxRecDepth 100000 in
theorem wr_meets {X : xX} (hX : xBase X) {d9 mc9 ms9 : Nat} {c : xCx} {I : xIn} {a1 : Int} {a2 : Int} {F : Int × Int} {C : xIn → Prop} (hM : xRet rI X m_X9_meets d9 [xr (0, 0), xi a1, xi a2] c I mc9 ms9 (fun v I9 => C I9 ∧ (v, 0) = F) (fun e I9 => C I9 ∧ exL [xIOB, xNSE] e F.2)) : xMet X m_L_meets (d9 + 1) [xr (0, 0), xi a1, xi a2, xr (2, 0)] (I, xst c) mc9 ms9 (wPost c F.2 (fun c9 => c9.2.1 (2, 0) 0 = (Int32.ofInt F.1).toInt64) (fun I9 c9 => C I9 ∧ c9.1 = c.1)) := by
  refine xMet_of hX pl_L_meets.1 (fun w hw => (pl_L_meets.2.2.1 w hw).1) (by show 1 + (1 + (1 + (1 + 0))) ≤ 5; decide) (fun V hV => ?_)
  have hE := hV.eng
  show V 0 [(0, xr (0, 0)), (1, xi a1), (2, xi a2), (3, xr (2, 0))] [] (I, xst c) 0 0
  refine x_aload_n (pc := 0) (j := 3) hE dL_meets_0 rfl ?_
  refine x_iconst (pc := 1) hE dL_meets_1 ?_
  refine x_aload_n (pc := 2) (j := 0) hE dL_meets_2 rfl ?_
  refine x_iload_n (pc := 3) (j := 1) hE dL_meets_3 rfl ?_
  refine x_iload_n (pc := 4) (j := 2) hE dL_meets_4 rfl ?_
  refine x_callVH (pc := 5) (as := [xi a1, xi a2]) (st := [xi 0, xr (2, 0)]) hV hM dL_meets_5 pl_X9_meets lk_RL_103 rfl (lvm0 _ (by decide)) rfl rfl (Nat.le_refl _) (Nat.le_of_eq (Nat.zero_add _)) (Nat.le_of_eq (Nat.zero_add _)) (Nat.le_of_ble_eq_true rfl) ?_ ?_
  · rintro e h9 ⟨I9, rfl, ⟨a, ha, -⟩ | ⟨e9, he, hC, j, hj, hk⟩⟩
    · cases ha
    · cases he
      exact ⟨_, hnd_meets j e hj, I9, c, rfl, by rw [hk], fun h => by omega, fun _ _ => rfl, hC, rfl⟩
  · rintro r h9 ⟨I9, rfl, ⟨v, hv, hC, hF9⟩ | ⟨e, he, -⟩⟩
    · cases hv
      cases hF9
      refine ⟨xsame_A rfl, ?_⟩
      refine x_i2l (pc := 8) hE dL_meets_8 ?_
      refine x_lastore (pc := 9) (nn := 1) hE dL_meets_9 rfl (lvm2 _ (by decide)) (by decide) (by decide) ?_
      refine x_goto (pc := 10) (tgt := 21) hE dL_meets_10 rfl (x_iconst (pc := 21) hE dL_meets_21 ?_)
      exact x_reti (pc := 22) hV dL_meets_22 rfl (Nat.le_of_eq (Nat.zero_add _)) (Nat.le_of_eq (Nat.zero_add _)) ⟨_, (c.1, xuJ c.2.1 (2, 0) 0 ((Int32.ofInt v).toInt64), c.2.2), rfl, rfl, fun _ => xuJ_same (J := c.2.1) (q := (2, 0)) (k := 0) (v := (Int32.ofInt v).toInt64), fun _ _ => rfl, hC, rfl⟩
    · cases he
theorem hnd_breaks : ∀ (j : Nat) (e : String), ([xIOB, xNSE] : List String)[j]? = some e → xHnd m_L_breaks 4 e ((j : Int) + 1) := fun j e h => match j, h with | 0, h => by cases h; exact ⟨[], (⟨0, 9, 12, 21⟩ : ExceptionTableEntry), [(⟨0, 9, 15, 41⟩ : ExceptionTableEntry)], rfl, (fun _ h => by cases h), rfl, by decide, ⟨xIOB, tb4 _ (List.mem_of_getElem? (i := 38) rfl), tb4 _ (List.mem_of_getElem? (i := 49) rfl)⟩, rfl, 3, 1, Or.inl ⟨3, rfl, rfl, dL_breaks_12⟩, by decide, dL_breaks_13, dL_breaks_14⟩ | 1, h => by cases h; exact ⟨[(⟨0, 9, 12, 21⟩ : ExceptionTableEntry)], (⟨0, 9, 15, 41⟩ : ExceptionTableEntry), [], rfl, List.forall_mem_cons.mpr ⟨Or.inr ⟨by decide, xIOB, tb4 _ (List.mem_of_getElem? (i := 38) rfl), by decide +kernel⟩, (fun _ h => by cases h)⟩, rfl, by decide, ⟨xNSE, tb4 _ (List.mem_of_getElem? (i := 125) rfl), tb4 _ (List.mem_of_getElem? (i := 139) rfl)⟩, rfl, 3, 1, Or.inl ⟨3, rfl, rfl, dL_breaks_15⟩, by decide, dL_breaks_16, dL_breaks_17⟩ | j + 2, h => by simp at h
set_option maxRecDepth 100000 in
theorem wr_breaks {X : xX} (hX : xBase X) {d9 mc9 ms9 : Nat} {c : xCx} {I : xIn} {a1 : Int} {F : Int × Int} {C : xIn → Prop} (hM : xRet rI X m_X9_breaks d9 [xr (0, 0), xi a1] c I mc9 ms9 (fun v I9 => C I9 ∧ (v, 0) = F) (fun e I9 => C I9 ∧ exL [xIOB, xNSE] e F.2)) : xMet X m_L_breaks (d9 + 1) [xr (0, 0), xi a1, xr (2, 0)] (I, xst c) mc9 ms9 (wPost c F.2 (fun c9 => c9.2.1 (2, 0) 0 = (Int32.ofInt F.1).toInt64) (fun I9 c9 => C I9 ∧ c9.1 = c.1)) := by
  refine xMet_of hX pl_L_breaks.1 (fun w hw => (pl_L_breaks.2.2.1 w hw).1) (by show 1 + (1 + (1 + 0)) ≤ 4; decide) (fun V hV => ?_)
  have hE := hV.eng
  show V 0 [(0, xr (0, 0)), (1, xi a1), (2, xr (2, 0))] [] (I, xst c) 0 0
  refine x_aload_n (pc := 0) (j := 2) hE dL_breaks_0 rfl ?_
  refine x_iconst (pc := 1) hE dL_breaks_1 ?_
  refine x_aload_n (pc := 2) (j := 0) hE dL_breaks_2 rfl ?_
  refine x_iload_n (pc := 3) (j := 1) hE dL_breaks_3 rfl ?_
  refine x_callVH (pc := 4) (as := [xi a1]) (st := [xi 0, xr (2, 0)]) hV hM dL_breaks_4 pl_X9_breaks lk_RL_106 rfl (lvm0 _ (by decide)) rfl rfl (Nat.le_refl _) (Nat.le_of_eq (Nat.zero_add _)) (Nat.le_of_eq (Nat.zero_add _)) (Nat.le_of_ble_eq_true rfl) ?_ ?_
  · rintro e h9 ⟨I9, rfl, ⟨a, ha, -⟩ | ⟨e9, he, hC, j, hj, hk⟩⟩
    · cases ha
    · cases he
      exact ⟨_, hnd_breaks j e hj, I9, c, rfl, by rw [hk], fun h => by omega, fun _ _ => rfl, hC, rfl⟩
  · rintro r h9 ⟨I9, rfl, ⟨v, hv, hC, hF9⟩ | ⟨e, he, -⟩⟩
    · cases hv
      cases hF9
      refine ⟨xsame_A rfl, ?_⟩
      refine x_i2l (pc := 7) hE dL_breaks_7 ?_
      refine x_lastore (pc := 8) (nn := 1) hE dL_breaks_8 rfl (lvm2 _ (by decide)) (by decide) (by decide) ?_
      refine x_goto (pc := 9) (tgt := 18) hE dL_breaks_9 rfl (x_iconst (pc := 18) hE dL_breaks_18 ?_)
      exact x_reti (pc := 19) hV dL_breaks_19 rfl (Nat.le_of_eq (Nat.zero_add _)) (Nat.le_of_eq (Nat.zero_add _)) ⟨_, (c.1, xuJ c.2.1 (2, 0) 0 ((Int32.ofInt v).toInt64), c.2.2), rfl, rfl, fun _ => xuJ_same (J := c.2.1) (q := (2, 0)) (k := 0) (v := (Int32.ofInt v).toInt64), fun _ _ => rfl, hC, rfl⟩
    · cases he
theorem hnd_parent : ∀ (j : Nat) (e : String), ([xIOB, xNSE] : List String)[j]? = some e → xHnd m_L_parent 5 e ((j : Int) + 1) := fun j e h => match j, h with | 0, h => by cases h; exact ⟨[], (⟨0, 10, 13, 21⟩ : ExceptionTableEntry), [(⟨0, 10, 17, 41⟩ : ExceptionTableEntry)], rfl, (fun _ h => by cases h), rfl, by decide, ⟨xIOB, tb4 _ (List.mem_of_getElem? (i := 38) rfl), tb4 _ (List.mem_of_getElem? (i := 49) rfl)⟩, rfl, 4, 2, Or.inr ⟨rfl, dL_parent_13⟩, by decide, dL_parent_15, dL_parent_16⟩ | 1, h => by cases h; exact ⟨[(⟨0, 10, 13, 21⟩ : ExceptionTableEntry)], (⟨0, 10, 17, 41⟩ : ExceptionTableEntry), [], rfl, List.forall_mem_cons.mpr ⟨Or.inr ⟨by decide, xIOB, tb4 _ (List.mem_of_getElem? (i := 38) rfl), by decide +kernel⟩, (fun _ h => by cases h)⟩, rfl, by decide, ⟨xNSE, tb4 _ (List.mem_of_getElem? (i := 125) rfl), tb4 _ (List.mem_of_getElem? (i := 139) rfl)⟩, rfl, 4, 2, Or.inr ⟨rfl, dL_parent_17⟩, by decide, dL_parent_19, dL_parent_20⟩ | j + 2, h => by simp at h
set_option maxRecDepth 100000 in
theorem wr_parent {X : xX} (hX : xBase X) {d9 mc9 ms9 : Nat} {c : xCx} {I : xIn} {a1 : Int} {a2 : Int} {F : Int × Int} {C : xIn → Prop} (hM : xRet rI X m_X9_parent d9 [xr (0, 0), xi a1, xi a2] c I mc9 ms9 (fun v I9 => C I9 ∧ (v, 0) = F) (fun e I9 => C I9 ∧ exL [xIOB, xNSE] e F.2)) : xMet X m_L_parent (d9 + 1) [xr (0, 0), xi a1, xi a2, xr (2, 0)] (I, xst c) mc9 ms9 (wPost c F.2 (fun c9 => c9.2.1 (2, 0) 0 = (Int32.ofInt F.1).toInt64) (fun I9 c9 => C I9 ∧ c9.1 = c.1)) := by
  refine xMet_of hX pl_L_parent.1 (fun w hw => (pl_L_parent.2.2.1 w hw).1) (by show 1 + (1 + (1 + (1 + 0))) ≤ 5; decide) (fun V hV => ?_)
  have hE := hV.eng
  show V 0 [(0, xr (0, 0)), (1, xi a1), (2, xi a2), (3, xr (2, 0))] [] (I, xst c) 0 0
  refine x_aload_n (pc := 0) (j := 3) hE dL_parent_0 rfl ?_
  refine x_iconst (pc := 1) hE dL_parent_1 ?_
  refine x_aload_n (pc := 2) (j := 0) hE dL_parent_2 rfl ?_
  refine x_iload_n (pc := 3) (j := 1) hE dL_parent_3 rfl ?_
  refine x_iload_n (pc := 4) (j := 2) hE dL_parent_4 rfl ?_
  refine x_callVH (pc := 5) (as := [xi a1, xi a2]) (st := [xi 0, xr (2, 0)]) hV hM dL_parent_5 pl_X9_parent lk_RL_109 rfl (lvm0 _ (by decide)) rfl rfl (Nat.le_refl _) (Nat.le_of_eq (Nat.zero_add _)) (Nat.le_of_eq (Nat.zero_add _)) (Nat.le_of_ble_eq_true rfl) ?_ ?_
  · rintro e h9 ⟨I9, rfl, ⟨a, ha, -⟩ | ⟨e9, he, hC, j, hj, hk⟩⟩
    · cases ha
    · cases he
      exact ⟨_, hnd_parent j e hj, I9, c, rfl, by rw [hk], fun h => by omega, fun _ _ => rfl, hC, rfl⟩
  · rintro r h9 ⟨I9, rfl, ⟨v, hv, hC, hF9⟩ | ⟨e, he, -⟩⟩
    · cases hv
      cases hF9
      refine ⟨xsame_A rfl, ?_⟩
      refine x_i2l (pc := 8) hE dL_parent_8 ?_
      refine x_lastore (pc := 9) (nn := 1) hE dL_parent_9 rfl (lvm2 _ (by decide)) (by decide) (by decide) ?_
      refine x_goto (pc := 10) (tgt := 21) hE dL_parent_10 rfl (x_iconst (pc := 21) hE dL_parent_21 ?_)
      exact x_reti (pc := 22) hV dL_parent_22 rfl (Nat.le_of_eq (Nat.zero_add _)) (Nat.le_of_eq (Nat.zero_add _)) ⟨_, (c.1, xuJ c.2.1 (2, 0) 0 ((Int32.ofInt v).toInt64), c.2.2), rfl, rfl, fun _ => xuJ_same (J := c.2.1) (q := (2, 0)) (k := 0) (v := (Int32.ofInt v).toInt64), fun _ _ => rfl, hC, rfl⟩
    · cases he
theorem hnd_between : ∀ (j : Nat) (e : String), ([xIOB, xIAE] : List String)[j]? = some e → xHnd m_L_between 7 e ((j : Int) + 1) := fun j e h => match j, h with | 0, h => by cases h; exact ⟨[], (⟨0, 12, 15, 21⟩ : ExceptionTableEntry), [(⟨0, 12, 19, 13⟩ : ExceptionTableEntry)], rfl, (fun _ h => by cases h), rfl, by decide, ⟨xIOB, tb4 _ (List.mem_of_getElem? (i := 38) rfl), tb4 _ (List.mem_of_getElem? (i := 49) rfl)⟩, rfl, 5, 2, Or.inr ⟨rfl, dL_between_15⟩, by decide, dL_between_17, dL_between_18⟩ | 1, h => by cases h; exact ⟨[(⟨0, 12, 15, 21⟩ : ExceptionTableEntry)], (⟨0, 12, 19, 13⟩ : ExceptionTableEntry), [], rfl, List.forall_mem_cons.mpr ⟨Or.inr ⟨by decide, xIOB, tb4 _ (List.mem_of_getElem? (i := 38) rfl), by decide +kernel⟩, (fun _ h => by cases h)⟩, rfl, by decide, ⟨xIAE, tb3 _ (List.mem_of_getElem? (i := 132) rfl), tb3 _ (List.mem_of_getElem? (i := 140) rfl)⟩, rfl, 5, 2, Or.inr ⟨rfl, dL_between_19⟩, by decide, dL_between_21, dL_between_22⟩ | j + 2, h => by simp at h
set_option maxRecDepth 100000 in
theorem wr_between {X : xX} (hX : xBase X) {d9 mc9 ms9 : Nat} {c : xCx} {I : xIn} {a1 : Int} {a2 : Int} {a3 : Int} {F : Int × Int} {C : xIn → Prop} (hM : xRet rI X m_X9_between d9 [xr (0, 0), xi a1, xi a2, xi a3] c I mc9 ms9 (fun v I9 => C I9 ∧ (v, 0) = F) (fun e I9 => C I9 ∧ exL [xIOB, xIAE] e F.2)) : xMet X m_L_between (d9 + 1) [xr (0, 0), xi a1, xi a2, xi a3, xr (2, 0)] (I, xst c) mc9 ms9 (wPost c F.2 (fun c9 => c9.2.1 (2, 0) 0 = (Int32.ofInt F.1).toInt64) (fun I9 c9 => C I9 ∧ c9.1 = c.1)) := by
  refine xMet_of hX pl_L_between.1 (fun w hw => (pl_L_between.2.2.1 w hw).1) (by show 1 + (1 + (1 + (1 + (1 + 0)))) ≤ 6; decide) (fun V hV => ?_)
  have hE := hV.eng
  show V 0 [(0, xr (0, 0)), (1, xi a1), (2, xi a2), (3, xi a3), (4, xr (2, 0))] [] (I, xst c) 0 0
  refine x_aload (pc := 0) (j := 4) hE dL_between_0 rfl ?_
  refine x_iconst (pc := 2) hE dL_between_2 ?_
  refine x_aload_n (pc := 3) (j := 0) hE dL_between_3 rfl ?_
  refine x_iload_n (pc := 4) (j := 1) hE dL_between_4 rfl ?_
  refine x_iload_n (pc := 5) (j := 2) hE dL_between_5 rfl ?_
  refine x_iload_n (pc := 6) (j := 3) hE dL_between_6 rfl ?_
  refine x_callVH (pc := 7) (as := [xi a1, xi a2, xi a3]) (st := [xi 0, xr (2, 0)]) hV hM dL_between_7 pl_X9_between lk_RL_112 rfl (lvm0 _ (by decide)) rfl rfl (Nat.le_refl _) (Nat.le_of_eq (Nat.zero_add _)) (Nat.le_of_eq (Nat.zero_add _)) (Nat.le_of_ble_eq_true rfl) ?_ ?_
  · rintro e h9 ⟨I9, rfl, ⟨a, ha, -⟩ | ⟨e9, he, hC, j, hj, hk⟩⟩
    · cases ha
    · cases he
      exact ⟨_, hnd_between j e hj, I9, c, rfl, by rw [hk], fun h => by omega, fun _ _ => rfl, hC, rfl⟩
  · rintro r h9 ⟨I9, rfl, ⟨v, hv, hC, hF9⟩ | ⟨e, he, -⟩⟩
    · cases hv
      cases hF9
      refine ⟨xsame_A rfl, ?_⟩
      refine x_i2l (pc := 10) hE dL_between_10 ?_
      refine x_lastore (pc := 11) (nn := 1) hE dL_between_11 rfl (lvm2 _ (by decide)) (by decide) (by decide) ?_
      refine x_goto (pc := 12) (tgt := 23) hE dL_between_12 rfl (x_iconst (pc := 23) hE dL_between_23 ?_)
      exact x_reti (pc := 24) hV dL_between_24 rfl (Nat.le_of_eq (Nat.zero_add _)) (Nat.le_of_eq (Nat.zero_add _)) ⟨_, (c.1, xuJ c.2.1 (2, 0) 0 ((Int32.ofInt v).toInt64), c.2.2), rfl, rfl, fun _ => xuJ_same (J := c.2.1) (q := (2, 0)) (k := 0) (v := (Int32.ofInt v).toInt64), fun _ _ => rfl, hC, rfl⟩
    · cases he
theorem hnd_inSteps : ∀ (j : Nat) (e : String), ([xIOB, xIAE] : List String)[j]? = some e → xHnd m_L_inSteps 9 e ((j : Int) + 1) := fun j e h => match j, h with | 0, h => by cases h; exact ⟨[], (⟨0, 14, 17, 21⟩ : ExceptionTableEntry), [(⟨0, 14, 21, 13⟩ : ExceptionTableEntry)], rfl, (fun _ h => by cases h), rfl, by decide, ⟨xIOB, tb4 _ (List.mem_of_getElem? (i := 38) rfl), tb4 _ (List.mem_of_getElem? (i := 49) rfl)⟩, rfl, 6, 2, Or.inr ⟨rfl, dL_inSteps_17⟩, by decide, dL_inSteps_19, dL_inSteps_20⟩ | 1, h => by cases h; exact ⟨[(⟨0, 14, 17, 21⟩ : ExceptionTableEntry)], (⟨0, 14, 21, 13⟩ : ExceptionTableEntry), [], rfl, List.forall_mem_cons.mpr ⟨Or.inr ⟨by decide, xIOB, tb4 _ (List.mem_of_getElem? (i := 38) rfl), by decide +kernel⟩, (fun _ h => by cases h)⟩, rfl, by decide, ⟨xIAE, tb3 _ (List.mem_of_getElem? (i := 132) rfl), tb3 _ (List.mem_of_getElem? (i := 140) rfl)⟩, rfl, 6, 2, Or.inr ⟨rfl, dL_inSteps_21⟩, by decide, dL_inSteps_23, dL_inSteps_24⟩ | j + 2, h => by simp at h
set_option maxRecDepth 100000 in
theorem wr_inSteps {X : xX} (hX : xBase X) {d9 mc9 ms9 : Nat} {c : xCx} {I : xIn} {a1 : Int} {a2 : Int} {a3 : Int} {a4 : Int} {F : Int × Int} {C : xIn → Prop} (hM : xRet rI X m_X9_inSteps d9 [xr (0, 0), xi a1, xi a2, xi a3, xi a4] c I mc9 ms9 (fun v I9 => C I9 ∧ (v, 0) = F) (fun e I9 => C I9 ∧ exL [xIOB, xIAE] e F.2)) : xMet X m_L_inSteps (d9 + 1) [xr (0, 0), xi a1, xi a2, xi a3, xi a4, xr (2, 0)] (I, xst c) mc9 ms9 (wPost c F.2 (fun c9 => c9.2.1 (2, 0) 0 = (Int32.ofInt F.1).toInt64) (fun I9 c9 => C I9 ∧ c9.1 = c.1)) := by
  refine xMet_of hX pl_L_inSteps.1 (fun w hw => (pl_L_inSteps.2.2.1 w hw).1) (by show 1 + (1 + (1 + (1 + (1 + (1 + 0))))) ≤ 7; decide) (fun V hV => ?_)
  have hE := hV.eng
  show V 0 [(0, xr (0, 0)), (1, xi a1), (2, xi a2), (3, xi a3), (4, xi a4), (5, xr (2, 0))] [] (I, xst c) 0 0
  refine x_aload (pc := 0) (j := 5) hE dL_inSteps_0 rfl ?_
  refine x_iconst (pc := 2) hE dL_inSteps_2 ?_
  refine x_aload_n (pc := 3) (j := 0) hE dL_inSteps_3 rfl ?_
  refine x_iload_n (pc := 4) (j := 1) hE dL_inSteps_4 rfl ?_
  refine x_iload_n (pc := 5) (j := 2) hE dL_inSteps_5 rfl ?_
  refine x_iload_n (pc := 6) (j := 3) hE dL_inSteps_6 rfl ?_
  refine x_iload (pc := 7) (j := 4) hE dL_inSteps_7 rfl ?_
  refine x_callVH (pc := 9) (as := [xi a1, xi a2, xi a3, xi a4]) (st := [xi 0, xr (2, 0)]) hV hM dL_inSteps_9 pl_X9_inSteps lk_RL_115 rfl (lvm0 _ (by decide)) rfl rfl (Nat.le_refl _) (Nat.le_of_eq (Nat.zero_add _)) (Nat.le_of_eq (Nat.zero_add _)) (Nat.le_of_ble_eq_true rfl) ?_ ?_
  · rintro e h9 ⟨I9, rfl, ⟨a, ha, -⟩ | ⟨e9, he, hC, j, hj, hk⟩⟩
    · cases ha
    · cases he
      exact ⟨_, hnd_inSteps j e hj, I9, c, rfl, by rw [hk], fun h => by omega, fun _ _ => rfl, hC, rfl⟩
  · rintro r h9 ⟨I9, rfl, ⟨v, hv, hC, hF9⟩ | ⟨e, he, -⟩⟩
    · cases hv
      cases hF9
      refine ⟨xsame_A rfl, ?_⟩
      refine x_i2l (pc := 12) hE dL_inSteps_12 ?_
      refine x_lastore (pc := 13) (nn := 1) hE dL_inSteps_13 rfl (lvm2 _ (by decide)) (by decide) (by decide) ?_
      refine x_goto (pc := 14) (tgt := 25) hE dL_inSteps_14 rfl (x_iconst (pc := 25) hE dL_inSteps_25 ?_)
      exact x_reti (pc := 26) hV dL_inSteps_26 rfl (Nat.le_of_eq (Nat.zero_add _)) (Nat.le_of_eq (Nat.zero_add _)) ⟨_, (c.1, xuJ c.2.1 (2, 0) 0 ((Int32.ofInt v).toInt64), c.2.2), rfl, rfl, fun _ => xuJ_same (J := c.2.1) (q := (2, 0)) (k := 0) (v := (Int32.ofInt v).toInt64), fun _ _ => rfl, hC, rfl⟩
    · cases he
theorem hnd_likes : ∀ (j : Nat) (e : String), ([xIOB, xIAE] : List String)[j]? = some e → xHnd m_L_likes 5 e ((j : Int) + 1) := fun j e h => match j, h with | 0, h => by cases h; exact ⟨[], (⟨0, 10, 13, 21⟩ : ExceptionTableEntry), [(⟨0, 10, 17, 13⟩ : ExceptionTableEntry)], rfl, (fun _ h => by cases h), rfl, by decide, ⟨xIOB, tb4 _ (List.mem_of_getElem? (i := 38) rfl), tb4 _ (List.mem_of_getElem? (i := 49) rfl)⟩, rfl, 4, 2, Or.inr ⟨rfl, dL_likes_13⟩, by decide, dL_likes_15, dL_likes_16⟩ | 1, h => by cases h; exact ⟨[(⟨0, 10, 13, 21⟩ : ExceptionTableEntry)], (⟨0, 10, 17, 13⟩ : ExceptionTableEntry), [], rfl, List.forall_mem_cons.mpr ⟨Or.inr ⟨by decide, xIOB, tb4 _ (List.mem_of_getElem? (i := 38) rfl), by decide +kernel⟩, (fun _ h => by cases h)⟩, rfl, by decide, ⟨xIAE, tb3 _ (List.mem_of_getElem? (i := 132) rfl), tb3 _ (List.mem_of_getElem? (i := 140) rfl)⟩, rfl, 4, 2, Or.inr ⟨rfl, dL_likes_17⟩, by decide, dL_likes_19, dL_likes_20⟩ | j + 2, h => by simp at h
set_option maxRecDepth 100000 in
theorem wr_likes {X : xX} (hX : xBase X) {d9 mc9 ms9 : Nat} {c : xCx} {I : xIn} {a1 : Int} {a2 : Int} {F : Int × Int} {C : xIn → Prop} (hM : xRet rI X m_X9_likes d9 [xr (0, 0), xi a1, xi a2] c I mc9 ms9 (fun v I9 => C I9 ∧ (v, 0) = F) (fun e I9 => C I9 ∧ exL [xIOB, xIAE] e F.2)) : xMet X m_L_likes (d9 + 1) [xr (0, 0), xi a1, xi a2, xr (2, 0)] (I, xst c) mc9 ms9 (wPost c F.2 (fun c9 => c9.2.1 (2, 0) 0 = (Int32.ofInt F.1).toInt64) (fun I9 c9 => C I9 ∧ c9.1 = c.1)) := by
  refine xMet_of hX pl_L_likes.1 (fun w hw => (pl_L_likes.2.2.1 w hw).1) (by show 1 + (1 + (1 + (1 + 0))) ≤ 5; decide) (fun V hV => ?_)
  have hE := hV.eng
  show V 0 [(0, xr (0, 0)), (1, xi a1), (2, xi a2), (3, xr (2, 0))] [] (I, xst c) 0 0
  refine x_aload_n (pc := 0) (j := 3) hE dL_likes_0 rfl ?_
  refine x_iconst (pc := 1) hE dL_likes_1 ?_
  refine x_aload_n (pc := 2) (j := 0) hE dL_likes_2 rfl ?_
  refine x_iload_n (pc := 3) (j := 1) hE dL_likes_3 rfl ?_
  refine x_iload_n (pc := 4) (j := 2) hE dL_likes_4 rfl ?_
  refine x_callVH (pc := 5) (as := [xi a1, xi a2]) (st := [xi 0, xr (2, 0)]) hV hM dL_likes_5 pl_X9_likes lk_RL_118 rfl (lvm0 _ (by decide)) rfl rfl (Nat.le_refl _) (Nat.le_of_eq (Nat.zero_add _)) (Nat.le_of_eq (Nat.zero_add _)) (Nat.le_of_ble_eq_true rfl) ?_ ?_
  · rintro e h9 ⟨I9, rfl, ⟨a, ha, -⟩ | ⟨e9, he, hC, j, hj, hk⟩⟩
    · cases ha
    · cases he
      exact ⟨_, hnd_likes j e hj, I9, c, rfl, by rw [hk], fun h => by omega, fun _ _ => rfl, hC, rfl⟩
  · rintro r h9 ⟨I9, rfl, ⟨v, hv, hC, hF9⟩ | ⟨e, he, -⟩⟩
    · cases hv
      cases hF9
      refine ⟨xsame_A rfl, ?_⟩
      refine x_i2l (pc := 8) hE dL_likes_8 ?_
      refine x_lastore (pc := 9) (nn := 1) hE dL_likes_9 rfl (lvm2 _ (by decide)) (by decide) (by decide) ?_
      refine x_goto (pc := 10) (tgt := 21) hE dL_likes_10 rfl (x_iconst (pc := 21) hE dL_likes_21 ?_)
      exact x_reti (pc := 22) hV dL_likes_22 rfl (Nat.le_of_eq (Nat.zero_add _)) (Nat.le_of_eq (Nat.zero_add _)) ⟨_, (c.1, xuJ c.2.1 (2, 0) 0 ((Int32.ofInt v).toInt64), c.2.2), rfl, rfl, fun _ => xuJ_same (J := c.2.1) (q := (2, 0)) (k := 0) (v := (Int32.ofInt v).toInt64), fun _ _ => rfl, hC, rfl⟩
    · cases he
theorem hnd_pairOf : ∀ (j : Nat) (e : String), ([xIOB, xNSE] : List String)[j]? = some e → xHnd m_L_pairOf 4 e ((j : Int) + 1) := fun j e h => match j, h with | 0, h => by cases h; exact ⟨[], (⟨0, 9, 12, 21⟩ : ExceptionTableEntry), [(⟨0, 9, 15, 41⟩ : ExceptionTableEntry)], rfl, (fun _ h => by cases h), rfl, by decide, ⟨xIOB, tb4 _ (List.mem_of_getElem? (i := 38) rfl), tb4 _ (List.mem_of_getElem? (i := 49) rfl)⟩, rfl, 3, 1, Or.inl ⟨3, rfl, rfl, dL_pairOf_12⟩, by decide, dL_pairOf_13, dL_pairOf_14⟩ | 1, h => by cases h; exact ⟨[(⟨0, 9, 12, 21⟩ : ExceptionTableEntry)], (⟨0, 9, 15, 41⟩ : ExceptionTableEntry), [], rfl, List.forall_mem_cons.mpr ⟨Or.inr ⟨by decide, xIOB, tb4 _ (List.mem_of_getElem? (i := 38) rfl), by decide +kernel⟩, (fun _ h => by cases h)⟩, rfl, by decide, ⟨xNSE, tb4 _ (List.mem_of_getElem? (i := 125) rfl), tb4 _ (List.mem_of_getElem? (i := 139) rfl)⟩, rfl, 3, 1, Or.inl ⟨3, rfl, rfl, dL_pairOf_15⟩, by decide, dL_pairOf_16, dL_pairOf_17⟩ | j + 2, h => by simp at h
set_option maxRecDepth 100000 in
theorem wr_pairOf {X : xX} (hX : xBase X) {d9 mc9 ms9 : Nat} {c : xCx} {I : xIn} {a1 : Int} {F : Int × Int} {C : xIn → Prop} (hM : xRet rI X m_X9_pairOf d9 [xr (0, 0), xi a1] c I mc9 ms9 (fun v I9 => C I9 ∧ (v, 0) = F) (fun e I9 => C I9 ∧ exL [xIOB, xNSE] e F.2)) : xMet X m_L_pairOf (d9 + 1) [xr (0, 0), xi a1, xr (2, 0)] (I, xst c) mc9 ms9 (wPost c F.2 (fun c9 => c9.2.1 (2, 0) 0 = (Int32.ofInt F.1).toInt64) (fun I9 c9 => C I9 ∧ c9.1 = c.1)) := by
  refine xMet_of hX pl_L_pairOf.1 (fun w hw => (pl_L_pairOf.2.2.1 w hw).1) (by show 1 + (1 + (1 + 0)) ≤ 4; decide) (fun V hV => ?_)
  have hE := hV.eng
  show V 0 [(0, xr (0, 0)), (1, xi a1), (2, xr (2, 0))] [] (I, xst c) 0 0
  refine x_aload_n (pc := 0) (j := 2) hE dL_pairOf_0 rfl ?_
  refine x_iconst (pc := 1) hE dL_pairOf_1 ?_
  refine x_aload_n (pc := 2) (j := 0) hE dL_pairOf_2 rfl ?_
  refine x_iload_n (pc := 3) (j := 1) hE dL_pairOf_3 rfl ?_
  refine x_callVH (pc := 4) (as := [xi a1]) (st := [xi 0, xr (2, 0)]) hV hM dL_pairOf_4 pl_X9_pairOf lk_RL_121 rfl (lvm0 _ (by decide)) rfl rfl (Nat.le_refl _) (Nat.le_of_eq (Nat.zero_add _)) (Nat.le_of_eq (Nat.zero_add _)) (Nat.le_of_ble_eq_true rfl) ?_ ?_
  · rintro e h9 ⟨I9, rfl, ⟨a, ha, -⟩ | ⟨e9, he, hC, j, hj, hk⟩⟩
    · cases ha
    · cases he
      exact ⟨_, hnd_pairOf j e hj, I9, c, rfl, by rw [hk], fun h => by omega, fun _ _ => rfl, hC, rfl⟩
  · rintro r h9 ⟨I9, rfl, ⟨v, hv, hC, hF9⟩ | ⟨e, he, -⟩⟩
    · cases hv
      cases hF9
      refine ⟨xsame_A rfl, ?_⟩
      refine x_i2l (pc := 7) hE dL_pairOf_7 ?_
      refine x_lastore (pc := 8) (nn := 1) hE dL_pairOf_8 rfl (lvm2 _ (by decide)) (by decide) (by decide) ?_
      refine x_goto (pc := 9) (tgt := 18) hE dL_pairOf_9 rfl (x_iconst (pc := 18) hE dL_pairOf_18 ?_)
      exact x_reti (pc := 19) hV dL_pairOf_19 rfl (Nat.le_of_eq (Nat.zero_add _)) (Nat.le_of_eq (Nat.zero_add _)) ⟨_, (c.1, xuJ c.2.1 (2, 0) 0 ((Int32.ofInt v).toInt64), c.2.2), rfl, rfl, fun _ => xuJ_same (J := c.2.1) (q := (2, 0)) (k := 0) (v := (Int32.ofInt v).toInt64), fun _ _ => rfl, hC, rfl⟩
    · cases he
theorem hnd_crowdOfLeft : ∀ (j : Nat) (e : String), ([xNSE] : List String)[j]? = some e → xHnd m_L_crowdOfLeft 3 e ((j : Int) + 1) := fun j e h => match j, h with | 0, h => by cases h; exact ⟨[], (⟨0, 8, 11, 41⟩ : ExceptionTableEntry), [], rfl, (fun _ h => by cases h), rfl, by decide, ⟨xNSE, tb4 _ (List.mem_of_getElem? (i := 125) rfl), tb4 _ (List.mem_of_getElem? (i := 139) rfl)⟩, rfl, 2, 1, Or.inl ⟨2, rfl, rfl, dL_crowdOfLeft_11⟩, by decide, dL_crowdOfLeft_12, dL_crowdOfLeft_13⟩ | j + 1, h => by simp at h
set_option maxRecDepth 100000 in
theorem wr_crowdOfLeft {X : xX} (hX : xBase X) {d9 mc9 ms9 : Nat} {c : xCx} {I : xIn}  {F : Int × Int} {C : xIn → Prop} (hM : xRet rI X m_X9_crowdOfLeft d9 [xr (0, 0)] c I mc9 ms9 (fun v I9 => C I9 ∧ (v, 0) = F) (fun e I9 => C I9 ∧ exL [xNSE] e F.2)) : xMet X m_L_crowdOfLeft (d9 + 1) [xr (0, 0), xr (2, 0)] (I, xst c) mc9 ms9 (wPost c F.2 (fun c9 => c9.2.1 (2, 0) 0 = (Int32.ofInt F.1).toInt64) (fun I9 c9 => C I9 ∧ c9.1 = c.1)) := by
  refine xMet_of hX pl_L_crowdOfLeft.1 (fun w hw => (pl_L_crowdOfLeft.2.2.1 w hw).1) (by show 1 + (1 + 0) ≤ 3; decide) (fun V hV => ?_)
  have hE := hV.eng
  show V 0 [(0, xr (0, 0)), (1, xr (2, 0))] [] (I, xst c) 0 0
  refine x_aload_n (pc := 0) (j := 1) hE dL_crowdOfLeft_0 rfl ?_
  refine x_iconst (pc := 1) hE dL_crowdOfLeft_1 ?_
  refine x_aload_n (pc := 2) (j := 0) hE dL_crowdOfLeft_2 rfl ?_
  refine x_callVH (pc := 3) (as := []) (st := [xi 0, xr (2, 0)]) hV hM dL_crowdOfLeft_3 pl_X9_crowdOfLeft lk_RL_124 rfl (lvm0 _ (by decide)) rfl rfl (Nat.le_refl _) (Nat.le_of_eq (Nat.zero_add _)) (Nat.le_of_eq (Nat.zero_add _)) (Nat.le_of_ble_eq_true rfl) ?_ ?_
  · rintro e h9 ⟨I9, rfl, ⟨a, ha, -⟩ | ⟨e9, he, hC, j, hj, hk⟩⟩
    · cases ha
    · cases he
      exact ⟨_, hnd_crowdOfLeft j e hj, I9, c, rfl, by rw [hk], fun h => by omega, fun _ _ => rfl, hC, rfl⟩
  · rintro r h9 ⟨I9, rfl, ⟨v, hv, hC, hF9⟩ | ⟨e, he, -⟩⟩
    · cases hv
      cases hF9
      refine ⟨xsame_A rfl, ?_⟩
      refine x_i2l (pc := 6) hE dL_crowdOfLeft_6 ?_
      refine x_lastore (pc := 7) (nn := 1) hE dL_crowdOfLeft_7 rfl (lvm2 _ (by decide)) (by decide) (by decide) ?_
      refine x_goto (pc := 8) (tgt := 14) hE dL_crowdOfLeft_8 rfl (x_iconst (pc := 14) hE dL_crowdOfLeft_14 ?_)
      exact x_reti (pc := 15) hV dL_crowdOfLeft_15 rfl (Nat.le_of_eq (Nat.zero_add _)) (Nat.le_of_eq (Nat.zero_add _)) ⟨_, (c.1, xuJ c.2.1 (2, 0) 0 ((Int32.ofInt v).toInt64), c.2.2), rfl, rfl, fun _ => xuJ_same (J := c.2.1) (q := (2, 0)) (k := 0) (v := (Int32.ofInt v).toInt64), fun _ _ => rfl, hC, rfl⟩
    · cases he
theorem hnd_team : ∀ (j : Nat) (e : String), ([xIAE, xISE] : List String)[j]? = some e → xHnd m_L_team 4 e ((j : Int) + 1) := fun j e h => match j, h with | 0, h => by cases h; exact ⟨[], (⟨0, 9, 12, 13⟩ : ExceptionTableEntry), [(⟨0, 9, 15, 15⟩ : ExceptionTableEntry)], rfl, (fun _ h => by cases h), rfl, by decide, ⟨xIAE, tb3 _ (List.mem_of_getElem? (i := 132) rfl), tb3 _ (List.mem_of_getElem? (i := 140) rfl)⟩, rfl, 3, 1, Or.inl ⟨3, rfl, rfl, dL_team_12⟩, by decide, dL_team_13, dL_team_14⟩ | 1, h => by cases h; exact ⟨[(⟨0, 9, 12, 13⟩ : ExceptionTableEntry)], (⟨0, 9, 15, 15⟩ : ExceptionTableEntry), [], rfl, List.forall_mem_cons.mpr ⟨Or.inr ⟨by decide, xIAE, tb3 _ (List.mem_of_getElem? (i := 132) rfl), by decide +kernel⟩, (fun _ h => by cases h)⟩, rfl, by decide, ⟨xISE, tb3 _ (List.mem_of_getElem? (i := 133) rfl), tb3 _ (List.mem_of_getElem? (i := 210) rfl)⟩, rfl, 3, 1, Or.inl ⟨3, rfl, rfl, dL_team_15⟩, by decide, dL_team_16, dL_team_17⟩ | j + 2, h => by simp at h
set_option maxRecDepth 100000 in
theorem wr_team {X : xX} (hX : xBase X) {d9 mc9 ms9 : Nat} {c : xCx} {I : xIn} {a1 : Int} {F : Int × Int} {C : xIn → Prop} (hM : xRet rI X m_X9_team d9 [xr (0, 0), xi a1] c I mc9 ms9 (fun v I9 => C I9 ∧ (v, 0) = F) (fun e I9 => C I9 ∧ exL [xIAE, xISE] e F.2)) : xMet X m_L_team (d9 + 1) [xr (0, 0), xi a1, xr (2, 0)] (I, xst c) mc9 ms9 (wPost c F.2 (fun c9 => c9.2.1 (2, 0) 0 = (Int32.ofInt F.1).toInt64) (fun I9 c9 => C I9 ∧ c9.1 = c.1)) := by
  refine xMet_of hX pl_L_team.1 (fun w hw => (pl_L_team.2.2.1 w hw).1) (by show 1 + (1 + (1 + 0)) ≤ 4; decide) (fun V hV => ?_)
  have hE := hV.eng
  show V 0 [(0, xr (0, 0)), (1, xi a1), (2, xr (2, 0))] [] (I, xst c) 0 0
  refine x_aload_n (pc := 0) (j := 2) hE dL_team_0 rfl ?_
  refine x_iconst (pc := 1) hE dL_team_1 ?_
  refine x_aload_n (pc := 2) (j := 0) hE dL_team_2 rfl ?_
  refine x_iload_n (pc := 3) (j := 1) hE dL_team_3 rfl ?_
  refine x_callVH (pc := 4) (as := [xi a1]) (st := [xi 0, xr (2, 0)]) hV hM dL_team_4 pl_X9_team lk_RL_128 rfl (lvm0 _ (by decide)) rfl rfl (Nat.le_refl _) (Nat.le_of_eq (Nat.zero_add _)) (Nat.le_of_eq (Nat.zero_add _)) (Nat.le_of_ble_eq_true rfl) ?_ ?_
  · rintro e h9 ⟨I9, rfl, ⟨a, ha, -⟩ | ⟨e9, he, hC, j, hj, hk⟩⟩
    · cases ha
    · cases he
      exact ⟨_, hnd_team j e hj, I9, c, rfl, by rw [hk], fun h => by omega, fun _ _ => rfl, hC, rfl⟩
  · rintro r h9 ⟨I9, rfl, ⟨v, hv, hC, hF9⟩ | ⟨e, he, -⟩⟩
    · cases hv
      cases hF9
      refine ⟨xsame_A rfl, ?_⟩
      refine x_i2l (pc := 7) hE dL_team_7 ?_
      refine x_lastore (pc := 8) (nn := 1) hE dL_team_8 rfl (lvm2 _ (by decide)) (by decide) (by decide) ?_
      refine x_goto (pc := 9) (tgt := 18) hE dL_team_9 rfl (x_iconst (pc := 18) hE dL_team_18 ?_)
      exact x_reti (pc := 19) hV dL_team_19 rfl (Nat.le_of_eq (Nat.zero_add _)) (Nat.le_of_eq (Nat.zero_add _)) ⟨_, (c.1, xuJ c.2.1 (2, 0) 0 ((Int32.ofInt v).toInt64), c.2.2), rfl, rfl, fun _ => xuJ_same (J := c.2.1) (q := (2, 0)) (k := 0) (v := (Int32.ofInt v).toInt64), fun _ _ => rfl, hC, rfl⟩
    · cases he
theorem hnd_games : ∀ (j : Nat) (e : String), ([xIOB, xIAE] : List String)[j]? = some e → xHnd m_L_games 7 e ((j : Int) + 1) := fun j e h => match j, h with | 0, h => by cases h; exact ⟨[], (⟨0, 12, 15, 21⟩ : ExceptionTableEntry), [(⟨0, 12, 19, 13⟩ : ExceptionTableEntry)], rfl, (fun _ h => by cases h), rfl, by decide, ⟨xIOB, tb4 _ (List.mem_of_getElem? (i := 38) rfl), tb4 _ (List.mem_of_getElem? (i := 49) rfl)⟩, rfl, 5, 2, Or.inr ⟨rfl, dL_games_15⟩, by decide, dL_games_17, dL_games_18⟩ | 1, h => by cases h; exact ⟨[(⟨0, 12, 15, 21⟩ : ExceptionTableEntry)], (⟨0, 12, 19, 13⟩ : ExceptionTableEntry), [], rfl, List.forall_mem_cons.mpr ⟨Or.inr ⟨by decide, xIOB, tb4 _ (List.mem_of_getElem? (i := 38) rfl), by decide +kernel⟩, (fun _ h => by cases h)⟩, rfl, by decide, ⟨xIAE, tb3 _ (List.mem_of_getElem? (i := 132) rfl), tb3 _ (List.mem_of_getElem? (i := 140) rfl)⟩, rfl, 5, 2, Or.inr ⟨rfl, dL_games_19⟩, by decide, dL_games_21, dL_games_22⟩ | j + 2, h => by simp at h
set_option maxRecDepth 100000 in
theorem wr_games {X : xX} (hX : xBase X) {d9 mc9 ms9 : Nat} {c : xCx} {I : xIn} {a1 : Int} {a2 : Int} {a3 : Int} {F : Int × Int} {C : xIn → Prop} (hM : xRet rI X m_X9_games d9 [xr (0, 0), xi a1, xi a2, xi a3] c I mc9 ms9 (fun v I9 => C I9 ∧ (v, 0) = F) (fun e I9 => C I9 ∧ exL [xIOB, xIAE] e F.2)) : xMet X m_L_games (d9 + 1) [xr (0, 0), xi a1, xi a2, xi a3, xr (2, 0)] (I, xst c) mc9 ms9 (wPost c F.2 (fun c9 => c9.2.1 (2, 0) 0 = (Int32.ofInt F.1).toInt64) (fun I9 c9 => C I9 ∧ c9.1 = c.1)) := by
  refine xMet_of hX pl_L_games.1 (fun w hw => (pl_L_games.2.2.1 w hw).1) (by show 1 + (1 + (1 + (1 + (1 + 0)))) ≤ 6; decide) (fun V hV => ?_)
  have hE := hV.eng
  show V 0 [(0, xr (0, 0)), (1, xi a1), (2, xi a2), (3, xi a3), (4, xr (2, 0))] [] (I, xst c) 0 0
  refine x_aload (pc := 0) (j := 4) hE dL_games_0 rfl ?_
  refine x_iconst (pc := 2) hE dL_games_2 ?_
  refine x_aload_n (pc := 3) (j := 0) hE dL_games_3 rfl ?_
  refine x_iload_n (pc := 4) (j := 1) hE dL_games_4 rfl ?_
  refine x_iload_n (pc := 5) (j := 2) hE dL_games_5 rfl ?_
  refine x_iload_n (pc := 6) (j := 3) hE dL_games_6 rfl ?_
  refine x_callVH (pc := 7) (as := [xi a1, xi a2, xi a3]) (st := [xi 0, xr (2, 0)]) hV hM dL_games_7 pl_X9_games lk_RL_131 rfl (lvm0 _ (by decide)) rfl rfl (Nat.le_refl _) (Nat.le_of_eq (Nat.zero_add _)) (Nat.le_of_eq (Nat.zero_add _)) (Nat.le_of_ble_eq_true rfl) ?_ ?_
  · rintro e h9 ⟨I9, rfl, ⟨a, ha, -⟩ | ⟨e9, he, hC, j, hj, hk⟩⟩
    · cases ha
    · cases he
      exact ⟨_, hnd_games j e hj, I9, c, rfl, by rw [hk], fun h => by omega, fun _ _ => rfl, hC, rfl⟩
  · rintro r h9 ⟨I9, rfl, ⟨v, hv, hC, hF9⟩ | ⟨e, he, -⟩⟩
    · cases hv
      cases hF9
      refine ⟨xsame_A rfl, ?_⟩
      refine x_i2l (pc := 10) hE dL_games_10 ?_
      refine x_lastore (pc := 11) (nn := 1) hE dL_games_11 rfl (lvm2 _ (by decide)) (by decide) (by decide) ?_
      refine x_goto (pc := 12) (tgt := 23) hE dL_games_12 rfl (x_iconst (pc := 23) hE dL_games_23 ?_)
      exact x_reti (pc := 24) hV dL_games_24 rfl (Nat.le_of_eq (Nat.zero_add _)) (Nat.le_of_eq (Nat.zero_add _)) ⟨_, (c.1, xuJ c.2.1 (2, 0) 0 ((Int32.ofInt v).toInt64), c.2.2), rfl, rfl, fun _ => xuJ_same (J := c.2.1) (q := (2, 0)) (k := 0) (v := (Int32.ofInt v).toInt64), fun _ _ => rfl, hC, rfl⟩
    · cases he
theorem hnd_canWin : ∀ (j : Nat) (e : String), ([xIOB] : List String)[j]? = some e → xHnd m_L_canWin 4 e ((j : Int) + 1) := fun j e h => match j, h with | 0, h => by cases h; exact ⟨[], (⟨0, 16, 19, 21⟩ : ExceptionTableEntry), [], rfl, (fun _ h => by cases h), rfl, by decide, ⟨xIOB, tb4 _ (List.mem_of_getElem? (i := 38) rfl), tb4 _ (List.mem_of_getElem? (i := 49) rfl)⟩, rfl, 3, 1, Or.inl ⟨3, rfl, rfl, dL_canWin_19⟩, by decide, dL_canWin_20, dL_canWin_21⟩ | j + 1, h => by simp at h
set_option maxRecDepth 100000 in
theorem wr_canWin {X : xX} (hX : xBase X) {d9 mc9 ms9 : Nat} {c : xCx} {I : xIn} {a1 : Int} {F : Bool × Int} {C : xIn → Prop} (hM : xRet rB X m_X9_canWin d9 [xr (0, 0), xi a1] c I mc9 ms9 (fun v I9 => C I9 ∧ (v, 0) = F) (fun e I9 => C I9 ∧ exL [xIOB] e F.2)) : xMet X m_L_canWin (d9 + 1) [xr (0, 0), xi a1, xr (2, 0)] (I, xst c) mc9 ms9 (wPost c F.2 (fun c9 => c9.2.1 (2, 0) 0 = blV F.1) (fun I9 c9 => C I9 ∧ c9.1 = c.1)) := by
  refine xMet_of hX pl_L_canWin.1 (fun w hw => (pl_L_canWin.2.2.1 w hw).1) (by show 1 + (1 + (1 + 0)) ≤ 4; decide) (fun V hV => ?_)
  have hE := hV.eng
  show V 0 [(0, xr (0, 0)), (1, xi a1), (2, xr (2, 0))] [] (I, xst c) 0 0
  refine x_aload_n (pc := 0) (j := 2) hE dL_canWin_0 rfl ?_
  refine x_iconst (pc := 1) hE dL_canWin_1 ?_
  refine x_aload_n (pc := 2) (j := 0) hE dL_canWin_2 rfl ?_
  refine x_iload_n (pc := 3) (j := 1) hE dL_canWin_3 rfl ?_
  refine x_callVH (pc := 4) (as := [xi a1]) (st := [xi 0, xr (2, 0)]) hV hM dL_canWin_4 pl_X9_canWin lk_RL_134 rfl (lvm0 _ (by decide)) rfl rfl (Nat.le_refl _) (Nat.le_of_eq (Nat.zero_add _)) (Nat.le_of_eq (Nat.zero_add _)) (Nat.le_of_ble_eq_true rfl) ?_ ?_
  · rintro e h9 ⟨I9, rfl, ⟨a, ha, -⟩ | ⟨e9, he, hC, j, hj, hk⟩⟩
    · cases ha
    · cases he
      exact ⟨_, hnd_canWin j e hj, I9, c, rfl, by rw [hk], fun h => by omega, fun _ _ => rfl, hC, rfl⟩
  · rintro r h9 ⟨I9, rfl, ⟨v, hv, hC, hF9⟩ | ⟨e, he, -⟩⟩
    · cases hv
      cases hF9
      refine ⟨xsame_A rfl, ?_⟩
      refine x_ifb_eq (pc := 7) (tgt := 14) (b := v) hE dL_canWin_7 rfl (fun hb => ?_) (fun hb => ?_)
      · subst hb
        refine x_lconst (pc := 14) hE dL_canWin_14 ?_
        refine x_lastore (pc := 15) (nn := 1) hE dL_canWin_15 rfl (lvm2 _ (by decide)) (by decide) (by decide) ?_
        refine x_goto (pc := 16) (tgt := 22) hE dL_canWin_16 rfl (x_iconst (pc := 22) hE dL_canWin_22 ?_)
        exact x_reti (pc := 23) hV dL_canWin_23 rfl (Nat.le_of_eq (Nat.zero_add _)) (Nat.le_of_eq (Nat.zero_add _)) ⟨_, (c.1, xuJ c.2.1 (2, 0) 0 (blV false), c.2.2), rfl, rfl, fun _ => xuJ_same (J := c.2.1) (q := (2, 0)) (k := 0) (v := blV false), fun _ _ => rfl, hC, rfl⟩
      · subst hb
        refine x_lconst (pc := 10) hE dL_canWin_10 (x_goto (pc := 11) (tgt := 15) hE dL_canWin_11 rfl ?_)
        refine x_lastore (pc := 15) (nn := 1) hE dL_canWin_15 rfl (lvm2 _ (by decide)) (by decide) (by decide) ?_
        refine x_goto (pc := 16) (tgt := 22) hE dL_canWin_16 rfl (x_iconst (pc := 22) hE dL_canWin_22 ?_)
        exact x_reti (pc := 23) hV dL_canWin_23 rfl (Nat.le_of_eq (Nat.zero_add _)) (Nat.le_of_eq (Nat.zero_add _)) ⟨_, (c.1, xuJ c.2.1 (2, 0) 0 (blV true), c.2.2), rfl, rfl, fun _ => xuJ_same (J := c.2.1) (q := (2, 0)) (k := 0) (v := blV true), fun _ _ => rfl, hC, rfl⟩
    · cases he
theorem hnd_against : ∀ (j : Nat) (e : String), ([xIOB, xNSE] : List String)[j]? = some e → xHnd m_L_against 4 e ((j : Int) + 1) := fun j e h => match j, h with | 0, h => by cases h; exact ⟨[], (⟨0, 9, 12, 21⟩ : ExceptionTableEntry), [(⟨0, 9, 15, 41⟩ : ExceptionTableEntry)], rfl, (fun _ h => by cases h), rfl, by decide, ⟨xIOB, tb4 _ (List.mem_of_getElem? (i := 38) rfl), tb4 _ (List.mem_of_getElem? (i := 49) rfl)⟩, rfl, 3, 1, Or.inl ⟨3, rfl, rfl, dL_against_12⟩, by decide, dL_against_13, dL_against_14⟩ | 1, h => by cases h; exact ⟨[(⟨0, 9, 12, 21⟩ : ExceptionTableEntry)], (⟨0, 9, 15, 41⟩ : ExceptionTableEntry), [], rfl, List.forall_mem_cons.mpr ⟨Or.inr ⟨by decide, xIOB, tb4 _ (List.mem_of_getElem? (i := 38) rfl), by decide +kernel⟩, (fun _ h => by cases h)⟩, rfl, by decide, ⟨xNSE, tb4 _ (List.mem_of_getElem? (i := 125) rfl), tb4 _ (List.mem_of_getElem? (i := 139) rfl)⟩, rfl, 3, 1, Or.inl ⟨3, rfl, rfl, dL_against_15⟩, by decide, dL_against_16, dL_against_17⟩ | j + 2, h => by simp at h
set_option maxRecDepth 100000 in
theorem wr_against {X : xX} (hX : xBase X) {d9 mc9 ms9 : Nat} {c : xCx} {I : xIn} {a1 : Int} {F : Int × Int} {C : xIn → Prop} (hM : xRet rI X m_X9_against d9 [xr (0, 0), xi a1] c I mc9 ms9 (fun v I9 => C I9 ∧ (v, 0) = F) (fun e I9 => C I9 ∧ exL [xIOB, xNSE] e F.2)) : xMet X m_L_against (d9 + 1) [xr (0, 0), xi a1, xr (2, 0)] (I, xst c) mc9 ms9 (wPost c F.2 (fun c9 => c9.2.1 (2, 0) 0 = (Int32.ofInt F.1).toInt64) (fun I9 c9 => C I9 ∧ c9.1 = c.1)) := by
  refine xMet_of hX pl_L_against.1 (fun w hw => (pl_L_against.2.2.1 w hw).1) (by show 1 + (1 + (1 + 0)) ≤ 4; decide) (fun V hV => ?_)
  have hE := hV.eng
  show V 0 [(0, xr (0, 0)), (1, xi a1), (2, xr (2, 0))] [] (I, xst c) 0 0
  refine x_aload_n (pc := 0) (j := 2) hE dL_against_0 rfl ?_
  refine x_iconst (pc := 1) hE dL_against_1 ?_
  refine x_aload_n (pc := 2) (j := 0) hE dL_against_2 rfl ?_
  refine x_iload_n (pc := 3) (j := 1) hE dL_against_3 rfl ?_
  refine x_callVH (pc := 4) (as := [xi a1]) (st := [xi 0, xr (2, 0)]) hV hM dL_against_4 pl_X9_against lk_RL_137 rfl (lvm0 _ (by decide)) rfl rfl (Nat.le_refl _) (Nat.le_of_eq (Nat.zero_add _)) (Nat.le_of_eq (Nat.zero_add _)) (Nat.le_of_ble_eq_true rfl) ?_ ?_
  · rintro e h9 ⟨I9, rfl, ⟨a, ha, -⟩ | ⟨e9, he, hC, j, hj, hk⟩⟩
    · cases ha
    · cases he
      exact ⟨_, hnd_against j e hj, I9, c, rfl, by rw [hk], fun h => by omega, fun _ _ => rfl, hC, rfl⟩
  · rintro r h9 ⟨I9, rfl, ⟨v, hv, hC, hF9⟩ | ⟨e, he, -⟩⟩
    · cases hv
      cases hF9
      refine ⟨xsame_A rfl, ?_⟩
      refine x_i2l (pc := 7) hE dL_against_7 ?_
      refine x_lastore (pc := 8) (nn := 1) hE dL_against_8 rfl (lvm2 _ (by decide)) (by decide) (by decide) ?_
      refine x_goto (pc := 9) (tgt := 18) hE dL_against_9 rfl (x_iconst (pc := 18) hE dL_against_18 ?_)
      exact x_reti (pc := 19) hV dL_against_19 rfl (Nat.le_of_eq (Nat.zero_add _)) (Nat.le_of_eq (Nat.zero_add _)) ⟨_, (c.1, xuJ c.2.1 (2, 0) 0 ((Int32.ofInt v).toInt64), c.2.2), rfl, rfl, fun _ => xuJ_same (J := c.2.1) (q := (2, 0)) (k := 0) (v := (Int32.ofInt v).toInt64), fun _ _ => rfl, hC, rfl⟩
    · cases he
theorem hnd_table : ∀ (j : Nat) (e : String), ([xIAE] : List String)[j]? = some e → xHnd m_L_table 5 e ((j : Int) + 1) := fun j e h => match j, h with | 0, h => by cases h; exact ⟨[], (⟨0, 10, 13, 13⟩ : ExceptionTableEntry), [], rfl, (fun _ h => by cases h), rfl, by decide, ⟨xIAE, tb3 _ (List.mem_of_getElem? (i := 132) rfl), tb3 _ (List.mem_of_getElem? (i := 140) rfl)⟩, rfl, 4, 2, Or.inr ⟨rfl, dL_table_13⟩, by decide, dL_table_15, dL_table_16⟩ | j + 1, h => by simp at h
set_option maxRecDepth 100000 in
theorem wr_table {X : xX} (hX : xBase X) {d9 mc9 ms9 : Nat} {c : xCx} {I : xIn} {a1 : Int} {a2 : Int} {F : Int × Int} {C : xIn → Prop} (hM : xRet rI X m_X9_table d9 [xr (0, 0), xi a1, xi a2] c I mc9 ms9 (fun v I9 => C I9 ∧ (v, 0) = F) (fun e I9 => C I9 ∧ exL [xIAE] e F.2)) : xMet X m_L_table (d9 + 1) [xr (0, 0), xi a1, xi a2, xr (2, 0)] (I, xst c) mc9 ms9 (wPost c F.2 (fun c9 => c9.2.1 (2, 0) 0 = (Int32.ofInt F.1).toInt64) (fun I9 c9 => C I9 ∧ c9.1 = c.1)) := by
  refine xMet_of hX pl_L_table.1 (fun w hw => (pl_L_table.2.2.1 w hw).1) (by show 1 + (1 + (1 + (1 + 0))) ≤ 5; decide) (fun V hV => ?_)
  have hE := hV.eng
  show V 0 [(0, xr (0, 0)), (1, xi a1), (2, xi a2), (3, xr (2, 0))] [] (I, xst c) 0 0
  refine x_aload_n (pc := 0) (j := 3) hE dL_table_0 rfl ?_
  refine x_iconst (pc := 1) hE dL_table_1 ?_
  refine x_aload_n (pc := 2) (j := 0) hE dL_table_2 rfl ?_
  refine x_iload_n (pc := 3) (j := 1) hE dL_table_3 rfl ?_
  refine x_iload_n (pc := 4) (j := 2) hE dL_table_4 rfl ?_
  refine x_callVH (pc := 5) (as := [xi a1, xi a2]) (st := [xi 0, xr (2, 0)]) hV hM dL_table_5 pl_X9_table lk_RL_140 rfl (lvm0 _ (by decide)) rfl rfl (Nat.le_refl _) (Nat.le_of_eq (Nat.zero_add _)) (Nat.le_of_eq (Nat.zero_add _)) (Nat.le_of_ble_eq_true rfl) ?_ ?_
  · rintro e h9 ⟨I9, rfl, ⟨a, ha, -⟩ | ⟨e9, he, hC, j, hj, hk⟩⟩
    · cases ha
    · cases he
      exact ⟨_, hnd_table j e hj, I9, c, rfl, by rw [hk], fun h => by omega, fun _ _ => rfl, hC, rfl⟩
  · rintro r h9 ⟨I9, rfl, ⟨v, hv, hC, hF9⟩ | ⟨e, he, -⟩⟩
    · cases hv
      cases hF9
      refine ⟨xsame_A rfl, ?_⟩
      refine x_i2l (pc := 8) hE dL_table_8 ?_
      refine x_lastore (pc := 9) (nn := 1) hE dL_table_9 rfl (lvm2 _ (by decide)) (by decide) (by decide) ?_
      refine x_goto (pc := 10) (tgt := 17) hE dL_table_10 rfl (x_iconst (pc := 17) hE dL_table_17 ?_)
      exact x_reti (pc := 18) hV dL_table_18 rfl (Nat.le_of_eq (Nat.zero_add _)) (Nat.le_of_eq (Nat.zero_add _)) ⟨_, (c.1, xuJ c.2.1 (2, 0) 0 ((Int32.ofInt v).toInt64), c.2.2), rfl, rfl, fun _ => xuJ_same (J := c.2.1) (q := (2, 0)) (k := 0) (v := (Int32.ofInt v).toInt64), fun _ _ => rfl, hC, rfl⟩
    · cases he
theorem hnd_tell : ∀ (j : Nat) (e : String), ([xIOB, xIAE] : List String)[j]? = some e → xHnd m_L_tell 7 e ((j : Int) + 1) := fun j e h => match j, h with | 0, h => by cases h; exact ⟨[], (⟨0, 12, 15, 21⟩ : ExceptionTableEntry), [(⟨0, 12, 19, 13⟩ : ExceptionTableEntry)], rfl, (fun _ h => by cases h), rfl, by decide, ⟨xIOB, tb4 _ (List.mem_of_getElem? (i := 38) rfl), tb4 _ (List.mem_of_getElem? (i := 49) rfl)⟩, rfl, 5, 2, Or.inr ⟨rfl, dL_tell_15⟩, by decide, dL_tell_17, dL_tell_18⟩ | 1, h => by cases h; exact ⟨[(⟨0, 12, 15, 21⟩ : ExceptionTableEntry)], (⟨0, 12, 19, 13⟩ : ExceptionTableEntry), [], rfl, List.forall_mem_cons.mpr ⟨Or.inr ⟨by decide, xIOB, tb4 _ (List.mem_of_getElem? (i := 38) rfl), by decide +kernel⟩, (fun _ h => by cases h)⟩, rfl, by decide, ⟨xIAE, tb3 _ (List.mem_of_getElem? (i := 132) rfl), tb3 _ (List.mem_of_getElem? (i := 140) rfl)⟩, rfl, 5, 2, Or.inr ⟨rfl, dL_tell_19⟩, by decide, dL_tell_21, dL_tell_22⟩ | j + 2, h => by simp at h
set_option maxRecDepth 100000 in
theorem wr_tell {X : xX} (hX : xBase X) {d9 mc9 ms9 : Nat} {c : xCx} {I : xIn} {a1 : Int} {a2 : Int} {a3 : Int} {F : Int × Int} {C : xIn → Prop} (hM : xRet rI X m_X9_tell d9 [xr (0, 0), xi a1, xi a2, xi a3] c I mc9 ms9 (fun v I9 => C I9 ∧ (v, 0) = F) (fun e I9 => C I9 ∧ exL [xIOB, xIAE] e F.2)) : xMet X m_L_tell (d9 + 1) [xr (0, 0), xi a1, xi a2, xi a3, xr (2, 0)] (I, xst c) mc9 ms9 (wPost c F.2 (fun c9 => c9.2.1 (2, 0) 0 = (Int32.ofInt F.1).toInt64) (fun I9 c9 => C I9 ∧ c9.1 = c.1)) := by
  refine xMet_of hX pl_L_tell.1 (fun w hw => (pl_L_tell.2.2.1 w hw).1) (by show 1 + (1 + (1 + (1 + (1 + 0)))) ≤ 6; decide) (fun V hV => ?_)
  have hE := hV.eng
  show V 0 [(0, xr (0, 0)), (1, xi a1), (2, xi a2), (3, xi a3), (4, xr (2, 0))] [] (I, xst c) 0 0
  refine x_aload (pc := 0) (j := 4) hE dL_tell_0 rfl ?_
  refine x_iconst (pc := 2) hE dL_tell_2 ?_
  refine x_aload_n (pc := 3) (j := 0) hE dL_tell_3 rfl ?_
  refine x_iload_n (pc := 4) (j := 1) hE dL_tell_4 rfl ?_
  refine x_iload_n (pc := 5) (j := 2) hE dL_tell_5 rfl ?_
  refine x_iload_n (pc := 6) (j := 3) hE dL_tell_6 rfl ?_
  refine x_callVH (pc := 7) (as := [xi a1, xi a2, xi a3]) (st := [xi 0, xr (2, 0)]) hV hM dL_tell_7 pl_X9_tell lk_RL_143 rfl (lvm0 _ (by decide)) rfl rfl (Nat.le_refl _) (Nat.le_of_eq (Nat.zero_add _)) (Nat.le_of_eq (Nat.zero_add _)) (Nat.le_of_ble_eq_true rfl) ?_ ?_
  · rintro e h9 ⟨I9, rfl, ⟨a, ha, -⟩ | ⟨e9, he, hC, j, hj, hk⟩⟩
    · cases ha
    · cases he
      exact ⟨_, hnd_tell j e hj, I9, c, rfl, by rw [hk], fun h => by omega, fun _ _ => rfl, hC, rfl⟩
  · rintro r h9 ⟨I9, rfl, ⟨v, hv, hC, hF9⟩ | ⟨e, he, -⟩⟩
    · cases hv
      cases hF9
      refine ⟨xsame_A rfl, ?_⟩
      refine x_i2l (pc := 10) hE dL_tell_10 ?_
      refine x_lastore (pc := 11) (nn := 1) hE dL_tell_11 rfl (lvm2 _ (by decide)) (by decide) (by decide) ?_
      refine x_goto (pc := 12) (tgt := 23) hE dL_tell_12 rfl (x_iconst (pc := 23) hE dL_tell_23 ?_)
      exact x_reti (pc := 24) hV dL_tell_24 rfl (Nat.le_of_eq (Nat.zero_add _)) (Nat.le_of_eq (Nat.zero_add _)) ⟨_, (c.1, xuJ c.2.1 (2, 0) 0 ((Int32.ofInt v).toInt64), c.2.2), rfl, rfl, fun _ => xuJ_same (J := c.2.1) (q := (2, 0)) (k := 0) (v := (Int32.ofInt v).toInt64), fun _ _ => rfl, hC, rfl⟩
    · cases he
theorem hnd_rounded : ∀ (j : Nat) (e : String), ([xIOB] : List String)[j]? = some e → xHnd m_L_rounded 5 e ((j : Int) + 1) := fun j e h => match j, h with | 0, h => by cases h; exact ⟨[], (⟨0, 10, 13, 21⟩ : ExceptionTableEntry), [], rfl, (fun _ h => by cases h), rfl, by decide, ⟨xIOB, tb4 _ (List.mem_of_getElem? (i := 38) rfl), tb4 _ (List.mem_of_getElem? (i := 49) rfl)⟩, rfl, 4, 2, Or.inr ⟨rfl, dL_rounded_13⟩, by decide, dL_rounded_15, dL_rounded_16⟩ | j + 1, h => by simp at h
set_option maxRecDepth 100000 in
theorem wr_rounded {X : xX} (hX : xBase X) {d9 mc9 ms9 : Nat} {c : xCx} {I : xIn} {a1 : Int} {a2 : Int} {F : Int × Int} {C : xIn → Prop} (hM : xRet rI X m_X9_rounded d9 [xr (0, 0), xi a1, xi a2] c I mc9 ms9 (fun v I9 => C I9 ∧ (v, 0) = F) (fun e I9 => C I9 ∧ exL [xIOB] e F.2)) : xMet X m_L_rounded (d9 + 1) [xr (0, 0), xi a1, xi a2, xr (2, 0)] (I, xst c) mc9 ms9 (wPost c F.2 (fun c9 => c9.2.1 (2, 0) 0 = (Int32.ofInt F.1).toInt64) (fun I9 c9 => C I9 ∧ c9.1 = c.1)) := by
  refine xMet_of hX pl_L_rounded.1 (fun w hw => (pl_L_rounded.2.2.1 w hw).1) (by show 1 + (1 + (1 + (1 + 0))) ≤ 5; decide) (fun V hV => ?_)
  have hE := hV.eng
  show V 0 [(0, xr (0, 0)), (1, xi a1), (2, xi a2), (3, xr (2, 0))] [] (I, xst c) 0 0
  refine x_aload_n (pc := 0) (j := 3) hE dL_rounded_0 rfl ?_
  refine x_iconst (pc := 1) hE dL_rounded_1 ?_
  refine x_aload_n (pc := 2) (j := 0) hE dL_rounded_2 rfl ?_
  refine x_iload_n (pc := 3) (j := 1) hE dL_rounded_3 rfl ?_
  refine x_iload_n (pc := 4) (j := 2) hE dL_rounded_4 rfl ?_
  refine x_callVH (pc := 5) (as := [xi a1, xi a2]) (st := [xi 0, xr (2, 0)]) hV hM dL_rounded_5 pl_X9_rounded lk_RL_146 rfl (lvm0 _ (by decide)) rfl rfl (Nat.le_refl _) (Nat.le_of_eq (Nat.zero_add _)) (Nat.le_of_eq (Nat.zero_add _)) (Nat.le_of_ble_eq_true rfl) ?_ ?_
  · rintro e h9 ⟨I9, rfl, ⟨a, ha, -⟩ | ⟨e9, he, hC, j, hj, hk⟩⟩
    · cases ha
    · cases he
      exact ⟨_, hnd_rounded j e hj, I9, c, rfl, by rw [hk], fun h => by omega, fun _ _ => rfl, hC, rfl⟩
  · rintro r h9 ⟨I9, rfl, ⟨v, hv, hC, hF9⟩ | ⟨e, he, -⟩⟩
    · cases hv
      cases hF9
      refine ⟨xsame_A rfl, ?_⟩
      refine x_i2l (pc := 8) hE dL_rounded_8 ?_
      refine x_lastore (pc := 9) (nn := 1) hE dL_rounded_9 rfl (lvm2 _ (by decide)) (by decide) (by decide) ?_
      refine x_goto (pc := 10) (tgt := 17) hE dL_rounded_10 rfl (x_iconst (pc := 17) hE dL_rounded_17 ?_)
      exact x_reti (pc := 18) hV dL_rounded_18 rfl (Nat.le_of_eq (Nat.zero_add _)) (Nat.le_of_eq (Nat.zero_add _)) ⟨_, (c.1, xuJ c.2.1 (2, 0) 0 ((Int32.ofInt v).toInt64), c.2.2), rfl, rfl, fun _ => xuJ_same (J := c.2.1) (q := (2, 0)) (k := 0) (v := (Int32.ofInt v).toInt64), fun _ _ => rfl, hC, rfl⟩
    · cases he
theorem hnd_project : ∀ (j : Nat) (e : String), ([xIAE, xISE] : List String)[j]? = some e → xHnd m_L_project 5 e ((j : Int) + 1) := fun j e h => match j, h with | 0, h => by cases h; exact ⟨[], (⟨0, 10, 13, 13⟩ : ExceptionTableEntry), [(⟨0, 10, 17, 15⟩ : ExceptionTableEntry)], rfl, (fun _ h => by cases h), rfl, by decide, ⟨xIAE, tb3 _ (List.mem_of_getElem? (i := 132) rfl), tb3 _ (List.mem_of_getElem? (i := 140) rfl)⟩, rfl, 4, 2, Or.inr ⟨rfl, dL_project_13⟩, by decide, dL_project_15, dL_project_16⟩ | 1, h => by cases h; exact ⟨[(⟨0, 10, 13, 13⟩ : ExceptionTableEntry)], (⟨0, 10, 17, 15⟩ : ExceptionTableEntry), [], rfl, List.forall_mem_cons.mpr ⟨Or.inr ⟨by decide, xIAE, tb3 _ (List.mem_of_getElem? (i := 132) rfl), by decide +kernel⟩, (fun _ h => by cases h)⟩, rfl, by decide, ⟨xISE, tb3 _ (List.mem_of_getElem? (i := 133) rfl), tb3 _ (List.mem_of_getElem? (i := 210) rfl)⟩, rfl, 4, 2, Or.inr ⟨rfl, dL_project_17⟩, by decide, dL_project_19, dL_project_20⟩ | j + 2, h => by simp at h
set_option maxRecDepth 100000 in
theorem wr_project {X : xX} (hX : xBase X) {d9 mc9 ms9 : Nat} {c : xCx} {I : xIn} {a1 : Int} {a2 : Int} {F : Int × Int} {C : xIn → Prop} (hM : xRet rI X m_X9_project d9 [xr (0, 0), xi a1, xi a2] c I mc9 ms9 (fun v I9 => C I9 ∧ (v, 0) = F) (fun e I9 => C I9 ∧ exL [xIAE, xISE] e F.2)) : xMet X m_L_project (d9 + 1) [xr (0, 0), xi a1, xi a2, xr (2, 0)] (I, xst c) mc9 ms9 (wPost c F.2 (fun c9 => c9.2.1 (2, 0) 0 = (Int32.ofInt F.1).toInt64) (fun I9 c9 => C I9 ∧ c9.1 = c.1)) := by
  refine xMet_of hX pl_L_project.1 (fun w hw => (pl_L_project.2.2.1 w hw).1) (by show 1 + (1 + (1 + (1 + 0))) ≤ 5; decide) (fun V hV => ?_)
  have hE := hV.eng
  show V 0 [(0, xr (0, 0)), (1, xi a1), (2, xi a2), (3, xr (2, 0))] [] (I, xst c) 0 0
  refine x_aload_n (pc := 0) (j := 3) hE dL_project_0 rfl ?_
  refine x_iconst (pc := 1) hE dL_project_1 ?_
  refine x_aload_n (pc := 2) (j := 0) hE dL_project_2 rfl ?_
  refine x_iload_n (pc := 3) (j := 1) hE dL_project_3 rfl ?_
  refine x_iload_n (pc := 4) (j := 2) hE dL_project_4 rfl ?_
  refine x_callVH (pc := 5) (as := [xi a1, xi a2]) (st := [xi 0, xr (2, 0)]) hV hM dL_project_5 pl_X9_project lk_RL_149 rfl (lvm0 _ (by decide)) rfl rfl (Nat.le_refl _) (Nat.le_of_eq (Nat.zero_add _)) (Nat.le_of_eq (Nat.zero_add _)) (Nat.le_of_ble_eq_true rfl) ?_ ?_
  · rintro e h9 ⟨I9, rfl, ⟨a, ha, -⟩ | ⟨e9, he, hC, j, hj, hk⟩⟩
    · cases ha
    · cases he
      exact ⟨_, hnd_project j e hj, I9, c, rfl, by rw [hk], fun h => by omega, fun _ _ => rfl, hC, rfl⟩
  · rintro r h9 ⟨I9, rfl, ⟨v, hv, hC, hF9⟩ | ⟨e, he, -⟩⟩
    · cases hv
      cases hF9
      refine ⟨xsame_A rfl, ?_⟩
      refine x_i2l (pc := 8) hE dL_project_8 ?_
      refine x_lastore (pc := 9) (nn := 1) hE dL_project_9 rfl (lvm2 _ (by decide)) (by decide) (by decide) ?_
      refine x_goto (pc := 10) (tgt := 21) hE dL_project_10 rfl (x_iconst (pc := 21) hE dL_project_21 ?_)
      exact x_reti (pc := 22) hV dL_project_22 rfl (Nat.le_of_eq (Nat.zero_add _)) (Nat.le_of_eq (Nat.zero_add _)) ⟨_, (c.1, xuJ c.2.1 (2, 0) 0 ((Int32.ofInt v).toInt64), c.2.2), rfl, rfl, fun _ => xuJ_same (J := c.2.1) (q := (2, 0)) (k := 0) (v := (Int32.ofInt v).toInt64), fun _ _ => rfl, hC, rfl⟩
    · cases he
theorem hnd_toolCost : ∀ (j : Nat) (e : String), ([xIOB, xIAE] : List String)[j]? = some e → xHnd m_L_toolCost 5 e ((j : Int) + 1) := fun j e h => match j, h with | 0, h => by cases h; exact ⟨[], (⟨0, 10, 13, 21⟩ : ExceptionTableEntry), [(⟨0, 10, 17, 13⟩ : ExceptionTableEntry)], rfl, (fun _ h => by cases h), rfl, by decide, ⟨xIOB, tb4 _ (List.mem_of_getElem? (i := 38) rfl), tb4 _ (List.mem_of_getElem? (i := 49) rfl)⟩, rfl, 4, 2, Or.inr ⟨rfl, dL_toolCost_13⟩, by decide, dL_toolCost_15, dL_toolCost_16⟩ | 1, h => by cases h; exact ⟨[(⟨0, 10, 13, 21⟩ : ExceptionTableEntry)], (⟨0, 10, 17, 13⟩ : ExceptionTableEntry), [], rfl, List.forall_mem_cons.mpr ⟨Or.inr ⟨by decide, xIOB, tb4 _ (List.mem_of_getElem? (i := 38) rfl), by decide +kernel⟩, (fun _ h => by cases h)⟩, rfl, by decide, ⟨xIAE, tb3 _ (List.mem_of_getElem? (i := 132) rfl), tb3 _ (List.mem_of_getElem? (i := 140) rfl)⟩, rfl, 4, 2, Or.inr ⟨rfl, dL_toolCost_17⟩, by decide, dL_toolCost_19, dL_toolCost_20⟩ | j + 2, h => by simp at h
set_option maxRecDepth 100000 in
theorem wr_toolCost {X : xX} (hX : xBase X) {d9 mc9 ms9 : Nat} {c : xCx} {I : xIn} {a1 : Int} {a2 : Int} {F : Int × Int} {C : xIn → Prop} (hM : xRet rI X m_X9_toolCost d9 [xr (0, 0), xi a1, xi a2] c I mc9 ms9 (fun v I9 => C I9 ∧ (v, 0) = F) (fun e I9 => C I9 ∧ exL [xIOB, xIAE] e F.2)) : xMet X m_L_toolCost (d9 + 1) [xr (0, 0), xi a1, xi a2, xr (2, 0)] (I, xst c) mc9 ms9 (wPost c F.2 (fun c9 => c9.2.1 (2, 0) 0 = (Int32.ofInt F.1).toInt64) (fun I9 c9 => C I9 ∧ c9.1 = c.1)) := by
  refine xMet_of hX pl_L_toolCost.1 (fun w hw => (pl_L_toolCost.2.2.1 w hw).1) (by show 1 + (1 + (1 + (1 + 0))) ≤ 5; decide) (fun V hV => ?_)
  have hE := hV.eng
  show V 0 [(0, xr (0, 0)), (1, xi a1), (2, xi a2), (3, xr (2, 0))] [] (I, xst c) 0 0
  refine x_aload_n (pc := 0) (j := 3) hE dL_toolCost_0 rfl ?_
  refine x_iconst (pc := 1) hE dL_toolCost_1 ?_
  refine x_aload_n (pc := 2) (j := 0) hE dL_toolCost_2 rfl ?_
  refine x_iload_n (pc := 3) (j := 1) hE dL_toolCost_3 rfl ?_
  refine x_iload_n (pc := 4) (j := 2) hE dL_toolCost_4 rfl ?_
  refine x_callVH (pc := 5) (as := [xi a1, xi a2]) (st := [xi 0, xr (2, 0)]) hV hM dL_toolCost_5 pl_X9_toolCost lk_RL_152 rfl (lvm0 _ (by decide)) rfl rfl (Nat.le_refl _) (Nat.le_of_eq (Nat.zero_add _)) (Nat.le_of_eq (Nat.zero_add _)) (Nat.le_of_ble_eq_true rfl) ?_ ?_
  · rintro e h9 ⟨I9, rfl, ⟨a, ha, -⟩ | ⟨e9, he, hC, j, hj, hk⟩⟩
    · cases ha
    · cases he
      exact ⟨_, hnd_toolCost j e hj, I9, c, rfl, by rw [hk], fun h => by omega, fun _ _ => rfl, hC, rfl⟩
  · rintro r h9 ⟨I9, rfl, ⟨v, hv, hC, hF9⟩ | ⟨e, he, -⟩⟩
    · cases hv
      cases hF9
      refine ⟨xsame_A rfl, ?_⟩
      refine x_i2l (pc := 8) hE dL_toolCost_8 ?_
      refine x_lastore (pc := 9) (nn := 1) hE dL_toolCost_9 rfl (lvm2 _ (by decide)) (by decide) (by decide) ?_
      refine x_goto (pc := 10) (tgt := 21) hE dL_toolCost_10 rfl (x_iconst (pc := 21) hE dL_toolCost_21 ?_)
      exact x_reti (pc := 22) hV dL_toolCost_22 rfl (Nat.le_of_eq (Nat.zero_add _)) (Nat.le_of_eq (Nat.zero_add _)) ⟨_, (c.1, xuJ c.2.1 (2, 0) 0 ((Int32.ofInt v).toInt64), c.2.2), rfl, rfl, fun _ => xuJ_same (J := c.2.1) (q := (2, 0)) (k := 0) (v := (Int32.ofInt v).toInt64), fun _ _ => rfl, hC, rfl⟩
    · cases he
theorem hnd_checksum : ∀ (j : Nat) (e : String), ([xIOB] : List String)[j]? = some e → xHnd m_L_checksum 4 e ((j : Int) + 1) := fun j e h => match j, h with | 0, h => by cases h; exact ⟨[], (⟨0, 8, 11, 21⟩ : ExceptionTableEntry), [], rfl, (fun _ h => by cases h), rfl, by decide, ⟨xIOB, tb4 _ (List.mem_of_getElem? (i := 38) rfl), tb4 _ (List.mem_of_getElem? (i := 49) rfl)⟩, rfl, 3, 1, Or.inl ⟨3, rfl, rfl, dL_checksum_11⟩, by decide, dL_checksum_12, dL_checksum_13⟩ | j + 1, h => by simp at h
set_option maxRecDepth 100000 in
theorem wr_checksum {X : xX} (hX : xBase X) {d9 mc9 ms9 : Nat} {c : xCx} {I : xIn} {a1 : Int} {F : Int64 × Int} {C : xIn → Prop} (hM : xRet rL X m_X9_checksum d9 [xr (0, 0), xi a1] c I mc9 ms9 (fun v I9 => C I9 ∧ (v, 0) = F) (fun e I9 => C I9 ∧ exL [xIOB] e F.2)) : xMet X m_L_checksum (d9 + 1) [xr (0, 0), xi a1, xr (2, 0)] (I, xst c) mc9 ms9 (wPost c F.2 (fun c9 => c9.2.1 (2, 0) 0 = F.1) (fun I9 c9 => C I9 ∧ c9.1 = c.1)) := by
  refine xMet_of hX pl_L_checksum.1 (fun w hw => (pl_L_checksum.2.2.1 w hw).1) (by show 1 + (1 + (1 + 0)) ≤ 4; decide) (fun V hV => ?_)
  have hE := hV.eng
  show V 0 [(0, xr (0, 0)), (1, xi a1), (2, xr (2, 0))] [] (I, xst c) 0 0
  refine x_aload_n (pc := 0) (j := 2) hE dL_checksum_0 rfl ?_
  refine x_iconst (pc := 1) hE dL_checksum_1 ?_
  refine x_aload_n (pc := 2) (j := 0) hE dL_checksum_2 rfl ?_
  refine x_iload_n (pc := 3) (j := 1) hE dL_checksum_3 rfl ?_
  refine x_callVH (pc := 4) (as := [xi a1]) (st := [xi 0, xr (2, 0)]) hV hM dL_checksum_4 pl_X9_checksum lk_RL_155 rfl (lvm0 _ (by decide)) rfl rfl (Nat.le_refl _) (Nat.le_of_eq (Nat.zero_add _)) (Nat.le_of_eq (Nat.zero_add _)) (Nat.le_of_ble_eq_true rfl) ?_ ?_
  · rintro e h9 ⟨I9, rfl, ⟨a, ha, -⟩ | ⟨e9, he, hC, j, hj, hk⟩⟩
    · cases ha
    · cases he
      exact ⟨_, hnd_checksum j e hj, I9, c, rfl, by rw [hk], fun h => by omega, fun _ _ => rfl, hC, rfl⟩
  · rintro r h9 ⟨I9, rfl, ⟨v, hv, hC, hF9⟩ | ⟨e, he, -⟩⟩
    · cases hv
      cases hF9
      refine ⟨xsame_A rfl, ?_⟩
      refine x_lastore (pc := 7) (nn := 1) hE dL_checksum_7 rfl (lvm2 _ (by decide)) (by decide) (by decide) ?_
      refine x_goto (pc := 8) (tgt := 14) hE dL_checksum_8 rfl (x_iconst (pc := 14) hE dL_checksum_14 ?_)
      exact x_reti (pc := 15) hV dL_checksum_15 rfl (Nat.le_of_eq (Nat.zero_add _)) (Nat.le_of_eq (Nat.zero_add _)) ⟨_, (c.1, xuJ c.2.1 (2, 0) 0 v, c.2.2), rfl, rfl, fun _ => xuJ_same (J := c.2.1) (q := (2, 0)) (k := 0) (v := v), fun _ _ => rfl, hC, rfl⟩
    · cases he
theorem hnd_fullShare : ∀ (j : Nat) (e : String), ([xIOB, xIAE, xNSE] : List String)[j]? = some e → xHnd m_L_fullShare 7 e ((j : Int) + 1) := fun j e h => match j, h with | 0, h => by cases h; exact ⟨[], (⟨0, 12, 15, 21⟩ : ExceptionTableEntry), [(⟨0, 12, 19, 13⟩ : ExceptionTableEntry), (⟨0, 12, 23, 41⟩ : ExceptionTableEntry)], rfl, (fun _ h => by cases h), rfl, by decide, ⟨xIOB, tb4 _ (List.mem_of_getElem? (i := 38) rfl), tb4 _ (List.mem_of_getElem? (i := 49) rfl)⟩, rfl, 5, 2, Or.inr ⟨rfl, dL_fullShare_15⟩, by decide, dL_fullShare_17, dL_fullShare_18⟩ | 1, h => by cases h; exact ⟨[(⟨0, 12, 15, 21⟩ : ExceptionTableEntry)], (⟨0, 12, 19, 13⟩ : ExceptionTableEntry), [(⟨0, 12, 23, 41⟩ : ExceptionTableEntry)], rfl, List.forall_mem_cons.mpr ⟨Or.inr ⟨by decide, xIOB, tb4 _ (List.mem_of_getElem? (i := 38) rfl), by decide +kernel⟩, (fun _ h => by cases h)⟩, rfl, by decide, ⟨xIAE, tb3 _ (List.mem_of_getElem? (i := 132) rfl), tb3 _ (List.mem_of_getElem? (i := 140) rfl)⟩, rfl, 5, 2, Or.inr ⟨rfl, dL_fullShare_19⟩, by decide, dL_fullShare_21, dL_fullShare_22⟩ | 2, h => by cases h; exact ⟨[(⟨0, 12, 15, 21⟩ : ExceptionTableEntry), (⟨0, 12, 19, 13⟩ : ExceptionTableEntry)], (⟨0, 12, 23, 41⟩ : ExceptionTableEntry), [], rfl, List.forall_mem_cons.mpr ⟨Or.inr ⟨by decide, xIOB, tb4 _ (List.mem_of_getElem? (i := 38) rfl), by decide +kernel⟩, List.forall_mem_cons.mpr ⟨Or.inr ⟨by decide, xIAE, tb3 _ (List.mem_of_getElem? (i := 132) rfl), by decide +kernel⟩, (fun _ h => by cases h)⟩⟩, rfl, by decide, ⟨xNSE, tb4 _ (List.mem_of_getElem? (i := 125) rfl), tb4 _ (List.mem_of_getElem? (i := 139) rfl)⟩, rfl, 5, 2, Or.inr ⟨rfl, dL_fullShare_23⟩, by decide, dL_fullShare_25, dL_fullShare_26⟩ | j + 3, h => by simp at h
set_option maxRecDepth 100000 in
theorem wr_fullShare {X : xX} (hX : xBase X) {d9 mc9 ms9 : Nat} {c : xCx} {I : xIn} {a1 : Int} {a2 : Int} {a3 : Int} {F : UInt32 × Int} {C : xIn → Prop} (hF : F.2 = 0 → vf_n64 (FP.f2d F.1)) (hM : xRet rF X m_X9_fullShare d9 [xr (0, 0), xi a1, xi a2, xi a3] c I mc9 ms9 (fun v I9 => C I9 ∧ (v, 0) = F) (fun e I9 => C I9 ∧ exL [xIOB, xIAE, xNSE] e F.2)) : xMet X m_L_fullShare (d9 + 1) [xr (0, 0), xi a1, xi a2, xi a3, xr (2, 1)] (I, xst c) mc9 ms9 (wPost c F.2 (fun c9 => c9.2.2.1 (2, 1) 0 = FP.f2d F.1) (fun I9 c9 => C I9 ∧ c9.1 = c.1)) := by
  refine xMet_of hX pl_L_fullShare.1 (fun w hw => (pl_L_fullShare.2.2.1 w hw).1) (by show 1 + (1 + (1 + (1 + (1 + 0)))) ≤ 6; decide) (fun V hV => ?_)
  have hE := hV.eng
  show V 0 [(0, xr (0, 0)), (1, xi a1), (2, xi a2), (3, xi a3), (4, xr (2, 1))] [] (I, xst c) 0 0
  refine x_aload (pc := 0) (j := 4) hE dL_fullShare_0 rfl ?_
  refine x_iconst (pc := 2) hE dL_fullShare_2 ?_
  refine x_aload_n (pc := 3) (j := 0) hE dL_fullShare_3 rfl ?_
  refine x_iload_n (pc := 4) (j := 1) hE dL_fullShare_4 rfl ?_
  refine x_iload_n (pc := 5) (j := 2) hE dL_fullShare_5 rfl ?_
  refine x_iload_n (pc := 6) (j := 3) hE dL_fullShare_6 rfl ?_
  refine x_callVH (pc := 7) (as := [xi a1, xi a2, xi a3]) (st := [xi 0, xr (2, 1)]) hV hM dL_fullShare_7 pl_X9_fullShare lk_RL_159 rfl (lvm0 _ (by decide)) rfl rfl (Nat.le_refl _) (Nat.le_of_eq (Nat.zero_add _)) (Nat.le_of_eq (Nat.zero_add _)) (Nat.le_of_ble_eq_true rfl) ?_ ?_
  · rintro e h9 ⟨I9, rfl, ⟨a, ha, -⟩ | ⟨e9, he, hC, j, hj, hk⟩⟩
    · cases ha
    · cases he
      exact ⟨_, hnd_fullShare j e hj, I9, c, rfl, by rw [hk], fun h => by omega, fun _ _ => rfl, hC, rfl⟩
  · rintro r h9 ⟨I9, rfl, ⟨v, hv, hC, hF9⟩ | ⟨e, he, -⟩⟩
    · cases hv
      subst hF9
      refine ⟨xsame_A rfl, ?_⟩
      refine x_f2d (pc := 10) hE dL_fullShare_10 (hF rfl) ?_
      refine x_dastore (pc := 11) (nn := 1) hE dL_fullShare_11 rfl (lvm2 _ (by decide)) (by decide) (by decide) ?_
      refine x_goto (pc := 12) (tgt := 27) hE dL_fullShare_12 rfl (x_iconst (pc := 27) hE dL_fullShare_27 ?_)
      exact x_reti (pc := 28) hV dL_fullShare_28 rfl (Nat.le_of_eq (Nat.zero_add _)) (Nat.le_of_eq (Nat.zero_add _)) ⟨_, (c.1, c.2.1, xuF c.2.2.1 (2, 1) 0 (FP.f2d v), c.2.2.2), rfl, rfl, fun _ => xuF_same (J := c.2.2.1) (q := (2, 1)) (k := 0) (v := FP.f2d v), fun _ _ => rfl, hC, rfl⟩
    · cases he
theorem hnd_meanFlow : ∀ (j : Nat) (e : String), ([xIOB, xIAE, xNSE] : List String)[j]? = some e → xHnd m_L_meanFlow 7 e ((j : Int) + 1) := fun j e h => match j, h with | 0, h => by cases h; exact ⟨[], (⟨0, 11, 14, 21⟩ : ExceptionTableEntry), [(⟨0, 11, 18, 13⟩ : ExceptionTableEntry), (⟨0, 11, 22, 41⟩ : ExceptionTableEntry)], rfl, (fun _ h => by cases h), rfl, by decide, ⟨xIOB, tb4 _ (List.mem_of_getElem? (i := 38) rfl), tb4 _ (List.mem_of_getElem? (i := 49) rfl)⟩, rfl, 5, 2, Or.inr ⟨rfl, dL_meanFlow_14⟩, by decide, dL_meanFlow_16, dL_meanFlow_17⟩ | 1, h => by cases h; exact ⟨[(⟨0, 11, 14, 21⟩ : ExceptionTableEntry)], (⟨0, 11, 18, 13⟩ : ExceptionTableEntry), [(⟨0, 11, 22, 41⟩ : ExceptionTableEntry)], rfl, List.forall_mem_cons.mpr ⟨Or.inr ⟨by decide, xIOB, tb4 _ (List.mem_of_getElem? (i := 38) rfl), by decide +kernel⟩, (fun _ h => by cases h)⟩, rfl, by decide, ⟨xIAE, tb3 _ (List.mem_of_getElem? (i := 132) rfl), tb3 _ (List.mem_of_getElem? (i := 140) rfl)⟩, rfl, 5, 2, Or.inr ⟨rfl, dL_meanFlow_18⟩, by decide, dL_meanFlow_20, dL_meanFlow_21⟩ | 2, h => by cases h; exact ⟨[(⟨0, 11, 14, 21⟩ : ExceptionTableEntry), (⟨0, 11, 18, 13⟩ : ExceptionTableEntry)], (⟨0, 11, 22, 41⟩ : ExceptionTableEntry), [], rfl, List.forall_mem_cons.mpr ⟨Or.inr ⟨by decide, xIOB, tb4 _ (List.mem_of_getElem? (i := 38) rfl), by decide +kernel⟩, List.forall_mem_cons.mpr ⟨Or.inr ⟨by decide, xIAE, tb3 _ (List.mem_of_getElem? (i := 132) rfl), by decide +kernel⟩, (fun _ h => by cases h)⟩⟩, rfl, by decide, ⟨xNSE, tb4 _ (List.mem_of_getElem? (i := 125) rfl), tb4 _ (List.mem_of_getElem? (i := 139) rfl)⟩, rfl, 5, 2, Or.inr ⟨rfl, dL_meanFlow_22⟩, by decide, dL_meanFlow_24, dL_meanFlow_25⟩ | j + 3, h => by simp at h
set_option maxRecDepth 100000 in
theorem wr_meanFlow {X : xX} (hX : xBase X) {d9 mc9 ms9 : Nat} {c : xCx} {I : xIn} {a1 : Int} {a2 : Int} {a3 : Int} {F : UInt64 × Int} {C : xIn → Prop} (hM : xRet rD X m_X9_meanFlow d9 [xr (0, 0), xi a1, xi a2, xi a3] c I mc9 ms9 (fun v I9 => C I9 ∧ (v, 0) = F) (fun e I9 => C I9 ∧ exL [xIOB, xIAE, xNSE] e F.2)) : xMet X m_L_meanFlow (d9 + 1) [xr (0, 0), xi a1, xi a2, xi a3, xr (2, 1)] (I, xst c) mc9 ms9 (wPost c F.2 (fun c9 => c9.2.2.1 (2, 1) 0 = F.1) (fun I9 c9 => C I9 ∧ c9.1 = c.1)) := by
  refine xMet_of hX pl_L_meanFlow.1 (fun w hw => (pl_L_meanFlow.2.2.1 w hw).1) (by show 1 + (1 + (1 + (1 + (1 + 0)))) ≤ 6; decide) (fun V hV => ?_)
  have hE := hV.eng
  show V 0 [(0, xr (0, 0)), (1, xi a1), (2, xi a2), (3, xi a3), (4, xr (2, 1))] [] (I, xst c) 0 0
  refine x_aload (pc := 0) (j := 4) hE dL_meanFlow_0 rfl ?_
  refine x_iconst (pc := 2) hE dL_meanFlow_2 ?_
  refine x_aload_n (pc := 3) (j := 0) hE dL_meanFlow_3 rfl ?_
  refine x_iload_n (pc := 4) (j := 1) hE dL_meanFlow_4 rfl ?_
  refine x_iload_n (pc := 5) (j := 2) hE dL_meanFlow_5 rfl ?_
  refine x_iload_n (pc := 6) (j := 3) hE dL_meanFlow_6 rfl ?_
  refine x_callVH (pc := 7) (as := [xi a1, xi a2, xi a3]) (st := [xi 0, xr (2, 1)]) hV hM dL_meanFlow_7 pl_X9_meanFlow lk_RL_163 rfl (lvm0 _ (by decide)) rfl rfl (Nat.le_refl _) (Nat.le_of_eq (Nat.zero_add _)) (Nat.le_of_eq (Nat.zero_add _)) (Nat.le_of_ble_eq_true rfl) ?_ ?_
  · rintro e h9 ⟨I9, rfl, ⟨a, ha, -⟩ | ⟨e9, he, hC, j, hj, hk⟩⟩
    · cases ha
    · cases he
      exact ⟨_, hnd_meanFlow j e hj, I9, c, rfl, by rw [hk], fun h => by omega, fun _ _ => rfl, hC, rfl⟩
  · rintro r h9 ⟨I9, rfl, ⟨v, hv, hC, hF9⟩ | ⟨e, he, -⟩⟩
    · cases hv
      cases hF9
      refine ⟨xsame_A rfl, ?_⟩
      refine x_dastore (pc := 10) (nn := 1) hE dL_meanFlow_10 rfl (lvm2 _ (by decide)) (by decide) (by decide) ?_
      refine x_goto (pc := 11) (tgt := 26) hE dL_meanFlow_11 rfl (x_iconst (pc := 26) hE dL_meanFlow_26 ?_)
      exact x_reti (pc := 27) hV dL_meanFlow_27 rfl (Nat.le_of_eq (Nat.zero_add _)) (Nat.le_of_eq (Nat.zero_add _)) ⟨_, (c.1, c.2.1, xuF c.2.2.1 (2, 1) 0 v, c.2.2.2), rfl, rfl, fun _ => xuF_same (J := c.2.2.1) (q := (2, 1)) (k := 0) (v := v), fun _ _ => rfl, hC, rfl⟩
    · cases he
