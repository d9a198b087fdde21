/-! the law object and its empty list are made -/
theorem x_getsH {X : xX} {y : xM} {d mc ms : Nat} {V : xT} {pc : Nat} {lo : List (Nat × xV)} {st : List xV} {h : xS} {k n : Nat} (hV : xEng X y d mc ms V) {z idx : Nat} (hz : DEs X z) (hA : h.A (2, 8) = z) (hd : decode y.2.1 pc = .ok (.getstatic idx, 3)) (hw : Cond.fieldLink y.1.cls idx "java/util/ArrayList" "DEFAULTCAPACITY_EMPTY_ELEMENTDATA" "[Ljava/lang/Object;" ∈ lw_tbl) (kk : V (pc + 3) lo (xr (2, 8) :: st) h k n) : V pc lo st h k n := by
  obtain ⟨hX, p, e, s, m0, args, below, meth, c0, Q, ⟨hx, hb, hml, hown, hlk, hrt, htb, hnm, hB⟩, rfl⟩ := hV
  intro H locs ls hP hD hS hl
  have kk : W p X.1 e (xrm d mc ms) s m0 args below meth c0 H locs k n Q (F0 m0 (pc + 3) ls (.ref (h.A (2, 8)) :: st.map (xc h.A))) := kk H locs ls hP hD hS hl
  rw [hA] at kk
  exact va_gets hx hb (hz.at hB).1 hS hown (xB.word hX hB hw rfl) (fun _ h => h) hd kk
theorem ci_aC {X : xX} (hX : xBase X) (d : Nat) {h : xS} : xMet X m_Jxa1e45_init_da8c8 (d + 1) [xr (2, 1)] h 0 0 (fun o h9 => o = .inl none ∧ h9 = h) := by
  refine xMet_of hX pl_Jxa1e45_init_da8c8.1 (fun w hw => (pl_Jxa1e45_init_da8c8.2.2.1 w hw).1) (by decide) (fun V hV => ?_)
  have hE := hV.eng
  exact x_aload_n (j := 0) (pc := 0) hE dJxa1e45_init_da8c8_0 rfl (x_objInit (pc := 1) hE dJxa1e45_init_da8c8_1 (by decide +kernel) (by decide +kernel) (by decide +kernel) (Nat.succ_le_succ (Nat.zero_le _)) (LE1 rfl) (x_retv (pc := 4) hV dJxa1e45_init_da8c8_4 rfl (LE1 rfl) (LE1 rfl) ⟨rfl, rfl⟩))
theorem ci_aL {X : xX} (hX : xBase X) (d : Nat) {rs : List ((xP × Nat) × xP)} {is : List ((xP × Nat) × Int)} {A : xP → Nat} : xMet X m_Jxc12de_init_da8c8 (d + 2) [xr (2, 1)] (cS 38 rs is A) 0 0 (fun o h9 => o = .inl none ∧ h9 = cS 38 rs ((((2, 1), 0), 0) :: is) A) := by
  refine xMet_of hX pl_Jxc12de_init_da8c8.1 (fun w hw => (pl_Jxc12de_init_da8c8.2.2.1 w hw).1) (by decide) (fun V hV => ?_)
  have hE := hV.eng
  refine x_aload_n (j := 0) (pc := 0) hE dJxc12de_init_da8c8_0 rfl (x_callN (pc := 1) (as := []) (st := []) (q := (2, 1)) hE (ci_aC hX d) dJxc12de_init_da8c8_1 pl_Jxa1e45_init_da8c8 lk_RJxc12de_1 rfl (List.contains_iff_mem.mp (by decide +kernel : (cL 38).contains (2, 1) = true)) rfl (Nat.le_refl _) (LE1 rfl) (LE1 rfl) (LE1 rfl) (fun E h9 hh => by cases hh.1) (fun r h9 hh => ?_))
  obtain ⟨hr, rfl⟩ := hh
  cases hr
  refine ⟨⟨rfl, rfl⟩, ?_⟩
  exact x_aload_n (j := 0) (pc := 4) hE dJxc12de_init_da8c8_4 rfl (x_iconst (pc := 5) hE dJxc12de_init_da8c8_5 (c_putI (pc := 6) hE dJxc12de_init_da8c8_6 fl_RJxc12de_7 rfl (by decide +kernel) rfl (by decide) (x_retv (pc := 9) hV dJxc12de_init_da8c8_9 rfl (LE1 rfl) (LE1 rfl) ⟨rfl, rfl⟩)))
theorem ci_AL {X : xX} (hX : xBase X) (d : Nat) {z : Nat} (hz : DEs X z) {rs : List ((xP × Nat) × xP)} {is : List ((xP × Nat) × Int)} {A : xP → Nat} (hA : A (2, 8) = z) : xMet X m_Jx4a65c_init_da8c8 (d + 3) [xr (2, 1)] (cS 38 rs is A) 0 0 (cPost 38 A 38 ((((2, 1), 1), (2, 8)) :: rs) ((((2, 1), 0), 0) :: is)) := by
  refine xMet_of hX pl_Jx4a65c_init_da8c8.1 (fun w hw => (pl_Jx4a65c_init_da8c8.2.2.1 w hw).1) (by decide) (fun V hV => ?_)
  have hE := hV.eng
  have hm : (2, 1) ∈ cL 38 := List.contains_iff_mem.mp (by decide +kernel : (cL 38).contains (2, 1) = true)
  refine x_aload_n (j := 0) (pc := 0) hE dJx4a65c_init_da8c8_0 rfl (x_callN (pc := 1) (as := []) (st := []) (q := (2, 1)) hE (ci_aL hX d) dJx4a65c_init_da8c8_1 pl_Jxc12de_init_da8c8 lk_RJx4a65c_1 rfl hm rfl (Nat.le_refl _) (LE1 rfl) (LE1 rfl) (LE1 rfl) (fun E h9 hh => by cases hh.1) (fun r h9 hh => ?_))
  obtain ⟨hr, rfl⟩ := hh
  cases hr
  refine ⟨⟨rfl, rfl⟩, ?_⟩
  refine x_aload_n (j := 0) (pc := 4) hE dJx4a65c_init_da8c8_4 rfl (x_getsH (pc := 5) hE hz hA dJx4a65c_init_da8c8_5 (by decide +kernel) (x_putR (pc := 8) hE dJx4a65c_init_da8c8_8 fl_RJx4a65c_9 rfl hm rfl ?_))
  refine x_retv (pc := 11) hV dJx4a65c_init_da8c8_11 rfl (LE1 rfl) (LE1 rfl) ⟨rfl, A, ?_, cAg.rf⟩
  show (_, xuR (cR rs) (2, 1) 1 (some (2, 8)), _) = _
  rw [cR_put]
  rfl
def rsL : List ((xP × Nat) × xP) := (((2, 0), 5), (2, 1)) :: (((2, 1), 1), (2, 8)) :: (((2, 0), 3), (0, 0)) :: rsAll
def isL : List ((xP × Nat) × Int) := (((2, 1), 0), 0) :: isAll
set_option maxRecDepth 100000 in
theorem ci_L {X : xX} (hX : xBase X) (d : Nat) {z : Nat} (hz : DEs X z) {A : xP → Nat} (hA : A (2, 8) = z) : xMet X m_L_init (d + 4) [xr (2, 0)] (cS 1 [] [] A) 40 1100 (cPost 1 A 38 rsL isL) := by
  refine xMet_of hX pl_L_init.1 (fun w hw => (pl_L_init.2.2.1 w hw).1) (by decide) (fun V hV => ?_)
  have hE := hV.eng
  refine x_aload_n (j := 0) (pc := 0) hE dL_init_0 rfl (x_objInit (pc := 1) hE dL_init_1 (by decide +kernel) (by decide +kernel) (by decide +kernel) (Nat.succ_le_succ (Nat.zero_le _)) (LE1 rfl) ?_)
  refine x_aload_n (j := 0) (pc := 4) hE dL_init_4 rfl (c_newO (pc := 5) (ci := 9) (q := (0, 0)) hE dL_init_5 rfl (tb1 _ (List.mem_of_getElem? (i := 38) rfl)) (by decide +kernel) (by decide +kernel) fd_X9 rfl (by decide +kernel) rfl (LE1 rfl) (LE1 rfl) (fun A1 g1 => ?_))
  refine x_dup (pc := 8) hE dL_init_8 rfl ?_
  refine c_init (pc := 9) hE (ci_X9 hX (d := d) A1) dL_init_9 pl_X9_init lk_RL_9 (by decide +kernel) rfl rfl (Nat.le_refl _) (LE1 rfl) (LE1 rfl) (LE1 rfl) (by decide +kernel) (fun A2 g2 => ?_)
  refine c_putR (pc := 12) hE dL_init_12 fl_RL_10 rfl (by decide +kernel) rfl rfl (fun C T N h => by cases h; exact ⟨rfl, nf_ok nf_L rfl⟩) ?_
  refine x_aload_n (j := 0) (pc := 15) hE dL_init_15 rfl (c_newO (pc := 16) (ci := 11) (q := (2, 1)) hE dL_init_16 rfl (tb2 _ (List.mem_of_getElem? (i := 63) rfl)) (by decide +kernel) (by decide +kernel) fd_Jx4a65c rfl (by decide +kernel) rfl (LE1 rfl) (LE1 rfl) (fun A3 g3 => ?_))
  refine x_dup (pc := 19) hE dL_init_19 rfl ?_
  have hA3 : A3 (2, 8) = z := by rw [g3 _ (Or.inl (Or.inr rfl)), g2 _ (Or.inl (Or.inr rfl)), g1 _ (Or.inl (Or.inr rfl)), hA]
  refine c_init (pc := 20) hE (ci_AL hX d hz hA3) dL_init_20 pl_Jx4a65c_init_da8c8 lk_RL_18 (by decide +kernel) rfl rfl (Nat.le_refl _) (LE1 rfl) (LE1 rfl) (LE1 rfl) (by decide +kernel) (fun A4 g4 => ?_)
  refine c_putR (pc := 23) hE dL_init_23 fl_RL_19 rfl (by decide +kernel) rfl rfl (fun C T N h => by cases h; exact ⟨rfl, nf_ok nf_L rfl⟩) ?_
  exact x_retv (pc := 26) hV dL_init_26 rfl (LE1 rfl) (LE1 rfl) ⟨rfl, A4, rfl, ((g1.tr g2 (LE1 rfl)).tr g3 (LE1 rfl)).tr g4 (LE1 rfl)⟩
