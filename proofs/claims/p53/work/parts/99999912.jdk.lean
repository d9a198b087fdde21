/-! lists as they are read: get, size, the iterator -/
def rP (p : xP) : Option xV := some (xr p)
def LB (c : xCx) (m : Nat) : Prop := (2, 1) ∈ c.2.1 ∧ ∃ (qd : xP) (nd : Nat), kd qd = (5, nd) ∧ qd ∈ c.2.1 ∧ m ≤ nd ∧ c.2.2.1 (2, 1) 1 = some qd ∧ ∀ k, k < m → c.2.2.1 qd k = some (er k) ∧ er k ∈ c.2.1
theorem LA.lb {c : xCx} {m b : Nat} (h : LA c m b) : LB c m := ⟨h.1.2.2.1.2.1, h.2.2⟩
theorem LB.nd {c : xCx} {m : Nat} (h : LB c m) : m ≤ 256 := by
  obtain ⟨-, qd, nd, h1, -, h2, -⟩ := h
  have := kd_small qd
  rw [h1] at this
  have : nd ≤ 256 := this
  omega
theorem kd5 {q : xP} {n : Nat} (h : kd q = (5, n)) : q.1 = 2 := by
  have key : ∀ l : List (Nat × Nat), (l.all fun z => z.1 != 5) = true → ∀ j : Nat, (l.getD j (9, 0)).1 ≠ 5 := by
    intro l hl j
    rw [List.getD_eq_getElem?_getD]
    cases hj : l[j]? with
    | none => show (9 : Nat) ≠ 5; omega
    | some z => simpa using List.all_eq_true.mp hl z (List.mem_of_getElem? hj)
  unfold kd at h
  split at h
  · exact absurd (congrArg Prod.fst h) (key _ rfl _)
  · cases h
  · next h2 => exact h2
  · exact absurd (congrArg Prod.fst h) (key _ rfl _)
theorem rst_2 {N : Nat} {f : xP → Nat → Option xP} {q : xP} {k : Nat} (hq : q.1 = 2) : rst N f q k = f q k := by
  obtain ⟨a, b⟩ := q
  cases hq
  rfl
section JR
variable {X : xX} {c : xCx} {I : xIn} {m b : Nat}
theorem x_eP {y : xM} {d mc ms : Nat} {V : xT} {pc : Nat} {lo : List (Nat × xV)} {k n : Nat} {P : xP → xIn → Prop} {E : String → xIn → Prop} (hV : xEnd X y d mc ms (xPost rP c P E) V) {p : xP} {C : String} (hd : decode y.2.1 pc = .ok (.areturn, 1)) (hr : y.2.2.2.1 = some (.object C)) (hk : k ≤ mc) (hn : n ≤ ms) (hp : P p I) : V pc lo [xr p] (I, xst c) k n := x_reta hV hd hr hk hn ⟨I, rfl, Or.inl ⟨p, rfl, hp⟩⟩
theorem j_chk0 (hX : xBase X) (d : Nat) {K M : Int} (h : 0 ≤ K ∧ K < M) (hM : M ≤ 2147483647) : xRet rI X m_J3_checkIndex_8e157 d [xi K, xi M, xz] c I 0 0 (fun v I9 => v = K ∧ I9 = I) xNo := by
  have hK : xin K := ⟨by omega, by omega⟩
  have hM : xin M := ⟨by omega, by omega⟩
  refine xRet_of hX pl_J3_checkIndex_8e157 (LE1 rfl) fun V hV => ?_
  have hE := hV.eng
  exact x_iload_n (j := 0) (pc := 0) hE dJ3_checkIndex_8e157_0 rfl (x_if_lt (pc := 1) hE dJ3_checkIndex_8e157_1 rfl hK (fun z => absurd z (by omega)) (fun _ => x_iload_n (j := 0) (pc := 4) hE dJ3_checkIndex_8e157_4 rfl (x_iload_n (j := 1) (pc := 5) hE dJ3_checkIndex_8e157_5 rfl (x_icmp_lt (pc := 6) hE dJ3_checkIndex_8e157_6 rfl hK hM (fun _ => x_iload_n (j := 0) (pc := 16) hE dJ3_checkIndex_8e157_16 rfl (x_eI (pc := 17) hV dJ3_checkIndex_8e157_17 rfl (LE1 rfl) (LE1 rfl) ⟨rfl, rfl⟩)) (fun z => absurd z (by omega))))))
theorem j_chk (hX : xBase X) (d : Nat) {K M : Int} (h : 0 ≤ K ∧ K < M) (hM : M ≤ 2147483647) : xRet rI X m_J15_checkIndex_7cf53 (d + 1) [xi K, xi M] c I 0 0 (fun v I9 => v = K ∧ I9 = I) xNo := by
  refine xRet_of hX pl_J15_checkIndex_7cf53 (LE1 rfl) fun V hV => ?_
  have hE := hV.eng
  refine x_iload_n (j := 0) (pc := 0) hE dJ15_checkIndex_7cf53_0 rfl (x_iload_n (j := 1) (pc := 1) hE dJ15_checkIndex_7cf53_1 rfl (x_null (pc := 2) hE dJ15_checkIndex_7cf53_2 (x_cs (pc := 3) (as := [xi K, xi M, xz]) (st := []) hE dJ15_checkIndex_7cf53_3 pl_J3_checkIndex_8e157 lk_RJ15_105 rfl (Nat.le_refl _) (LE1 rfl) (LE1 rfl) (LE1 rfl) (j_chk0 hX d h hM) ?_)))
  rintro v I9 ⟨rfl, rfl⟩
  exact x_eI (pc := 6) hV dJ15_checkIndex_7cf53_6 rfl (LE1 rfl) (LE1 rfl) ⟨rfl, rfl⟩
theorem j_elem (hX : xBase X) (d : Nat) (hL : LB c m) {K : Int} (h : 0 ≤ K ∧ K < (m : Int)) : xRet rP X m_Jx4a65c_elementData_915e3 d [xr (2, 1), xi K] c I 0 0 (fun p I9 => p = er K.toNat ∧ I9 = I) xNo := by
  obtain ⟨h1, qd, nd, h2, h3, h4, h5, h6⟩ := hL
  refine xRet_of hX pl_Jx4a65c_elementData_915e3 (LE1 rfl) fun V hV => ?_
  have hE := hV.eng
  exact x_aload_n (j := 0) (pc := 0) hE dJx4a65c_elementData_915e3_0 rfl (x_getR (pc := 1) hE dJx4a65c_elementData_915e3_1 fl_RJx4a65c_9 rfl (lvmX h1) h5 (x_iload_n (j := 1) (pc := 4) hE dJx4a65c_elementData_915e3_4 rfl (x_oaload (t := some (er K.toNat)) (pc := 5) hE dJx4a65c_elementData_915e3_5 h2 (lvmX h3) h.1 (by omega) ((rst_2 (kd5 h2)).trans (h6 K.toNat (by omega)).1) (x_eP (pc := 6) hV dJx4a65c_elementData_915e3_6 rfl (LE1 rfl) (LE1 rfl) ⟨rfl, rfl⟩))))
theorem j_get (hX : xBase X) (d : Nat) (hL : LB c m) (hm : I (2, 1) 2 = (m : Int)) {K : Int} (h : 0 ≤ K ∧ K < (m : Int)) : xRet rP X m_Jx4a65c_get_915e3 (d + 2) [xr (2, 1), xi K] c I 0 0 (fun p I9 => p = er K.toNat ∧ I9 = I) xNo := by
  have h9 := hL.nd
  have h1 := hL.1
  refine xRet_of hX pl_Jx4a65c_get_915e3 (LE1 rfl) fun V hV => ?_
  have hE := hV.eng
  refine x_iload_n (j := 1) (pc := 0) hE dJx4a65c_get_915e3_0 rfl (x_aload_n (j := 0) (pc := 1) hE dJx4a65c_get_915e3_1 rfl (x_getI (pc := 2) hE dJx4a65c_get_915e3_2 fl_RJx4a65c_48 rfl (lvmX h1) ?_))
  refine x_cs (pc := 5) (as := [xi K, xi (I (2, 1) 2)]) (st := []) hE dJx4a65c_get_915e3_5 pl_J15_checkIndex_7cf53 lk_RJx4a65c_118 rfl (Nat.le_refl _) (LE1 rfl) (LE1 rfl) (LE1 rfl) (j_chk hX d (by rw [hm]; exact h) (by omega)) ?_
  rintro v I9 ⟨rfl, rfl⟩
  refine x_pop (pc := 8) hE dJx4a65c_get_915e3_8 rfl (x_aload_n (j := 0) (pc := 9) hE dJx4a65c_get_915e3_9 rfl (x_iload_n (j := 1) (pc := 10) hE dJx4a65c_get_915e3_10 rfl ?_))
  refine x_cr (pc := 11) (q := (2, 1)) (as := [xi v]) (st := []) hE dJx4a65c_get_915e3_11 pl_Jx4a65c_elementData_915e3 lk_RJx4a65c_123 rfl (lvmX h1) rfl rfl (Nat.le_succ _) (LE1 rfl) (LE1 rfl) (LE1 rfl) (j_elem hX (d + 0) hL h) ?_
  rintro p I9 ⟨rfl, rfl⟩
  exact x_eP (pc := 14) hV dJx4a65c_get_915e3_14 rfl (LE1 rfl) (LE1 rfl) ⟨rfl, rfl⟩
theorem j_size (hX : xBase X) (d : Nat) (hL : (2, 1) ∈ lvL c.1 c.2.1) : xRet rI X m_Jx4a65c_size_8abf5 d [xr (2, 1)] c I 0 0 (fun v I9 => v = I (2, 1) 2 ∧ I9 = I) xNo := by
  refine xRet_of hX pl_Jx4a65c_size_8abf5 (LE1 rfl) fun V hV => ?_
  have hE := hV.eng
  exact x_aload_n (j := 0) (pc := 0) hE dJx4a65c_size_8abf5_0 rfl (x_getI (pc := 1) hE dJx4a65c_size_8abf5_1 fl_RJx4a65c_48 rfl hL (x_eI (pc := 4) hV dJx4a65c_size_8abf5_4 rfl (LE1 rfl) (LE1 rfl) ⟨rfl, rfl⟩))
/-! in the law: an edge's row, how many there are -/
theorem toN_lt {K : Int} {m : Nat} (h : 0 ≤ K ∧ K < (m : Int)) : K.toNat < m := by omega
theorem x_get {y : xM} {d mc ms idx cix : Nat} {V : xT} {pc : Nat} {lo : List (Nat × xV)} {st : List xV} {k n : Nat} (hX : xBase X) (hV : xEng X y (d + 3) mc ms V) (hL : LB c m) {K : Int} (hd : decode y.2.1 pc = .ok (.invokevirtual idx, 3)) (hlk : xLk y.1.cls (.invokevirtual idx) m_Jx4a65c_get_915e3 true) (hd2 : decode y.2.1 (pc + 3) = .ok (.checkcast cix, 3)) (hw : Cond.classLink y.1.cls cix "[I" ∈ lw_tbl) (h : 0 ≤ K ∧ K < (m : Int)) (hm : I (2, 1) 2 = (m : Int)) (hk : k ≤ mc) (hn : n ≤ ms) (hst : (st.map fun v => (xc c.2.2.2 v).category).sum ≤ 8) (kk : V (pc + 6) lo (xr (er K.toNat) :: st) (I, xst c) k n) : V pc lo (xi K :: xr (2, 1) :: st) (I, xst c) k n := by
  refine x_cr (as := [xi K]) (q := (2, 1)) hV hd pl_Jx4a65c_get_915e3 hlk rfl (lvmX hL.1) rfl rfl (Nat.le_refl _) hk hn hst (j_get hX d hL hm h) ?_
  rintro p I9 ⟨rfl, rfl⟩
  obtain ⟨-, qd, nd, -, -, -, -, h6⟩ := hL
  exact x_castI hV hd2 hw (kd_er _) (lvmX (h6 _ (toN_lt h)).2) kk
theorem x_size {y : xM} {d mc ms idx : Nat} {V : xT} {pc : Nat} {lo : List (Nat × xV)} {st : List xV} {k n : Nat} (hX : xBase X) (hV : xEng X y (d + 1) mc ms V) (hL : (2, 1) ∈ lvL c.1 c.2.1) (hd : decode y.2.1 pc = .ok (.invokevirtual idx, 3)) (hlk : xLk y.1.cls (.invokevirtual idx) m_Jx4a65c_size_8abf5 true) (hk : k ≤ mc) (hn : n ≤ ms) (hst : (st.map fun v => (xc c.2.2.2 v).category).sum ≤ 8) (kk : V (pc + 3) lo (xi (I (2, 1) 2) :: st) (I, xst c) k n) : V pc lo (xr (2, 1) :: st) (I, xst c) k n := by
  refine x_cr (as := []) (q := (2, 1)) hV hd pl_Jx4a65c_size_8abf5 hlk rfl hL rfl rfl (Nat.le_refl _) hk hn hst (j_size hX d hL) ?_
  rintro p I9 ⟨rfl, rfl⟩
  exact kk
end JR
