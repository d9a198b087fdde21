/-! net(n) by the class -/
def NT.add (T : NT) (n : Nat) : NT := (T.N + 1, upN T.G T.N (n, 0, fun _ => 0, fun _ => 0), upN T.lo T.N (fun _ => 0), upN T.hi T.N (fun _ => 0), upN T.co T.N (fun _ => 0), upN T.su T.N (fun _ => 0))
def netA (T : NT) (a : Int) : (Int × Int) × NT := if 2 ≤ a ∧ a ≤ 8 then (if T.N = 4 then ((0, 2), T) else (((T.N : Int), 0), T.add a.toNat)) else ((0, 1), T)
theorem NTok.add {T : NT} (hT : NTok T) (h4 : T.N ≠ 4) {n : Nat} (hn : 2 ≤ n ∧ n ≤ 8) : NTok (T.add n) := by
  have h := hT.1
  refine ⟨show T.N + 1 ≤ 4 by omega, fun j hj => ?_⟩
  have hj : j < T.N + 1 := hj
  by_cases hji : j = T.N
  · subst hji
    show GrOK (upN T.G T.N (n, 0, fun _ => 0, fun _ => 0) T.N) ∧ (∀ e, e < (upN T.G T.N (n, 0, fun _ => 0, fun _ => 0) T.N).m → (0 ≤ upN T.lo T.N (fun _ => 0) T.N e ∧ upN T.lo T.N (fun _ => 0) T.N e ≤ upN T.hi T.N (fun _ => 0) T.N e ∧ upN T.hi T.N (fun _ => 0) T.N e ≤ 99) ∧ (-20 ≤ upN T.co T.N (fun _ => 0) T.N e ∧ upN T.co T.N (fun _ => 0) T.N e ≤ 20)) ∧ ∀ x, x < (upN T.G T.N (n, 0, fun _ => 0, fun _ => 0) T.N).n → -99 ≤ upN T.su T.N (fun _ => 0) T.N x ∧ upN T.su T.N (fun _ => 0) T.N x ≤ 99
    rw [upN_s, upN_s, upN_s, upN_s, upN_s]
    exact ⟨⟨hn.1, hn.2, Nat.zero_le _, fun e he => absurd he (Nat.not_lt_zero _)⟩, fun e he => absurd he (Nat.not_lt_zero _), fun x _ => ⟨by decide, by decide⟩⟩
  · show GrOK (upN T.G T.N (n, 0, fun _ => 0, fun _ => 0) j) ∧ (∀ e, e < (upN T.G T.N (n, 0, fun _ => 0, fun _ => 0) j).m → (0 ≤ upN T.lo T.N (fun _ => 0) j e ∧ upN T.lo T.N (fun _ => 0) j e ≤ upN T.hi T.N (fun _ => 0) j e ∧ upN T.hi T.N (fun _ => 0) j e ≤ 99) ∧ (-20 ≤ upN T.co T.N (fun _ => 0) j e ∧ upN T.co T.N (fun _ => 0) j e ≤ 20)) ∧ ∀ x, x < (upN T.G T.N (n, 0, fun _ => 0, fun _ => 0) j).n → -99 ≤ upN T.su T.N (fun _ => 0) j x ∧ upN T.su T.N (fun _ => 0) j x ≤ 99
    rw [upN_n hji, upN_n hji, upN_n hji, upN_n hji, upN_n hji]
    exact hT.2 j (by omega)
theorem CI.add {I J : xIn} {c c9 : xCx} {T : NT} (h : CI I c T) {n : Nat} (hn : 2 ≤ n ∧ n ≤ 8) (hc : c9.1 = c.1 + 1) (h0 : J (0, 0) 1 = (T.N : Int) + 1) (hk : ∀ p : xP, p.1 ≠ 0 → p.1 ≠ T.N + 3 → J p = I p) (h1 : J (T.N + 3, 0) 0 = (n : Int)) (h7 : J (T.N + 3, 0) 7 = 0) (h6 : ∀ x, J (T.N + 3, 6) x = 0) : CI J c9 (T.add n) := by
  obtain ⟨a1, a2, a3⟩ := h
  refine ⟨show c9.1 = T.N + 1 by omega, by rw [h0]; show _ = ((T.N + 1 : Nat) : Int); omega, fun j hj => ?_⟩
  have hj : j < T.N + 1 := hj
  by_cases hji : j = T.N
  · subst hji
    show CG J c9 T.N (upN T.G T.N (n, 0, fun _ => 0, fun _ => 0) T.N) ∧ (∀ e, e < (upN T.G T.N (n, 0, fun _ => 0, fun _ => 0) T.N).m → J (T.N + 3, 3) e = upN T.lo T.N (fun _ => 0) T.N e ∧ J (T.N + 3, 4) e = upN T.hi T.N (fun _ => 0) T.N e ∧ J (T.N + 3, 5) e = upN T.co T.N (fun _ => 0) T.N e) ∧ ∀ x, x < (upN T.G T.N (n, 0, fun _ => 0, fun _ => 0) T.N).n → J (T.N + 3, 6) x = upN T.su T.N (fun _ => 0) T.N x
    rw [upN_s, upN_s, upN_s, upN_s, upN_s]
    exact ⟨⟨by omega, h1, h7, ⟨hn.1, hn.2, Nat.zero_le _, fun e he => absurd he (Nat.not_lt_zero _)⟩, fun e he => absurd he (Nat.not_lt_zero _)⟩, fun e he => absurd he (Nat.not_lt_zero _), fun x _ => h6 x⟩
  · show CG J c9 j (upN T.G T.N (n, 0, fun _ => 0, fun _ => 0) j) ∧ (∀ e, e < (upN T.G T.N (n, 0, fun _ => 0, fun _ => 0) j).m → J (j + 3, 3) e = upN T.lo T.N (fun _ => 0) j e ∧ J (j + 3, 4) e = upN T.hi T.N (fun _ => 0) j e ∧ J (j + 3, 5) e = upN T.co T.N (fun _ => 0) j e) ∧ ∀ x, x < (upN T.G T.N (n, 0, fun _ => 0, fun _ => 0) j).n → J (j + 3, 6) x = upN T.su T.N (fun _ => 0) j x
    rw [upN_n hji, upN_n hji, upN_n hji, upN_n hji, upN_n hji]
    have hp : ∀ b, J (j + 3, b) = I (j + 3, b) := fun b => hk (j + 3, b) (by show j + 3 ≠ 0; omega) (by show j + 3 ≠ T.N + 3; omega)
    obtain ⟨⟨b1, b2⟩, b3⟩ := a3 j (by omega)
    unfold CG at *
    simp only [hp]
    exact ⟨⟨by omega, b2⟩, b3⟩
theorem rst_nn {N : Nat} {f : xP → Nat → Option xP} (hf : ∀ p k x, f p k ≠ some (N + 3, x)) (p : xP) (k x : Nat) : rst N f p k ≠ some (N + 3, x) := by
  unfold rst
  intro h
  split at h
  · split at h
    · split at h
      · cases h; omega
      · cases h
    · have : N + 3 = 0 := rf0_g _ _ _ h
      omega
  · cases h
  · exact hf _ _ _ h
  · split at h
    · have : N + 3 = _ + 3 := rfN_g _ _ _ _ h
      omega
    · cases h
theorem lvL_nn {N x : Nat} {l : List xP} (hl : ∀ p ∈ l, p.1 = 1 ∨ p.1 = 2) : ((N + 3, x) : xP) ∉ lvL N l := by
  intro h
  rcases List.mem_append.mp h with h | h
  · obtain ⟨j, -, h⟩ := List.mem_map.mp h
    cases congrArg Prod.fst h
  · rcases List.mem_append.mp h with h | h
    · obtain ⟨i, hi, h⟩ := List.mem_flatMap.mp h
      obtain ⟨j, -, h⟩ := List.mem_map.mp h
      have : i + 3 = N + 3 := congrArg Prod.fst h
      have := List.mem_range.mp hi
      omega
    · have h9 : N + 3 = 1 ∨ N + 3 = 2 := hl _ h
      omega
theorem rst_ad {N : Nat} {f R : xP → Nat → Option xP} (hR : ∀ p : xP, p ≠ (N + 3, 0) → R p = rst N f p) (h0 : ∀ k, R (N + 3, 0) k = none) : xuR (zR N 6 R) (0, 1) N (some (N + 3, 0)) = rst (N + 1) f := by
  funext p k
  obtain ⟨g, j⟩ := p
  unfold xuR
  show (if ((g, j) : xP) = (0, 1) ∧ k = N then some (N + 3, 0) else zR N 6 R (g, j) k) = _
  unfold zR zA
  match g with
  | 0 =>
    rw [if_neg (c := ((0, j) : xP) = (N + 3, 0) ∧ 1 ≤ k ∧ k ≤ 6) (fun q => by have := (Prod.mk.inj q.1).1; omega), if_neg (c := (0, j).1 = N + 3 ∧ 1 ≤ (0, j).2 ∧ (0, j).2 ≤ 6) (fun q => by have := q.1; simp at this), hR _ (fun q => by have := (Prod.mk.inj q).1; omega)]
    show _ = (if j = 1 then (if k < N + 1 then some (k + 3, 0) else none) else rf0 j k)
    show (if _ then _ else (if j = 1 then (if k < N then some (k + 3, 0) else none) else rf0 j k)) = _
    by_cases hj : j = 1
    · subst hj
      rw [if_pos rfl, if_pos rfl]
      by_cases hk : k = N
      · subst hk
        rw [if_pos ⟨rfl, rfl⟩, if_pos (by omega)]
      · rw [if_neg (fun q => hk q.2)]
        by_cases hk2 : k < N
        · rw [if_pos hk2, if_pos (by omega)]
        · rw [if_neg hk2, if_neg (by omega)]
    · rw [if_neg (fun q => hj (Prod.mk.inj q.1).2), if_neg hj, if_neg hj]
  | 1 =>
    rw [if_neg (c := ((1, j) : xP) = (0, 1) ∧ k = N) (fun q => by have := (Prod.mk.inj q.1).1; omega), if_neg (c := ((1, j) : xP) = (N + 3, 0) ∧ 1 ≤ k ∧ k ≤ 6) (fun q => by have := (Prod.mk.inj q.1).1; omega), if_neg (c := (1, j).1 = N + 3 ∧ 1 ≤ (1, j).2 ∧ (1, j).2 ≤ 6) (fun q => by have := q.1; simp at this), hR _ (fun q => by have := (Prod.mk.inj q).1; omega)]
    rfl
  | 2 =>
    rw [if_neg (c := ((2, j) : xP) = (0, 1) ∧ k = N) (fun q => by have := (Prod.mk.inj q.1).1; omega), if_neg (c := ((2, j) : xP) = (N + 3, 0) ∧ 1 ≤ k ∧ k ≤ 6) (fun q => by have := (Prod.mk.inj q.1).1; omega), if_neg (c := (2, j).1 = N + 3 ∧ 1 ≤ (2, j).2 ∧ (2, j).2 ≤ 6) (fun q => by have := q.1; simp at this), hR _ (fun q => by have := (Prod.mk.inj q).1; omega)]
    rfl
  | i + 3 =>
    rw [if_neg (c := ((i + 3, j) : xP) = (0, 1) ∧ k = N) (fun q => by have := (Prod.mk.inj q.1).1; omega)]
    show _ = (if i < N + 1 then rfN i j k else none)
    by_cases hi : i = N
    · subst hi
      rw [if_pos (c := i < i + 1) (by omega)]
      match j with
      | 0 =>
        match k with
        | 0 =>
          rw [if_neg (fun q => by omega), if_neg (fun q => by have := q.2.1; simp at this), h0]; rfl
        | 1 => rw [if_pos ⟨rfl, by decide, by decide⟩]; rfl
        | 2 => rw [if_pos ⟨rfl, by decide, by decide⟩]; rfl
        | 3 => rw [if_pos ⟨rfl, by decide, by decide⟩]; rfl
        | 4 => rw [if_pos ⟨rfl, by decide, by decide⟩]; rfl
        | 5 => rw [if_pos ⟨rfl, by decide, by decide⟩]; rfl
        | 6 => rw [if_pos ⟨rfl, by decide, by decide⟩]; rfl
        | k + 7 =>
          rw [if_neg (fun q => by omega), if_neg (fun q => by have := q.2.1; simp at this), h0]; rfl
      | j + 1 =>
        rw [if_neg (fun q => by have := (Prod.mk.inj q.1).2; omega)]
        by_cases hj : j + 1 ≤ 6
        · rw [if_pos ⟨rfl, by show 1 ≤ j + 1; omega, hj⟩]; rfl
        · rw [if_neg (fun q => hj q.2.2), hR _ (fun q => by have := (Prod.mk.inj q).2; omega)]
          show (if i < i then rfN i (j + 1) k else none) = _
          rw [if_neg (Nat.lt_irrefl _)]; rfl
    · rw [if_neg (c := ((i + 3, j) : xP) = (N + 3, 0) ∧ 1 ≤ k ∧ k ≤ 6) (fun q => by have := (Prod.mk.inj q.1).1; omega), if_neg (c := (i + 3, j).1 = N + 3 ∧ 1 ≤ (i + 3, j).2 ∧ (i + 3, j).2 ≤ 6) (fun q => hi (by have := q.1; simpa using this)), hR _ (fun q => by have := (Prod.mk.inj q).1; omega)]
      show (if i < N then rfN i j k else none) = _
      by_cases h2 : i < N
      · rw [if_pos h2, if_pos (by omega)]
      · rw [if_neg h2, if_neg (by omega)]
theorem cn_netBad {X : xX} {c : xCx} {I : xIn} (hX : xBase X) (d : Nat) {a : Int} (ha : xin a) (hb : ¬ (2 ≤ a ∧ a ≤ 8)) : xRet rI X m_X9_net (d + 7) [xr (0, 0), xi a] c I 7 96 (fun _ _ => False) (fun e J => J = I ∧ e = xIAE) := by
  refine xMet_of hX pl_X9_net.1 (fun w hw => (pl_X9_net.2.2.1 w hw).1) (by show 1 + (1 + 0) ≤ 2; decide) (fun V hV => ?_)
  have hE := hV.eng
  have hb1 : V 11 [(0, xr (0, 0)), (1, xi a)] [] (I, xst c) 0 0 := x_throw0 (pc := 11) hV th_64_68 sr_RX9_66 rfl ⟨⟨dX9_net_11, dX9_net_14⟩, Or.inl ⟨dX9_net_15, dX9_net_17, dX9_net_20⟩⟩ (Nat.le_add_left _ _) (Nat.le_of_ble_eq_true rfl) (Nat.le_of_ble_eq_true rfl) (Nat.le_of_ble_eq_true rfl) ⟨I, rfl, Or.inr ⟨_, rfl, rfl, rfl⟩⟩
  show V 0 [(0, xr (0, 0)), (1, xi a)] [] (I, xst c) 0 0
  refine x_iload_n (pc := 0) (j := 1) hE dX9_net_0 rfl (x_iconst (pc := 1) hE dX9_net_1 ?_)
  refine x_icmp_lt (pc := 2) hE dX9_net_2 rfl ha (by decide) (fun h1 => hb1) (fun h1 => ?_)
  refine x_iload_n (pc := 5) (j := 1) hE dX9_net_5 rfl (x_bipush (pc := 6) hE dX9_net_6 (by decide) ?_)
  exact x_icmp_le (pc := 8) hE dX9_net_8 rfl ha (by decide) (fun h2 => absurd ⟨h1, h2⟩ hb) (fun h2 => hb1)
def netPo (c : xCx) (I : xIn) (T : NT) (a : Int) : xO → xS → Prop := fun o h9 => o = .inl (some (xi (T.N : Int))) ∧ ∃ (I9 : xIn) (A9 : xP → Nat), h9 = (I9, xst (c.1 + 1, c.2.1, c.2.2.1, A9)) ∧ CI I9 (c.1 + 1, c.2.1, c.2.2.1, A9) (T.add a.toNat) ∧ NTok (T.add a.toNat) ∧ (∀ p : xP, p.1 < 3 → p ≠ (0, 0) → I9 p = I p) ∧ ∀ p : xP, p.1 < 3 → A9 p = c.2.2.2 p
theorem cn_netNew {X : xX} {c : xCx} {I : xIn} {T : NT} (hX : xBase X) (d : Nat) (hT : NTok T) (hI : CI I c T) (hn4 : T.N = 0) (hOK : cOK c) (hf : ∀ p k x, c.2.2.1 p k ≠ some (c.1 + 3, x)) {a : Int} (hb : 2 ≤ a ∧ a ≤ 8) : xMet X m_X9_net (d + 7) [xr (0, 0), xi a] (I, xst c) 7 96 (netPo c I T a) := by
  have hT4 := hT.1
  have hc : c.1 = T.N := hI.1
  have ha : xin a := ⟨by omega, by omega⟩
  have hl := hOK.2.2
  refine xMet_of hX pl_X9_net.1 (fun w hw => (pl_X9_net.2.2.1 w hw).1) (by show 1 + (1 + 0) ≤ 2; decide) (fun V hV => ?_)
  have hE := hV.eng
  have h0 : I (0, 0) 1 = (T.N : Int) := hI.2.1
  have main : V 50 [(0, xr (0, 0)), (1, xi a)] [] (I, xst c) 0 0 := by
    refine x_aload_n (pc := 50) (j := 0) hE dX9_net_50 rfl (x_getR (pc := 51) (t := (0, 1)) hE dX9_net_51 fl_RX9_11 rfl (lvm0 _ (by decide)) rfl ?_)
    refine x_aload_n (pc := 54) (j := 0) hE dX9_net_54 rfl (x_getI (pc := 55) hE dX9_net_55 fl_RX9_71 rfl (lvm0 _ (by decide)) ?_)
    show V 58 _ [xi (I (0, 0) 1), xr (0, 1)] _ _ _
    rw [h0]
    have hx1 : ∀ v ∈ ([(0, xr (0, 0)), (1, xi a)] : List (Nat × xV)).map Prod.snd ++ [xi (T.N : Int), xr (0, 1)], xhas (c.1 + 3, 0) v = false := by
      intro v hv
      have : v = xr (0, 0) ∨ v = xi a ∨ v = xi (T.N : Int) ∨ v = xr (0, 1) := by simpa using hv
      rcases this with rfl | rfl | rfl | rfl
      · have : ((0, 0) : xP) ≠ (c.1 + 3, 0) := fun z => by have := (Prod.mk.inj z).1; omega
        simp [xhas, this]
      · rfl
      · rfl
      · have : ((0, 1) : xP) ≠ (c.1 + 3, 0) := fun z => by have := (Prod.mk.inj z).1; omega
        simp [xhas, this]
    refine x_newO (pc := 58) (q := (c.1 + 3, 0)) hE dX9_net_58 rfl (tb1 _ (List.mem_of_getElem? (i := 44) rfl)) (tb2 _ (List.mem_of_getElem? (i := 228) rfl)) (tb1 _ (List.mem_of_getElem? (i := 18) rfl)) fd_X3 rfl (lvL_nn hl) (fun p k => rst_nn hf p k 0) hx1 (Nat.le_of_ble_eq_true rfl) (Nat.le_of_ble_eq_true rfl) (fun b => ?_)
    refine x_dup (pc := 61) hE dX9_net_61 rfl (x_iload_n (pc := 62) (j := 1) hE dX9_net_62 rfl ?_)
    have hN : nOK c.1 (xnew (I, xst c) (c.1 + 3, 0) b) := by
      refine ⟨List.mem_append_right _ (List.mem_singleton.mpr rfl), fun x hx hm => ?_, fun p k x hx => ?_⟩
      · rcases List.mem_append.mp hm with hm | hm
        · exact lvL_nn hl hm
        · have := (Prod.mk.inj (List.mem_singleton.mp hm)).2
          omega
      · show (if p = (c.1 + 3, 0) then fun _ => none else rst c.1 c.2.2.1 p) k ≠ _
        split
        · simp
        · exact rst_nn hf p k x
    refine x_callV (pc := 63) (as := [xi a]) (st := [xr (c.1 + 3, 0), xi (T.N : Int), xr (0, 1)]) hE (ci_X3 hX (d := d + 5) (N := c.1) ha hN) dX9_net_63 pl_X3_init lk_RX9_80 rfl hN.1 rfl rfl (Nat.le_refl _) (Nat.le_of_ble_eq_true rfl) (Nat.le_of_ble_eq_true rfl) (Nat.le_of_ble_eq_true rfl) (fun E h9 hh => by cases hh.1) (fun r h9 hh => ?_)
    obtain ⟨hr, A9, rfl, hA⟩ := hh
    cases hr
    have hA0 : ∀ p : xP, p.1 < 3 → A9 p = c.2.2.2 p := by
      intro p hp
      rw [hA p (Or.inl (by omega))]
      show (if p = (c.1 + 3, 0) then b else c.2.2.2 p) = c.2.2.2 p
      rw [if_neg (fun z => by have := congrArg Prod.fst z; simp at this; omega)]
    refine ⟨⟨?_, ?_⟩, ?_⟩
    · show [(0, Value.ref (A9 (0, 0))), (1, _)] = [(0, Value.ref ((xnew (I, xst c) (c.1 + 3, 0) b).A (0, 0))), (1, _)]
      rw [hA (0, 0) (Or.inl (by show 0 ≠ c.1 + 3; omega))]
      rfl
    · show [Value.ref (A9 (c.1 + 3, 0)), _, Value.ref (A9 (0, 1))] = [Value.ref ((xnew (I, xst c) (c.1 + 3, 0) b).A (c.1 + 3, 0)), _, Value.ref ((xnew (I, xst c) (c.1 + 3, 0) b).A (0, 1))]
      rw [hA (0, 1) (Or.inl (by show 0 ≠ c.1 + 3; omega)), hA (c.1 + 3, 0) (Or.inr rfl)]
      rfl
    have m0 : ∀ j, j < 36 → ((0, j) : xP) ∈ (sN c.1 6 (xu (xnew (I, xst c) (c.1 + 3, 0) b).I (c.1 + 3, 0) 0 a, (xnew (I, xst c) (c.1 + 3, 0) b).2) A9).L := fun j hj => List.mem_append_left _ (List.mem_append_left _ (lvm0 _ hj))
    refine x_aastore (pc := 66) (nn := 4) hE dX9_net_66 rfl (m0 1 (by decide)) rfl (List.mem_append_left _ hN.1) (by omega) (by show (T.N : Int) < 4; omega) ?_
    refine x_aload_n (pc := 67) (j := 0) hE dX9_net_67 rfl (x_dup (pc := 68) hE dX9_net_68 rfl ?_)
    refine x_getI (pc := 69) hE dX9_net_69 fl_RX9_71 rfl (m0 0 (by decide)) ?_
    refine x_iconst (pc := 72) hE dX9_net_72 (x_iadd (pc := 73) hE dX9_net_73 ?_)
    have hz0 : ∀ (α : Type) (z : α) (I9 : xP → Nat → α) (p : xP), p.1 < 3 → zA z c.1 6 I9 p = I9 p := by
      intro α z I9 p hp
      unfold zA
      rw [if_neg (by omega)]
    have hi0 : ∀ p : xP, p.1 < 3 → zA 0 c.1 6 (xu (xnew (I, xst c) (c.1 + 3, 0) b).I (c.1 + 3, 0) 0 a) p = I p := by
      intro p hp
      have hne : p ≠ (c.1 + 3, 0) := fun z => by have := congrArg Prod.fst z; simp at this; omega
      rw [hz0 _ _ _ p hp, xu_p hne]
      show (if p = (c.1 + 3, 0) then fun _ => 0 else I p) = I p
      rw [if_neg hne]
    show V 74 _ [xi (zA 0 c.1 6 (xu (xnew (I, xst c) (c.1 + 3, 0) b).I (c.1 + 3, 0) 0 a) (0, 0) 1 + 1), xr (0, 0)] _ _ _
    rw [hi0 (0, 0) (by decide), h0]
    refine x_putI (pc := 74) hE dX9_net_74 fl_RX9_71 rfl (m0 0 (by decide)) rfl (⟨by omega, by omega⟩ : xin ((T.N : Int) + 1)) ?_
    refine x_aload_n (pc := 77) (j := 0) hE dX9_net_77 rfl (x_getI (pc := 78) hE dX9_net_78 fl_RX9_71 rfl (m0 0 (by decide)) ?_)
    refine x_iconst (pc := 81) hE dX9_net_81 (x_isub (pc := 82) hE dX9_net_82 ?_)
    show V 83 _ [xi (xu (zA 0 c.1 6 (xu (xnew (I, xst c) (c.1 + 3, 0) b).I (c.1 + 3, 0) 0 a)) (0, 0) 1 ((T.N : Int) + 1) (0, 0) 1 - 1)] _ _ _
    rw [xu_same, show (T.N : Int) + 1 - 1 = (T.N : Int) by omega]
    refine x_le (pc := 83) hE (h0 := (xu (zA 0 c.1 6 (xu (xnew (I, xst c) (c.1 + 3, 0) b).I (c.1 + 3, 0) 0 a)) (0, 0) 1 ((T.N : Int) + 1), xst (c.1 + 1, c.2.1, c.2.2.1, A9))) ?_ ?_ ?_
    · have hR := rst_ad (N := c.1) (f := c.2.2.1) (R := (xnew (I, xst c) (c.1 + 3, 0) b).R) (fun p hp => if_neg hp) (fun k => by show (if ((c.1 + 3, 0) : xP) = (c.1 + 3, 0) then fun _ => none else rst c.1 c.2.2.1 (c.1 + 3, 0)) k = none; rw [if_pos rfl])
      refine ⟨lv_nodup (c := (c.1 + 1, c.2.1, c.2.2.1, A9)) ⟨by show c.1 + 1 ≤ 1; omega, hOK.2⟩, fun p hp => ⟨?_, rfl, ?_, rfl, fun _ _ _ => rfl⟩, fun h => h⟩
      · have hp : p ∈ lvL (c.1 + 1) c.2.1 := hp
        show p ∈ (lvL c.1 c.2.1 ++ [((c.1 + 3, 0) : xP)]) ++ (List.range 6).map (fun x => ((c.1 + 3, x + 1) : xP))
        rcases List.mem_append.mp hp with hp | hp
        · exact List.mem_append_left _ (List.mem_append_left _ (List.mem_append_left _ hp))
        · rcases List.mem_append.mp hp with hp | hp
          · obtain ⟨i, hi, hp⟩ := List.mem_flatMap.mp hp
            obtain ⟨j, hj, rfl⟩ := List.mem_map.mp hp
            have hi := List.mem_range.mp hi
            have hj := List.mem_range.mp hj
            by_cases hic : i = c.1
            · subst hic
              match j with
              | 0 => exact List.mem_append_left _ (List.mem_append_right _ (List.mem_singleton.mpr rfl))
              | j + 1 => exact List.mem_append_right _ (List.mem_map.mpr ⟨j, List.mem_range.mpr (by omega), rfl⟩)
            · exact List.mem_append_left _ (List.mem_append_left _ (lvmN (by omega) hj))
          · exact List.mem_append_left _ (List.mem_append_left _ (lvmX hp))
      · show rst (c.1 + 1) c.2.2.1 p = xuR (zR c.1 6 (xnew (I, xst c) (c.1 + 3, 0) b).R) (0, 1) (Int.toNat (T.N : Int)) (some (c.1 + 3, 0)) p
        rw [Int.toNat_natCast, ← hc, hR]
    · exact ⟨rfl, rfl⟩
    refine x_reti (pc := 83) hV dX9_net_83 rfl (Nat.le_of_ble_eq_true rfl) (Nat.le_of_ble_eq_true rfl) ⟨rfl, xu (zA 0 c.1 6 (xu (xnew (I, xst c) (c.1 + 3, 0) b).I (c.1 + 3, 0) 0 a)) (0, 0) 1 ((T.N : Int) + 1), A9, rfl, ?_, hT.add (by omega) (by omega), ?_, hA0⟩
    · have hta : (Int.toNat a : Int) = a := Int.toNat_of_nonneg (by omega)
      refine hI.add (by omega) rfl ?_ ?_ ?_ ?_ ?_
      · rw [xu_same]
      · intro p q1 q2
        rw [xu_p (fun z => q1 (by rw [z]))]
        have hne : p ≠ (c.1 + 3, 0) := fun z => q2 (by rw [z, hc])
        unfold zA
        rw [if_neg (by omega), xu_p hne]
        show (if p = (c.1 + 3, 0) then fun _ => 0 else I p) = I p
        rw [if_neg hne]
      · rw [xu_p (fun z => by have := (Prod.mk.inj z).1; omega), ← hc]
        unfold zA
        rw [if_neg (by simp), xu_same, hta]
      · rw [xu_p (fun z => by have := (Prod.mk.inj z).1; omega), ← hc]
        unfold zA
        rw [if_neg (by simp), xu_k (by decide)]
        show (if ((c.1 + 3, 0) : xP) = (c.1 + 3, 0) then fun _ => 0 else I (c.1 + 3, 0)) 7 = 0
        rw [if_pos rfl]
      · intro x
        rw [xu_p (fun z => by have := (Prod.mk.inj z).1; omega), ← hc]
        unfold zA
        rw [if_pos (c := (c.1 + 3, 6).1 = c.1 + 3 ∧ 1 ≤ (c.1 + 3, 6).2 ∧ (c.1 + 3, 6).2 ≤ 6) ⟨rfl, by show 1 ≤ 6; decide, by show 6 ≤ 6; decide⟩]
    · intro p q1 q2
      rw [xu_p q2]
      exact hi0 p q1
  show V 0 [(0, xr (0, 0)), (1, xi a)] [] (I, xst c) 0 0
  refine x_iload_n (pc := 0) (j := 1) hE dX9_net_0 rfl (x_iconst (pc := 1) hE dX9_net_1 ?_)
  refine x_icmp_lt (pc := 2) hE dX9_net_2 rfl ha (by decide) (fun h1 => by omega) (fun h1 => ?_)
  refine x_iload_n (pc := 5) (j := 1) hE dX9_net_5 rfl (x_bipush (pc := 6) hE dX9_net_6 (by decide) ?_)
  refine x_icmp_le (pc := 8) hE dX9_net_8 rfl ha (by decide) (fun h2 => ?_) (fun h2 => by omega)
  refine x_aload_n (pc := 21) (j := 0) hE dX9_net_21 rfl (x_getI (pc := 22) hE dX9_net_22 fl_RX9_71 rfl (lvm0 _ (by decide)) ?_)
  show V 25 _ [xi (I (0, 0) 1)] _ _ _
  rw [h0]
  refine x_if_lt (pc := 25) hE dX9_net_25 rfl (⟨by omega, by omega⟩ : xin (T.N : Int)) (fun h3 => ?_) (fun h3 => ?_)
  · omega
  · refine x_aload_n (pc := 28) (j := 0) hE dX9_net_28 rfl (x_getI (pc := 29) hE dX9_net_29 fl_RX9_71 rfl (lvm0 _ (by decide)) ?_)
    show V 32 _ [xi (I (0, 0) 1)] _ _ _
    rw [h0]
    refine x_aload_n (pc := 32) (j := 0) hE dX9_net_32 rfl (x_getR (pc := 33) (t := (0, 1)) hE dX9_net_33 fl_RX9_11 rfl (lvm0 _ (by decide)) rfl ?_)
    refine x_alen (pc := 36) (nn := 4) hE dX9_net_36 (Or.inr rfl) (lvm0 _ (by decide)) ?_
    exact x_icmp_lt (pc := 37) hE dX9_net_37 rfl (⟨by omega, by omega⟩ : xin (T.N : Int)) (by decide) (fun h4 => main) (fun h4 => by omega)
