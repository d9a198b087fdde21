/-! the class makes and changes nets -/
section CNM
variable {X : xX} {c : xCx} {I : xIn} {T : NT} {a s t e lo hi co : Int}
theorem cn_needNumbers (hX : xBase X) (d : Nat) (h1 : xin lo) (h2 : xin hi) (h3 : xin co) : xRet rU X m_X9_needNumbers (d + 7) [xi lo, xi hi, xi co] c I 1 6 (fun _ I9 => I9 = I ∧ okB lo hi co = true) (fun e I9 => e = xIAE ∧ I9 = I ∧ okB lo hi co = false) :=
  xRet_of hX pl_X9_needNumbers (LE1 rfl) fun V hV => rg_X9_needNumbers_0 hV I _ _ _ ⟨h1, fun h => ⟨rfl, rfl, decide_eq_false (by omega)⟩, fun h => ⟨h2, fun h => ⟨rfl, rfl, decide_eq_false (by omega)⟩, fun h => ⟨fun h => ⟨rfl, rfl, decide_eq_false (by omega)⟩, fun h => ⟨h3, fun h => ⟨rfl, rfl, decide_eq_false (by omega)⟩, fun h => ⟨fun h => ⟨rfl, decide_eq_true (by omega)⟩, fun h => ⟨rfl, rfl, decide_eq_false (by omega)⟩⟩⟩⟩⟩⟩
theorem nt_set (hX : xBase X) (d : Nat) {i : Nat} (hi9 : i < c.1) {m e : Nat} (hm : I (i + 3, 0) 7 = (m : Int)) (hm16 : m ≤ 16) (he : e < m) (h1 : xin lo) (h2 : xin hi) (h3 : xin co) : xRet rU X m_X3_set d [xr (i + 3, 0), xi (e : Int), xi lo, xi hi, xi co] c I 0 0 (fun _ I9 => kp [(i + 3, 3), (i + 3, 4), (i + 3, 5)] I I9 ∧ I9 (i + 3, 3) = upL (I (i + 3, 3)) e lo ∧ I9 (i + 3, 4) = upL (I (i + 3, 4)) e hi ∧ I9 (i + 3, 5) = upL (I (i + 3, 5)) e co) xNo := by
  refine xRet_of hX pl_X3_set (LE1 rfl) fun V hV => rg_X3_set_0 hV I _ hi9 _ _ _ _ ⟨⟨by omega, by omega⟩, fun h => by omega, fun h => ⟨fun h => by omega, fun _ => ⟨⟨by omega, by omega⟩, h1, ?_⟩⟩⟩
  rw [tnN]
  rintro _ rfl
  refine ⟨h2, ?_⟩
  rintro _ rfl
  refine ⟨h3, ?_⟩
  rintro _ rfl
  refine ⟨((kp.rfl.xu (by simp)).xu (by simp)).xu (by simp), ?_, ?_, ?_⟩
  · rw [xu_p (by simp), xu_p (by simp), xuL]
  · rw [xu_p (by simp), xuL, xu_p (by simp)]
  · rw [xuL, xu_p (by simp), xu_p (by simp)]
theorem nt_put (hX : xBase X) (d : Nat) {i : Nat} (hi9 : i < c.1) {m : Nat} (hm : I (i + 3, 0) 7 = (m : Int)) (hm16 : m < 16) {s t : Nat} (hs : s < 8) (ht : t < 8) (h1 : xin lo) (h2 : xin hi) (h3 : xin co) : xRet rI X m_X3_put (d + 1) [xr (i + 3, 0), xi (s : Int), xi (t : Int), xi lo, xi hi, xi co] c I 0 0 (fun v I9 => v = (m : Int) ∧ kp [(i + 3, 0), (i + 3, 1), (i + 3, 2), (i + 3, 3), (i + 3, 4), (i + 3, 5)] I I9 ∧ I9 (i + 3, 0) = upL (I (i + 3, 0)) 7 ((m : Int) + 1) ∧ I9 (i + 3, 1) = upL (I (i + 3, 1)) m s ∧ I9 (i + 3, 2) = upL (I (i + 3, 2)) m t ∧ I9 (i + 3, 3) = upL (I (i + 3, 3)) m lo ∧ I9 (i + 3, 4) = upL (I (i + 3, 4)) m hi ∧ I9 (i + 3, 5) = upL (I (i + 3, 5)) m co) xNo := by
  refine xRet_of hX pl_X3_put (LE1 rfl) fun V hV => rg_X3_put_0 hV I _ hi9 _ _ _ _ _ ⟨fun h => by omega, fun _ => ⟨fun _ => ⟨⟨by omega, by omega⟩, ⟨by omega, by omega⟩, ?_⟩, fun h => by omega⟩⟩
  rw [hm, tnN]
  rintro I1 h11
  have q1 : I1 (i + 3, 0) = I (i + 3, 0) := by rw [h11, xu_p (by simp)]
  rw [q1, hm, tnN]
  refine ⟨⟨by omega, by omega⟩, ⟨by omega, by omega⟩, ?_⟩
  rintro I2 h22
  have q2 : I2 (i + 3, 0) = I (i + 3, 0) := by rw [h22, xu_p (by simp), q1]
  rw [q2, hm]
  refine ⟨⟨by omega, by omega⟩, ?_⟩
  rintro I3 h33
  have q3 : I3 (i + 3, 0) = upL (I (i + 3, 0)) 7 ((m : Int) + 1) := by rw [h33, xuL, q2]
  have k3 : kp [(i + 3, 0), (i + 3, 1), (i + 3, 2)] I I3 := by rw [h33, h22, h11]; exact ((kp.rfl.xu (by simp)).xu (by simp)).xu (by simp)
  have r1 : I3 (i + 3, 1) = upL (I (i + 3, 1)) m s := by rw [h33, xu_p (by simp), h22, xu_p (by simp), h11, xuL]
  have r2 : I3 (i + 3, 2) = upL (I (i + 3, 2)) m t := by rw [h33, xu_p (by simp), h22, xuL, h11, xu_p (by simp)]
  have q37 : I3 (i + 3, 0) 7 = ((m + 1 : Nat) : Int) := by rw [q3, upL_s]; rfl
  clear h11 h22 h33
  rw [q37, show ((m + 1 : Nat) : Int) - 1 = (m : Int) by omega]
  refine ⟨_, nt_set hX d hi9 q37 (by omega) (by omega) h1 h2 h3, ?_⟩
  rintro _ I4 ⟨k4, w3, w4, w5⟩
  have q4 : I4 (i + 3, 0) = I3 (i + 3, 0) := k4 _ (by simp)
  refine ⟨by rw [q4, q37]; omega, (k3.mo (by simp)).tr (k4.mo (by simp)), q4.trans q3, (k4 _ (by simp)).trans r1, (k4 _ (by simp)).trans r2, ?_, ?_, ?_⟩
  · rw [w3, k3 _ (by simp)]
  · rw [w4, k3 _ (by simp)]
  · rw [w5, k3 _ (by simp)]
theorem CI.net {I : xIn} {c : xCx} {T : NT} (h : CI I c T) {i : Nat} (hi : i < T.N) : CNet I c i (T.G i) (T.lo i) (T.hi i) (T.co i) (T.su i) := h.2.2 i hi
theorem cn_edge (hX : xBase X) (d : Nat) (hT : NTok T) (hI : CI I c T) (ha : xin a) (hs : xin s) (ht : xin t) (h1 : xin lo) (h2 : xin hi) (h3 : xin co) : xRet rI X m_X9_edge (d + 8) [xr (0, 0), xi a, xi s, xi t, xi lo, xi hi, xi co] c I 4 24 (fun v I9 => (∀ p : xP, p.1 < 3 → I9 p = I p) ∧ CI I9 c (edgeA T a s t lo hi co).2 ∧ (v, 0) = (edgeA T a s t lo hi co).1) (fun x I9 => I9 = I ∧ (edgeA T a s t lo hi co).2 = T ∧ exL [xIOB, xIAE, xISE] x (edgeA T a s t lo hi co).1.2) := by
  have hwc := wrong_c T a s t
  refine xRet_of hX pl_X9_edge (LE1 rfl) fun V hV => rg_X9_edge_0 hV I _ _ _ _ _ _ (go_ends hX d hT hI ha hs ht (fun x hx hw => ⟨rfl, by unfold edgeA; rw [if_pos hw], by unfold edgeA; rw [if_pos hw]; exact hx.l (by omega)⟩) ?_)
  rintro i s t rfl rfl rfl hi9 hC hs9 ht9 hst hw
  have hG := hC.2.2.2.1
  have hn := hG.2.1
  have hm := hG.2.2.1
  obtain ⟨-, n2, n3⟩ := hI.net hi9
  have hA : edgeA T (i : Int) (s : Int) (t : Int) lo hi co = if okB lo hi co then (if (T.G i).m = 16 then ((0, 3), T) else ((((T.G i).m : Int), 0), T.put i (bk (T.G i) t s) (upL (T.lo i) (T.G i).m lo) (upL (T.hi i) (T.G i).m hi) (upL (T.co i) (T.G i).m co) (T.su i))) else ((0, 2), T) := by
    unfold edgeA
    rw [if_neg (by omega), tnN, tnN, tnN]
  rw [hA]
  refine ⟨_, _, cn_needNumbers hX d h1 h2 h3, ?_, ?_⟩
  · rintro x J ⟨rfl, rfl, hb⟩
    rw [if_neg (by rw [hb]; decide)]
    exact ⟨rfl, rfl, 1, rfl, rfl⟩
  rintro _ J ⟨rfl, hb⟩
  rw [if_pos hb, hC.2.2.1]
  refine ⟨fun hlt => ⟨_, nt_put hX (d + 6) hC.1 hC.2.2.1 (by omega) (by omega) (by omega) h1 h2 h3, ?_⟩, fun hge => ?_⟩
  · rintro v J2 ⟨hv, k1, w0, w1, w2, w3, w4, w5⟩
    rw [if_neg (by omega)]
    have kk : ∀ p : xP, p.1 ≠ i + 3 → J2 p = J p := fun p hp => k1 p fun hm => by
      simp only [List.mem_cons, List.mem_nil_iff, or_false] at hm
      rcases hm with rfl | rfl | rfl | rfl | rfl | rfl <;> exact hp rfl
    refine ⟨fun p hp => kk p (by omega), hI.put kk ⟨⟨hC.1, ?_, ?_, bk_OK hG hs9 ht9 hst (by omega), fun e he => ?_⟩, fun e he => ?_, fun x hx => ?_⟩, by rw [hv]⟩
    · rw [w0, upL_n (by decide)]; exact hC.2.1
    · rw [w0, upL_s]; rfl
    · have he : e < (T.G i).m + 1 := he
      show J2 (i + 3, 1) e = (((if e = (T.G i).m then s else (T.G i).u e) : Nat) : Int) ∧ J2 (i + 3, 2) e = (((if e = (T.G i).m then t else (T.G i).v e) : Nat) : Int)
      rw [w1, w2]
      by_cases hem : e = (T.G i).m
      · rw [if_pos hem, if_pos hem, hem, upL_s, upL_s]; exact ⟨rfl, rfl⟩
      · rw [if_neg hem, if_neg hem, upL_n hem, upL_n hem]; exact hC.2.2.2.2 e (by omega)
    · have he : e < (T.G i).m + 1 := he
      rw [w3, w4, w5]
      by_cases hem : e = (T.G i).m
      · rw [hem, upL_s, upL_s, upL_s, upL_s, upL_s, upL_s]; exact ⟨rfl, rfl, rfl⟩
      · rw [upL_n hem, upL_n hem, upL_n hem, upL_n hem, upL_n hem, upL_n hem]; exact n2 e (by omega)
    · rw [k1 _ (by simp)]; exact n3 x hx
  · rw [if_pos (by omega)]
    exact ⟨rfl, rfl, 2, rfl, rfl⟩
theorem cn_change (hX : xBase X) (d : Nat) (hT : NTok T) (hI : CI I c T) (ha : xin a) (he : xin e) (h1 : xin lo) (h2 : xin hi) (h3 : xin co) : xRet rI X m_X9_change (d + 8) [xr (0, 0), xi a, xi e, xi lo, xi hi, xi co] c I 3 18 (fun v I9 => (∀ p : xP, p.1 < 3 → I9 p = I p) ∧ CI I9 c (changeA T a e lo hi co).2 ∧ (v, 0) = (changeA T a e lo hi co).1) (fun x I9 => I9 = I ∧ (changeA T a e lo hi co).2 = T ∧ exL [xIOB, xIAE] x (changeA T a e lo hi co).1.2) := by
  have hwc := wrong1E_c T a e
  refine xRet_of hX pl_X9_change (LE1 rfl) fun V hV => rg_X9_change_0 hV I _ _ _ _ _ (go_edge hX d hT hI ha he (fun x hx hw => ⟨rfl, by unfold changeA; rw [if_pos hw], by unfold changeA; rw [if_pos hw]; exact hx.l (by omega)⟩) ?_)
  rintro i e rfl rfl hi9 hC he9 hw
  have hG := hC.2.2.2.1
  have hm := hG.2.2.1
  obtain ⟨-, n2, n3⟩ := hI.net hi9
  have hA : changeA T (i : Int) (e : Int) lo hi co = if okB lo hi co then ((T.hi i e, 0), T.put i (T.G i) (upL (T.lo i) e lo) (upL (T.hi i) e hi) (upL (T.co i) e co) (T.su i)) else ((0, 2), T) := by
    unfold changeA
    rw [if_neg (by omega), tnN, tnN]
  rw [hA]
  refine ⟨_, _, cn_needNumbers hX d h1 h2 h3, ?_, ?_⟩
  · rintro x J ⟨rfl, rfl, hb⟩
    rw [if_neg (by rw [hb]; decide)]
    exact ⟨rfl, rfl, 1, rfl, rfl⟩
  rintro _ J ⟨rfl, hb⟩
  rw [if_pos hb, tnN]
  refine ⟨⟨by omega, by omega⟩, ?_⟩
  rintro v hv
  refine ⟨_, nt_set hX (d + 7) hC.1 hC.2.2.1 hm he9 h1 h2 h3, ?_⟩
  rintro _ J2 ⟨k1, w3, w4, w5⟩
  have kk : ∀ p : xP, p.1 ≠ i + 3 → J2 p = J p := fun p hp => k1 p fun hm => by
    simp only [List.mem_cons, List.mem_nil_iff, or_false] at hm
    rcases hm with rfl | rfl | rfl <;> exact hp rfl
  refine ⟨fun p hp => kk p (by omega), hI.put kk ⟨⟨hC.1, ?_, ?_, hG, fun k hk => ?_⟩, fun k hk => ?_, fun x hx => ?_⟩, by rw [hv, (n2 e he9).2.1]⟩
  · rw [k1 _ (by simp)]; exact hC.2.1
  · rw [k1 _ (by simp)]; exact hC.2.2.1
  · rw [k1 _ (by simp), k1 _ (by simp)]; exact hC.2.2.2.2 k hk
  · rw [w3, w4, w5]
    by_cases hke : k = e
    · rw [hke, upL_s, upL_s, upL_s, upL_s, upL_s, upL_s]; exact ⟨rfl, rfl, rfl⟩
    · rw [upL_n hke, upL_n hke, upL_n hke, upL_n hke, upL_n hke, upL_n hke]; exact n2 k hk
  · rw [k1 _ (by simp)]; exact n3 x hx
theorem cn_supply (hX : xBase X) (d : Nat) (hT : NTok T) (hI : CI I c T) (ha : xin a) (he : xin e) {v : Int} (h1 : xin v) : xRet rI X m_X9_supply (d + 8) [xr (0, 0), xi a, xi e, xi v] c I 3 18 (fun w I9 => (∀ p : xP, p.1 < 3 → I9 p = I p) ∧ CI I9 c (supplyA T a e v).2 ∧ (w, 0) = (supplyA T a e v).1) (fun x I9 => I9 = I ∧ (supplyA T a e v).2 = T ∧ exL [xIOB, xIAE] x (supplyA T a e v).1.2) := by
  have hwc := wrong1C_c T a e
  refine xRet_of hX pl_X9_supply (LE1 rfl) fun V hV => rg_X9_supply_0 hV I _ _ _ (go_corner hX d hT hI ha he (fun x hx hw => ⟨rfl, by unfold supplyA; rw [if_pos hw], by unfold supplyA; rw [if_pos hw]; exact hx.l (by omega)⟩) ?_)
  rintro i x rfl rfl hi9 hC hx9 hw
  have hG := hC.2.2.2.1
  have hn := hG.2.1
  obtain ⟨-, n2, n3⟩ := hI.net hi9
  have hA : supplyA T (i : Int) (x : Int) v = if -99 ≤ v ∧ v ≤ 99 then ((T.su i x, 0), T.put i (T.G i) (T.lo i) (T.hi i) (T.co i) (upL (T.su i) x v)) else ((0, 2), T) := by
    unfold supplyA
    rw [if_neg (by omega), tnN, tnN]
  rw [hA]
  refine ⟨h1, fun h => ?_, fun h => ⟨fun h2 => ⟨⟨by omega, by omega⟩, ?_⟩, fun h2 => ?_⟩⟩
  · rw [if_neg (by omega)]; exact ⟨rfl, rfl, 1, rfl, rfl⟩
  · rw [if_pos ⟨h, h2⟩, tnN]
    rintro w hw9 J2 h9
    have kk : ∀ p : xP, p.1 ≠ i + 3 → J2 p = I p := fun p hp => by rw [h9]; exact xu_p (fun z => hp (by rw [z]))
    have k1 : kp [(i + 3, 6)] I J2 := by rw [h9]; exact kp.rfl.xu (by simp)
    refine ⟨fun p hp => kk p (by omega), hI.put kk ⟨⟨hC.1, ?_, ?_, hG, fun k hk => ?_⟩, fun k hk => ?_, fun y hy => ?_⟩, by rw [hw9, n3 x hx9]⟩
    · rw [k1 _ (by simp)]; exact hC.2.1
    · rw [k1 _ (by simp)]; exact hC.2.2.1
    · rw [k1 _ (by simp), k1 _ (by simp)]; exact hC.2.2.2.2 k hk
    · rw [k1 _ (by simp), k1 _ (by simp), k1 _ (by simp)]; exact n2 k hk
    · rw [h9, xuL]
      by_cases hyx : y = x
      · rw [hyx, upL_s, upL_s]
      · rw [upL_n hyx, upL_n hyx]; exact n3 y hy
  · rw [if_neg (by omega)]; exact ⟨rfl, rfl, 1, rfl, rfl⟩
/-- as rows are while later edges are moved down to k - 1 -/
def mvL (f : Nat → Int) (e k : Nat) : Nat → Int := fun j => if e ≤ j ∧ j + 1 < k then f (j + 1) else f j
theorem mvL_0 (f : Nat → Int) (e : Nat) : mvL f e (e + 1) = f := by funext j; exact if_neg (by omega)
theorem mvL_s (f : Nat → Int) (e k : Nat) (hk : e < k) : upL (mvL f e k) (k - 1) (mvL f e k k) = mvL f e (k + 1) := by
  funext j
  unfold upL mvL
  by_cases h1 : j = k - 1
  · rw [if_pos h1, if_neg (by omega), if_pos (by omega), h1, show k - 1 + 1 = k by omega]
  · rw [if_neg h1]
    by_cases h2 : e ≤ j ∧ j + 1 < k
    · rw [if_pos h2, if_pos (by omega)]
    · rw [if_neg h2, if_neg (by omega)]
theorem mvL_out {α : Type} (g : α → Int) (f : Nat → α) (h : Nat → Int) (e m k : Nat) (hh : ∀ j, j < m → h j = g (f j)) (hk : k < m - 1) : mvL h e m k = g (outN f e k) := by
  unfold mvL outN
  by_cases h1 : k < e
  · rw [if_pos h1, if_neg (by omega)]; exact hh k (by omega)
  · rw [if_neg h1, if_pos (by omega)]; exact hh (k + 1) (by omega)
end CNM
