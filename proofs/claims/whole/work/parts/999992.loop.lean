/-! the law's loop -/
set_option maxRecDepth 100000 in
theorem law_switch {X : xX} (hX : xBase X) {V : xT} {mc ms : Nat} (hE : xEng X m_L_law 12 mc ms V) {b L : Nat} {xs : Nat → Int32} (hs : LSc X b L xs) {c : xCx} {I : xIn} {σ : St9} (hσ : SK σ) (hC : CC I c σ) (hM : MM I σ) (hA : c.2.2.2 (2, 9) = b) {i : Nat} (hi : i + 7 ≤ L) {k n : Nat} (hk : k + 10 ≤ mc) (hn : n + 200 ≤ ms) (next : Nxt V b i k n) {j : Nat} (hj : j < 50) : V 45 [(0, xr (2, 9)), (1, xr (0, 0)), (2, xr (1, 0)), (3, xr (2, 0)), (4, xr (2, 1)), (5, xi (i : Int))] [xi (j : Int)] (I, xst c) k n := by
  match j, hj with
  | 0, _ => exact x_swIn (pc := 45) (tgt := 260) (off := 215) hE dL_law_45 (by decide) (by decide) (by decide) rfl rfl (li_0 hX hE hs hσ hC hM hA hi hk hn next)
  | 1, _ => exact x_swIn (pc := 45) (tgt := 316) (off := 271) hE dL_law_45 (by decide) (by decide) (by decide) rfl rfl (li_1 hX hE hs hσ hC hM hA hi hk hn next)
  | 2, _ => exact x_swIn (pc := 45) (tgt := 434) (off := 389) hE dL_law_45 (by decide) (by decide) (by decide) rfl rfl (li_2 hX hE hs hσ hC hM hA hi hk hn next)
  | 3, _ => exact x_swIn (pc := 45) (tgt := 538) (off := 493) hE dL_law_45 (by decide) (by decide) (by decide) rfl rfl (li_3 hX hE hs hσ hC hM hA hi hk hn next)
  | 4, _ => exact x_swIn (pc := 45) (tgt := 606) (off := 561) hE dL_law_45 (by decide) (by decide) (by decide) rfl rfl (li_4 hX hE hs hσ hC hM hA hi hk hn next)
  | 5, _ => exact x_swIn (pc := 45) (tgt := 662) (off := 617) hE dL_law_45 (by decide) (by decide) (by decide) rfl rfl (li_5 hX hE hs hσ hC hM hA hi hk hn next)
  | 6, _ => exact x_swIn (pc := 45) (tgt := 742) (off := 697) hE dL_law_45 (by decide) (by decide) (by decide) rfl rfl (li_6 hX hE hs hσ hC hM hA hi hk hn next)
  | 7, _ => exact x_swIn (pc := 45) (tgt := 822) (off := 777) hE dL_law_45 (by decide) (by decide) (by decide) rfl rfl (li_7 hX hE hs hσ hC hM hA hi hk hn next)
  | 8, _ => exact x_swIn (pc := 45) (tgt := 914) (off := 869) hE dL_law_45 (by decide) (by decide) (by decide) rfl rfl (li_8 hX hE hs hσ hC hM hA hi hk hn next)
  | 9, _ => exact x_swIn (pc := 45) (tgt := 994) (off := 949) hE dL_law_45 (by decide) (by decide) (by decide) rfl rfl (li_9 hX hE hs hσ hC hM hA hi hk hn next)
  | 10, _ => exact x_swIn (pc := 45) (tgt := 1102) (off := 1057) hE dL_law_45 (by decide) (by decide) (by decide) rfl rfl (li_10 hX hE hs hσ hC hM hA hi hk hn next)
  | 11, _ => exact x_swIn (pc := 45) (tgt := 1194) (off := 1149) hE dL_law_45 (by decide) (by decide) (by decide) rfl rfl (li_11 hX hE hs hσ hC hM hA hi hk hn next)
  | 12, _ => exact x_swIn (pc := 45) (tgt := 1274) (off := 1229) hE dL_law_45 (by decide) (by decide) (by decide) rfl rfl (li_12 hX hE hs hσ hC hM hA hi hk hn next)
  | 13, _ => exact x_swIn (pc := 45) (tgt := 1373) (off := 1328) hE dL_law_45 (by decide) (by decide) (by decide) rfl rfl (li_13 hX hE hs hσ hC hM hA hi hk hn next)
  | 14, _ => exact x_swIn (pc := 45) (tgt := 1453) (off := 1408) hE dL_law_45 (by decide) (by decide) (by decide) rfl rfl (li_14 hX hE hs hσ hC hM hA hi hk hn next)
  | 15, _ => exact x_swIn (pc := 45) (tgt := 1545) (off := 1500) hE dL_law_45 (by decide) (by decide) (by decide) rfl rfl (li_15 hX hE hs hσ hC hM hA hi hk hn next)
  | 16, _ => exact x_swIn (pc := 45) (tgt := 1649) (off := 1604) hE dL_law_45 (by decide) (by decide) (by decide) rfl rfl (li_16 hX hE hs hσ hC hM hA hi hk hn next)
  | 17, _ => exact x_swIn (pc := 45) (tgt := 1729) (off := 1684) hE dL_law_45 (by decide) (by decide) (by decide) rfl rfl (li_17 hX hE hs hσ hC hM hA hi hk hn next)
  | 18, _ => exact x_swIn (pc := 45) (tgt := 1821) (off := 1776) hE dL_law_45 (by decide) (by decide) (by decide) rfl rfl (li_18 hX hE hs hσ hC hM hA hi hk hn next)
  | 19, _ => exact x_swIn (pc := 45) (tgt := 1913) (off := 1868) hE dL_law_45 (by decide) (by decide) (by decide) rfl rfl (li_19 hX hE hs hσ hC hM hA hi hk hn next)
  | 20, _ => exact x_swIn (pc := 45) (tgt := 1993) (off := 1948) hE dL_law_45 (by decide) (by decide) (by decide) rfl rfl (li_20 hX hE hs hσ hC hM hA hi hk hn next)
  | 21, _ => exact x_swIn (pc := 45) (tgt := 2073) (off := 2028) hE dL_law_45 (by decide) (by decide) (by decide) rfl rfl (li_21 hX hE hs hσ hC hM hA hi hk hn next)
  | 22, _ => exact x_swIn (pc := 45) (tgt := 2153) (off := 2108) hE dL_law_45 (by decide) (by decide) (by decide) rfl rfl (li_22 hX hE hs hσ hC hM hA hi hk hn next)
  | 23, _ => exact x_swIn (pc := 45) (tgt := 2245) (off := 2200) hE dL_law_45 (by decide) (by decide) (by decide) rfl rfl (li_23 hX hE hs hσ hC hM hA hi hk hn next)
  | 24, _ => exact x_swIn (pc := 45) (tgt := 2337) (off := 2292) hE dL_law_45 (by decide) (by decide) (by decide) rfl rfl (li_24 hX hE hs hσ hC hM hA hi hk hn next)
  | 25, _ => exact x_swIn (pc := 45) (tgt := 2400) (off := 2355) hE dL_law_45 (by decide) (by decide) (by decide) rfl rfl (li_25 hX hE hs hσ hC hM hA hi hk hn next)
  | 26, _ => exact x_swIn (pc := 45) (tgt := 2468) (off := 2423) hE dL_law_45 (by decide) (by decide) (by decide) rfl rfl (li_26 hX hE hs hσ hC hM hA hi hk hn next)
  | 27, _ => exact x_swIn (pc := 45) (tgt := 2524) (off := 2479) hE dL_law_45 (by decide) (by decide) (by decide) rfl rfl (li_27 hX hE hs hσ hC hM hA hi hk hn next)
  | 28, _ => exact x_swIn (pc := 45) (tgt := 2592) (off := 2547) hE dL_law_45 (by decide) (by decide) (by decide) rfl rfl (li_28 hX hE hs hσ hC hM hA hi hk hn next)
  | 29, _ => exact x_swIn (pc := 45) (tgt := 2672) (off := 2627) hE dL_law_45 (by decide) (by decide) (by decide) rfl rfl (li_29 hX hE hs hσ hC hM hA hi hk hn next)
  | 30, _ => exact x_swIn (pc := 45) (tgt := 2764) (off := 2719) hE dL_law_45 (by decide) (by decide) (by decide) rfl rfl (li_30 hX hE hs hσ hC hM hA hi hk hn next)
  | 31, _ => exact x_swIn (pc := 45) (tgt := 2832) (off := 2787) hE dL_law_45 (by decide) (by decide) (by decide) rfl rfl (li_31 hX hE hs hσ hC hM hA hi hk hn next)
  | 32, _ => exact x_swIn (pc := 45) (tgt := 2845) (off := 2800) hE dL_law_45 (by decide) (by decide) (by decide) rfl rfl (li_32 hX hE hs hσ hC hM hA hi hk hn next)
  | 33, _ => exact x_swIn (pc := 45) (tgt := 2901) (off := 2856) hE dL_law_45 (by decide) (by decide) (by decide) rfl rfl (li_33 hX hE hs hσ hC hM hA hi hk hn next)
  | 34, _ => exact x_swIn (pc := 45) (tgt := 2942) (off := 2897) hE dL_law_45 (by decide) (by decide) (by decide) rfl rfl (li_34 hX hE hs hσ hC hM hA hi hk hn next)
  | 35, _ => exact x_swIn (pc := 45) (tgt := 2986) (off := 2941) hE dL_law_45 (by decide) (by decide) (by decide) rfl rfl (li_35 hX hE hs hσ hC hM hA hi hk hn next)
  | 36, _ => exact x_swIn (pc := 45) (tgt := 3042) (off := 2997) hE dL_law_45 (by decide) (by decide) (by decide) rfl rfl (li_36 hX hE hs hσ hC hM hA hi hk hn next)
  | 37, _ => exact x_swIn (pc := 45) (tgt := 3122) (off := 3077) hE dL_law_45 (by decide) (by decide) (by decide) rfl rfl (li_37 hX hE hs hσ hC hM hA hi hk hn next)
  | 38, _ => exact x_swIn (pc := 45) (tgt := 3185) (off := 3140) hE dL_law_45 (by decide) (by decide) (by decide) rfl rfl (li_38 hX hE hs hσ hC hM hA hi hk hn next)
  | 39, _ => exact x_swIn (pc := 45) (tgt := 3241) (off := 3196) hE dL_law_45 (by decide) (by decide) (by decide) rfl rfl (li_39 hX hE hs hσ hC hM hA hi hk hn next)
  | 40, _ => exact x_swIn (pc := 45) (tgt := 3309) (off := 3264) hE dL_law_45 (by decide) (by decide) (by decide) rfl rfl (li_40 hX hE hs hσ hC hM hA hi hk hn next)
  | 41, _ => exact x_swIn (pc := 45) (tgt := 3389) (off := 3344) hE dL_law_45 (by decide) (by decide) (by decide) rfl rfl (li_41 hX hE hs hσ hC hM hA hi hk hn next)
  | 42, _ => exact x_swIn (pc := 45) (tgt := 3457) (off := 3412) hE dL_law_45 (by decide) (by decide) (by decide) rfl rfl (li_42 hX hE hs hσ hC hM hA hi hk hn next)
  | 43, _ => exact x_swIn (pc := 45) (tgt := 3525) (off := 3480) hE dL_law_45 (by decide) (by decide) (by decide) rfl rfl (li_43 hX hE hs hσ hC hM hA hi hk hn next)
  | 44, _ => exact x_swIn (pc := 45) (tgt := 3593) (off := 3548) hE dL_law_45 (by decide) (by decide) (by decide) rfl rfl (li_44 hX hE hs hσ hC hM hA hi hk hn next)
  | 45, _ => exact x_swIn (pc := 45) (tgt := 3606) (off := 3561) hE dL_law_45 (by decide) (by decide) (by decide) rfl rfl (li_45 hX hE hs hσ hC hM hA hi hk hn next)
  | 46, _ => exact x_swIn (pc := 45) (tgt := 3647) (off := 3602) hE dL_law_45 (by decide) (by decide) (by decide) rfl rfl (li_46 hX hE hs hσ hC hM hA hi hk hn next)
  | 47, _ => exact x_swIn (pc := 45) (tgt := 3702) (off := 3657) hE dL_law_45 (by decide) (by decide) (by decide) rfl rfl (li_47 hX hE hs hσ hC hM hA hi hk hn next)
  | 48, _ => exact x_swIn (pc := 45) (tgt := 3804) (off := 3759) hE dL_law_45 (by decide) (by decide) (by decide) rfl rfl (li_48 hX hE hs hσ hC hM hA hi hk hn next)
  | 49, _ => exact x_swIn (pc := 45) (tgt := 3905) (off := 3860) hE dL_law_45 (by decide) (by decide) (by decide) rfl rfl (li_49 hX hE hs hσ hC hM hA hi hk hn next)
  | j + 50, h => exact absurd h (by omega)
set_option maxRecDepth 100000 in
theorem law_body {X : xX} (hX : xBase X) {V : xT} {mc ms : Nat} (hE : xEng X m_L_law 12 mc ms V) {b L : Nat} {xs : Nat → Int32} (hs : LSc X b L xs) {c : xCx} {I : xIn} {σ : St9} (hσ : SK σ) (hC : CC I c σ) (hM : MM I σ) (hA : c.2.2.2 (2, 9) = b) {i : Nat} (hi : i + 7 ≤ L) {k n : Nat} (hk : k + 10 ≤ mc) (hn : n + 200 ≤ ms) (next : Nxt V b i k n) : V 38 [(0, xr (2, 9)), (1, xr (0, 0)), (2, xr (1, 0)), (3, xr (2, 0)), (4, xr (2, 1)), (5, xi (i : Int))] [] (I, xst c) k n := by
  refine x_aload_n (pc := 38) (j := 0) hE dL_law_38 rfl ?_
  refine x_iload (pc := 39) (j := 5) hE dL_law_39 rfl ?_
  refine x_sld (pc := 41) hE hs dL_law_41 hA (m := i) rfl (by omega) ?_
  refine x_bipush (pc := 42) hE dL_law_42 (by decide) ?_
  refine x_iand (pc := 44) hE dL_law_44 ?_
  have hin : xin (v_iand (sx xs i) 63) := xin_ti _
  by_cases h : 0 ≤ v_iand (sx xs i) 63 ∧ v_iand (sx xs i) 63 ≤ 49
  · obtain ⟨j, hj⟩ := Int.eq_ofNat_of_zero_le h.1
    rw [hj]
    exact law_switch hX hE hs hσ hC hM hA hi hk hn next (by omega)
  · exact x_swOut (pc := 45) (tgt := 3918) hE dL_law_45 hin (by omega) rfl (next I c σ hσ hC hM hA _ _ (by omega) (by omega))
theorem law_loop {X : xX} (hX : xBase X) {V : xT} (hE : xEng X m_L_law 12 601024 7293034 V) {b L : Nat} {xs : Nat → Int32} (hs : LSc X b L xs) (fin : ∀ (lo : List (Nat × xV)) (h : xS), V 3925 lo [xi 1] h 601024 7293034) : ∀ (m j : Nat), L < 7 * j + m → 7 * j ≤ L → ∀ (I : xIn) (c : xCx) (σ : St9), SK σ → CC I c σ → MM I σ → c.2.2.2 (2, 9) = b → V 28 [(0, xr (2, 9)), (1, xr (0, 0)), (2, xr (1, 0)), (3, xr (2, 0)), (4, xr (2, 1)), (5, xi ((7 * j : Nat) : Int))] [] (I, xst c) (64 + 10 * j) (2111 + 200 * j) := by
  have hL := hs.2.2
  intro m
  induction m with
  | zero => intro j h1 h2; exact absurd h1 (by omega)
  | succ m ih =>
    intro j h1 h2 I c σ hσ hC hM hA
    refine x_iload (pc := 28) (j := 5) hE dL_law_28 rfl ?_
    refine x_aload_n (pc := 30) (j := 0) hE dL_law_30 rfl ?_
    refine x_slen (pc := 31) hE hs dL_law_31 hA ?_
    refine x_bipush (pc := 32) hE dL_law_32 (by decide) ?_
    refine x_isub (pc := 34) hE dL_law_34 ?_
    refine x_icmp_gt (pc := 35) (tgt := 3924) hE dL_law_35 rfl (⟨by omega, by omega⟩ : xin ((7 * j : Nat) : Int)) (⟨by omega, by omega⟩ : xin ((L : Int) - 7)) (fun h3 => ?_) (fun h3 => ?_)
    · exact x_iconst (pc := 3924) hE dL_law_3924 (x_more hE (by omega) (by omega) (fin _ _))
    · refine law_body hX hE hs hσ hC hM hA (i := 7 * j) (by omega) (by omega) (by omega) ?_
      intro J c9 σ9 hσ9 hC9 hM9 hA9 k9 n9 hk9 hn9
      refine x_iinc (pc := 3918) (j := 5) (lo9 := [(5, xi (((7 * j : Nat) : Int) + 7)), (0, xr (2, 9)), (1, xr (0, 0)), (2, xr (1, 0)), (3, xr (2, 0)), (4, xr (2, 1))]) hE dL_law_3918 rfl (by decide) rfl ?_
      refine x_goto (pc := 3921) (tgt := 28) hE dL_law_3921 rfl ?_
      refine x_loc hE [1, 2, 3, 4, 5, 0] rfl ?_
      refine x_more hE (k9 := 64 + 10 * (j + 1)) (n9 := 2111 + 200 * (j + 1)) (by omega) (by omega) ?_
      have := ih (j + 1) (by omega) (by omega) J c9 σ9 hσ9 hC9 hM9 hA9
      rw [show ((7 * (j + 1) : Nat) : Int) = ((7 * j : Nat) : Int) + 7 by omega] at this
      exact this
