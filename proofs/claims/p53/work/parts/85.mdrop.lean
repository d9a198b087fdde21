/-! the reference drops an edge; sums of all -/
theorem mvL_off (f : Nat → Int) (b e m k : Nat) : mvL f (b + e) (b + m) (b + k) = mvL (fun j => f (b + j)) e m k := by
  unfold mvL
  by_cases h : e ≤ k ∧ k + 1 < m
  · rw [if_pos h, if_pos (by omega)]; rfl
  · rw [if_neg h, if_neg (by omega)]
section MND
variable {X : xX} {c : xCx} {I : xIn} {T : NT} {a e : Int}
end MND
/-! sums of all -/
def ckE (u v : Nat → Nat) (lo hi co : Nat → Int) : Nat → Int64
  | 0 => 7
  | k + 1 => ((((ckE u v lo hi co k * 31 + (Int32.ofInt (u k : Int)).toInt64) * 31 + (Int32.ofInt (v k : Int)).toInt64) * 31 + (Int32.ofInt (lo k)).toInt64) * 31 + (Int32.ofInt (hi k)).toInt64) * 31 + (Int32.ofInt (co k)).toInt64
def ckS (z : Int64) (su : Nat → Int) : Nat → Int64
  | 0 => z
  | k + 1 => ckS z su k * 31 + (Int32.ofInt (su k)).toInt64
def sumA (T : NT) (a : Int) : Int64 × Int := wE 0 (wrong1 T a) (ckS (ckE (T.G (Int.toNat a)).u (T.G (Int.toNat a)).v (T.lo (Int.toNat a)) (T.hi (Int.toNat a)) (T.co (Int.toNat a)) (T.G (Int.toNat a)).m) (T.su (Int.toNat a)) (T.G (Int.toNat a)).n, 0)
section CKS
variable {X : xX} {c : xCx} {I : xIn} {T : NT} {a : Int}
theorem cn_checksum (hX : xBase X) (d : Nat) (hT : NTok T) (hI : CI I c T) (ha : xin a) : xRet rL X m_X9_checksum (d + 8) [xr (0, 0), xi a] c I 1 6 (fun v I9 => I9 = I ∧ (v, 0) = sumA T a) (fun x I9 => I9 = I ∧ exL [xIOB] x (sumA T a).2) := by
  have hwc := wrong1_c T a
  unfold sumA
  refine xRet_of hX pl_X9_checksum (LE1 rfl) fun V hV => rg_X9_checksum_0 hV I _ (go_net hX d hT hI ha (fun x hx hw => ⟨rfl, by rw [wE_p hw]; exact hx.l1 (by omega)⟩) ?_)
  rintro i rfl hi9 hC hw
  rw [wE_0 hw, tnN]
  obtain ⟨-, n2, n3⟩ := hI.net hi9
  have hG := hC.2.2.2.1
  have hn := hG.2.1
  have hm := hG.2.2.1
  refine ⟨pv (ckS (ckE (T.G i).u (T.G i).v (T.lo i) (T.hi i) (T.co i) (T.G i).m) (T.su i) (T.G i).n) I, ?_, ?_⟩
  · refine xRet_of hX pl_X3_sumOfAll (LE1 rfl) fun V hV => rg_X3_sumOfAll_0 hV I _ hC.1 ?_
    refine up_to0 (m := (T.G i).m) (W := fun k => V 6 [(0, xr (i + 3, 0)), (1, xl (ckE (T.G i).u (T.G i).v (T.lo i) (T.hi i) (T.co i) k)), (3, xi (k : Int))] [] (I, xst c) 0 0) ?_ ?_
    · refine rg_X3_sumOfAll_6 hV I _ hC.1 _ _ ⟨⟨by omega, by omega⟩, fun _ => ?_, fun h => by rw [hC.2.2.1] at h; omega⟩
      refine up_to0 (m := (T.G i).n) (W := fun k => V 92 [(0, xr (i + 3, 0)), (1, xl (ckS (ckE (T.G i).u (T.G i).v (T.lo i) (T.hi i) (T.co i) (T.G i).m) (T.su i) k)), (3, xi (k : Int))] [] (I, xst c) 0 0) ?_ ?_
      · exact rg_X3_sumOfAll_92 hV I _ hC.1 _ _ ⟨⟨by omega, by omega⟩, fun _ => pvI rfl, fun h => by rw [hC.2.1] at h; omega⟩
      · intro k hk ih
        refine rg_X3_sumOfAll_92 hV I _ hC.1 _ _ ⟨⟨by omega, by omega⟩, fun h => by rw [hC.2.1] at h; omega, fun _ => ⟨⟨by omega, by omega⟩, ?_⟩⟩
        rw [tnN, n3 k hk]
        exact ih
    · intro k hk ih
      refine rg_X3_sumOfAll_6 hV I _ hC.1 _ _ ⟨⟨by omega, by omega⟩, fun h => by rw [hC.2.2.1] at h; omega, fun _ => ⟨⟨by omega, by omega⟩, ?_⟩⟩
      rw [tnN, (hC.2.2.2.2 k hk).1, (hC.2.2.2.2 k hk).2, (n2 k hk).1, (n2 k hk).2.1, (n2 k hk).2.2]
      exact ih
  · rintro v J ⟨rfl, rfl⟩
    exact ⟨rfl, rfl⟩
end CKS
