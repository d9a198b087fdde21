/-! the reference goes a way, puts what goes, and does rounds -/
theorem kC_far {G : Gr} {hi f L : Nat → Int} {s t : Nat} (hG : GrOK G) (hs : s < G.n) (hst : s ≠ t) (hL : LVs G (fun _ => 0) hi f t (G.n : Int) L) (h : L s = FAR9) : kC G hi f s t = 0 := by
  have hF : FAR9 = 1000000000 := rfl
  have hn := hG.2.1
  refine Classical.byContradiction fun h0 => ?_
  obtain ⟨hw, hkn⟩ := wayC hG hs hst h0
  have key : ∀ j, j ≤ kC G hi f s t → L (pth G (fun _ => 0) hi f (lvK G hi f s t) (kC G hi f s t) s (kC G hi f s t - j)) ≠ FAR9 := by
    intro j
    induction j with
    | zero =>
      intro _
      rw [Nat.sub_zero, hw.2.2.1]
      have ht : t < G.n := by have := (hw.2.2.2.1 _ (Nat.le_refl _)).1; rw [hw.2.2.1] at this; exact this
      have := (hL.1.1 t ht).mpr rfl
      omega
    | succ j ih =>
      intro hj
      have hr := hw.rs (i := kC G hi f s t - (j + 1)) (by omega)
      rw [show kC G hi f s t - (j + 1) + 1 = kC G hi f s t - j by omega] at hr
      exact hL.closed (by omega) hG.in hs h hr (ih (by omega))
  have := key _ (Nat.le_refl _)
  rw [Nat.sub_self, hw.2.1] at this
  exact this h
theorem mw_1000 {g : Nat → Int} {k : Nat} (hk : 0 < k) (h0 : g 0 ≤ 1000) : mw 1000 g k = mw 1000000 g k := by
  have key : ∀ j, mw 1000 g (j + 1) = mw 1000000 g (j + 1) := by
    intro j
    induction j with
    | zero =>
      show (if g 0 < 1000 then g 0 else 1000) = (if g 0 < 1000000 then g 0 else 1000000)
      split <;> split <;> omega
    | succ j ih => rw [mw, ih]; rfl
  rw [show k = (k - 1) + 1 by omega]; exact key _
section MRE
variable {X : xX} {c : xCx} {I : xIn} {i : Nat} {G : Gr} {lo hi : Nat → Int} {s t : Nat}
def RdTo (M : Nat) (r : Int) : Nat := if 0 ≤ r ∧ r < (M : Int) then Int.toNat r else M
end MRE
