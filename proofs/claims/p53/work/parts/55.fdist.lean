/-! the class measures distances -/
section FD
variable {X : xX} {c : xCx} {I : xIn} {G : Gr}
theorem q12 {I J : xIn} (h : kp [(0, 12)] I J) {p : xP} (hp : p ≠ (0, 12)) : J p = I p := h p (by simpa using hp)
theorem fl_setDistances (hX : xBase X) (d : Nat) (hF : FR I G) {s t : Nat} (hs : s < G.n) (ht : t < G.n) : xRet rU X m_X1_setDistances d [xr (0, 3), xi (s : Int), xi (t : Int)] c I 0 0 (fun _ I9 => kp [(0, 12)] I I9 ∧ ∃ k : Nat, k ≤ G.n ∧ LVs G (I (0, 9)) (I (0, 10)) (I (0, 11)) t k (I9 (0, 12)) ∧ (I9 (0, 12) s = (k : Int) ∨ (I9 (0, 12) s = FAR9 ∧ k = G.n))) xNo := by
  obtain ⟨g1, g2, g3, g4, g5, g6⟩ := id hF
  have hFA : FAR9 = 1000000000 := rfl
  refine xRet_of hX pl_X1_setDistances (LE1 rfl) fun V hV => rg_X1_setDistances_0 hV I _ _ ?_
  refine up_to0 (m := G.n) (W := fun x => ∀ J : xIn, kp [(0, 12)] I J → (∀ y, y < x → J (0, 12) y = FAR9) → V 2 [(0, xr (0, 3)), (1, xi (s : Int)), (2, xi (t : Int)), (3, xi (x : Int))] [] (J, xst c) 0 0) ?_ ?_ I kp.rfl (fun y hy => by omega)
  case refine_2 =>
    intro x hx ih J hJ hL
    refine rg_X1_setDistances_2 hV J _ _ _ ⟨⟨by omega, by omega⟩, fun h => ?_, fun h => ⟨⟨by omega, by omega⟩, ?_⟩⟩
    · rw [q12 hJ (by decide), g1] at h; omega
    · rintro _ rfl
      refine ih _ (hJ.xu (by simp)) fun y hy => ?_
      rw [xuL, tnN]
      rcases upL_c (J (0, 12)) x 1000000000 y with ⟨e1, e2⟩ | ⟨e1, e2⟩
      · exact e2
      · rw [e2]; exact hL y (by omega)
  intro J hJ hL
  refine rg_X1_setDistances_2 hV J _ _ _ ⟨⟨by omega, by omega⟩, fun h => ⟨⟨by omega, by omega⟩, ?_⟩, fun h => by rw [q12 hJ (by decide), g1] at h; omega⟩
  rintro _ rfl
  have hJ := hJ.xu (q := (0, 12)) (k := Int.toNat (t : Int)) (v := 0) (by simp)
  generalize hJ9 : xu J (0, 12) (Int.toNat (t : Int)) 0 = J9 at hJ ⊢
  have hL0 : LVs G (I (0, 9)) (I (0, 10)) (I (0, 11)) t ((0 : Nat) : Int) (J9 (0, 12)) ∧ (J9 (0, 12) s = FAR9 ∨ J9 (0, 12) s = ((0 : Nat) : Int)) := by
    have hu : J9 (0, 12) = upL (J (0, 12)) t 0 := by rw [← hJ9, xuL, tnN]
    rw [hu]
    have hc : ∀ x, x < G.n → (x = t ∧ upL (J (0, 12)) t 0 x = 0) ∨ (x ≠ t ∧ upL (J (0, 12)) t 0 x = FAR9) := fun x hx => by
      rcases upL_c (J (0, 12)) t 0 x with ⟨e1, e2⟩ | ⟨e1, e2⟩
      · exact Or.inl ⟨e1, e2⟩
      · exact Or.inr ⟨e1, e2.trans (hL x hx)⟩
    refine ⟨⟨⟨fun x hx => ?_, fun x hx => ?_, fun x hx w1 w2 => ?_⟩, fun e he => ⟨fun _ w => ?_, fun _ w => ?_⟩⟩, ?_⟩
    · rcases hc x hx with ⟨a, b⟩ | ⟨a, b⟩ <;> rw [b] <;> constructor <;> intro z <;> first | exact a | rfl | (exfalso; omega)
    · rcases hc x hx with ⟨a, b⟩ | ⟨a, b⟩ <;> rw [b] <;> omega
    · rcases hc x hx with ⟨a, b⟩ | ⟨a, b⟩ <;> omega
    · have := hc _ (g5 e he).2; omega
    · have := hc _ (g5 e he).1; omega
    · have := hc s hs; omega
  refine up_to0 (m := G.n) (W := fun k => ∀ J : xIn, kp [(0, 12)] I J → LVs G (I (0, 9)) (I (0, 10)) (I (0, 11)) t (k : Int) (J (0, 12)) → (J (0, 12) s = FAR9 ∨ J (0, 12) s = (k : Int)) → V 33 [(0, xr (0, 3)), (1, xi (s : Int)), (3, xi (k : Int))] [] (J, xst c) 0 0) ?_ ?_ J9 hJ hL0.1 hL0.2
  · intro J hJ hL hsL
    refine rg_X1_setDistances_33 hV J _ _ ⟨⟨by omega, by omega⟩, fun _ => ⟨hJ, G.n, Nat.le_refl _, hL, ?_⟩, fun h => by rw [q12 hJ (by decide), g1] at h; omega⟩
    rcases hsL with h | h
    · exact Or.inr ⟨h, rfl⟩
    · exact Or.inl h
  · intro k hk ih J hJ hL hsL
    refine rg_X1_setDistances_33 hV J _ _ ⟨⟨by omega, by omega⟩, fun h => by rw [q12 hJ (by decide), g1] at h; omega, fun _ => ⟨⟨by omega, by omega⟩, fun h => ⟨hJ, k, by omega, hL, Or.inl (hsL.resolve_left (by rw [tnN] at h; exact h))⟩, fun hfar => ?_⟩⟩
    rw [tnN] at hfar
    refine up_to0 (m := G.m) (W := fun e => ∀ J : xIn, kp [(0, 12)] I J → LV0 G (I (0, 9)) (I (0, 10)) (I (0, 11)) t ((k : Int) + 1) (J (0, 12)) → (∀ j, j < G.m → Cst G (I (0, 9)) (I (0, 10)) (I (0, 11)) (J (0, 12)) (k : Int) j) → (∀ j, j < e → Cst G (I (0, 9)) (I (0, 10)) (I (0, 11)) (J (0, 12)) ((k : Int) + 1) j) → (J (0, 12) s = FAR9 ∨ J (0, 12) s = (k : Int) + 1) → V 55 [(0, xr (0, 3)), (1, xi (s : Int)), (3, xi (k : Int)), (4, xi (e : Int))] [] (J, xst c) 0 0) ?_ ?_ J hJ (hL.1.mo (by omega)) hL.2 (fun j hj => by omega) (Or.inl hfar)
    · intro J hJ hL0 hC hC1 hsL
      exact rg_X1_setDistances_55 hV J _ _ _ ⟨⟨by omega, by omega⟩, fun _ => ih J hJ ⟨hL0, hC1⟩ hsL, fun h => by rw [q12 hJ (by decide), g2] at h; omega⟩
    · intro e he ih2 J hJ hL0 hC hC1 hsL
      obtain ⟨hu, hv⟩ := g6 e he
      obtain ⟨hun, hvn⟩ := g5 e he
      have next : Cst G (I (0, 9)) (I (0, 10)) (I (0, 11)) (J (0, 12)) ((k : Int) + 1) e → V 55 [(0, xr (0, 3)), (1, xi (s : Int)), (3, xi (k : Int)), (4, xi ((e : Int) + 1))] [] (J, xst c) 0 0 := fun hE => ih2 J hJ hL0 hC (fun j hj => by
        by_cases hje : j = e
        · rw [hje]; exact hE
        · exact hC1 j (by omega)) hsL
      have put : ∀ x y, x < G.n → y < G.n → J (0, 12) x = FAR9 → J (0, 12) y = (k : Int) → RS G (I (0, 9)) (I (0, 10)) (I (0, 11)) x y → Cst G (I (0, 9)) (I (0, 10)) (I (0, 11)) (upL (J (0, 12)) x ((k : Int) + 1)) ((k : Int) + 1) e → V 55 [(0, xr (0, 3)), (1, xi (s : Int)), (3, xi (k : Int)), (4, xi ((e : Int) + 1))] [] (xu J (0, 12) x ((k : Int) + 1), xst c) 0 0 := fun x y hx hy w1 w2 w3 w4 => by
        refine ih2 _ (hJ.xu (by simp)) ?_ ?_ ?_ ?_
        · rw [xuL]; exact hL0.put (by omega) (by omega) hx hy w1 w2 w3
        · rw [xuL]; exact fun j hj => (hC j hj).put (by omega) (by omega) w1
        · rw [xuL]
          intro j hj
          by_cases hje : j = e
          · rw [hje]; exact w4
          · exact (hC1 j (by omega)).put (by omega) (by omega) w1
        · rw [xuL]
          rcases upL_c (J (0, 12)) x ((k : Int) + 1) s with ⟨e1, e2⟩ | ⟨e1, e2⟩ <;> rw [e2]
          · exact Or.inr rfl
          · exact hsL
      have hbu := hL0.2.1 _ hun
      have hbv := hL0.2.1 _ hvn
      have hCe := hC e he
      have other : ((J (0, 12) (G.v e) ≠ (k : Int)) ∨ (J (0, 12) (G.u e) ≠ FAR9) ∨ ¬ (I (0, 11) e < I (0, 10) e)) → V 135 [(0, xr (0, 3)), (1, xi (s : Int)), (3, xi (k : Int)), (4, xi (e : Int)), (5, xi (G.u e : Int)), (6, xi (G.v e : Int))] [] (J, xst c) 0 0 := fun hno => by
        have h1st : I (0, 11) e < I (0, 10) e → J (0, 12) (G.v e) < (k : Int) + 1 → J (0, 12) (G.u e) ≤ J (0, 12) (G.v e) + 1 := fun a b => by
          by_cases hvk : J (0, 12) (G.v e) = (k : Int)
          · rcases hno with h | h | h <;> omega
          · exact hCe.1 a (by omega)
        refine rg_X1_setDistances_135 hV J _ _ _ _ _ ⟨⟨by omega, by omega⟩, ⟨by omega, by omega⟩, fun h => next ⟨h1st, fun a b => ?_⟩, fun h => ⟨⟨by omega, by omega⟩, fun h2 => next ⟨h1st, fun a b => ?_⟩, fun h2 => ⟨⟨by omega, by omega⟩, fun h3 => next ⟨h1st, fun a b => ?_⟩, fun h3 => ⟨⟨by omega, by omega⟩, ?_⟩⟩⟩⟩ <;> rw [tnN] at *
        · exact hCe.2 a (by omega)
        · omega
        · rw [q12 hJ (by decide), q12 hJ (by decide)] at h3; omega
        · rintro _ rfl
          rw [q12 hJ (by decide), q12 hJ (by decide)] at h3
          refine put _ _ hvn hun h2 h ⟨e, he, Or.inr ⟨rfl, rfl, h3⟩⟩ ⟨fun a b => ?_, fun a b => ?_⟩
          · rw [upL_s] at b; omega
          · rcases upL_c (J (0, 12)) (G.v e) ((k : Int) + 1) (G.u e) with ⟨e1, e2⟩ | ⟨e1, e2⟩ <;> rw [e2, upL_s] <;> omega
      refine rg_X1_setDistances_55 hV J _ _ _ ⟨⟨by omega, by omega⟩, fun h => by rw [q12 hJ (by decide), g2] at h; omega, fun _ => ⟨⟨by omega, by omega⟩, ?_⟩⟩
      rintro x2 hx2 x4 hx4
      rw [tnN, q12 hJ (by decide), hu] at hx2
      rw [tnN, q12 hJ (by decide), hv] at hx4
      subst hx2 hx4
      rw [tnN, tnN, tnN]
      refine ⟨⟨by omega, by omega⟩, ⟨by omega, by omega⟩, fun h => other (Or.inl h), fun h => ⟨⟨by omega, by omega⟩, fun h2 => other (Or.inr (Or.inl h2)), fun h2 => ⟨fun h3 => other (Or.inr (Or.inr ?_)), fun h3 => ⟨⟨by omega, by omega⟩, ?_⟩⟩⟩⟩
      · rw [q12 hJ (by decide), q12 hJ (by decide)] at h3; omega
      · rintro _ rfl
        rw [q12 hJ (by decide), q12 hJ (by decide)] at h3
        refine put _ _ hun hvn h2 h ⟨e, he, Or.inl ⟨rfl, rfl, h3⟩⟩ ⟨fun a b => ?_, fun a b => ?_⟩
        · rcases upL_c (J (0, 12)) (G.u e) ((k : Int) + 1) (G.v e) with ⟨e1, e2⟩ | ⟨e1, e2⟩ <;> rw [e2, upL_s] <;> omega
        · rw [upL_s] at b; omega
end FD
