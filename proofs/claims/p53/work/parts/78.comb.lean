/-! how calls begin: what is refused first -/
/-- a refusal comes first -/
def wE {α : Type} (z : α) (w : Int) (x : α × Int) : α × Int := if 0 < w then (z, w) else x
theorem wE_0 {α : Type} {z : α} {w : Int} {x : α × Int} (h : w = 0) : wE z w x = x := if_neg (by omega)
theorem wE_p {α : Type} {z : α} {w : Int} {x : α × Int} (h : 0 < w) : wE z w x = (z, w) := if_pos h
/-- the class's rows that are of no account between calls -/
def scrC : List xP := [(0, 2), (0, 3), (0, 4), (0, 5), (0, 6), (0, 7), (0, 8), (0, 9), (0, 10), (0, 11), (0, 12), (0, 13), (0, 14), (0, 15), (0, 16), (0, 17), (0, 18), (0, 19), (0, 22), (0, 23), (0, 29), (0, 30), (0, 31)]
def keepC (I J : xIn) : Prop := (∀ p : xP, p ∉ scrC → p ≠ (0, 27) → p ≠ (0, 32) → J p = I p) ∧ (∀ j, j ≠ 6 → J (0, 27) j = I (0, 27) j) ∧ ∀ j, j < 4 → J (0, 32) j = I (0, 32) j
theorem keepC.id9 {I : xIn} : keepC I I := ⟨fun _ _ _ _ => Eq.refl _, fun _ _ => Eq.refl _, fun _ _ => Eq.refl _⟩
theorem keepC.tr {I J K : xIn} (h1 : keepC I J) (h2 : keepC J K) : keepC I K := ⟨fun p a b e => (h2.1 p a b e).trans (h1.1 p a b e), fun j a => (h2.2.1 j a).trans (h1.2.1 j a), fun j a => (h2.2.2 j a).trans (h1.2.2 j a)⟩
theorem kp.C {ps : List xP} {I J : xIn} (h : kp ps I J) (hs : (ps.all fun p => scrC.contains p) = true) : keepC I J := by
  have h1 : ∀ p, p ∉ scrC → J p = I p := fun p hp => h p fun z => hp (by
    have := List.all_eq_true.mp hs p z
    exact List.contains_iff_mem.mp this)
  exact ⟨fun p hp _ _ => h1 p hp, fun j _ => by rw [h1 (0, 27) (by decide)], fun j _ => by rw [h1 (0, 32) (by decide)]⟩
theorem kpX.C {I J : xIn} (h : kpX I J) : keepC I J := kp.C h (by decide)
theorem CI.keep {I J : xIn} {c : xCx} {T : NT} (h : CI I c T) (hk : keepC I J) : CI J c T := by
  have r : ∀ i j, J (i + 3, j) = I (i + 3, j) := fun i j => hk.1 _ (by simp [scrC]) (by simp) (by simp)
  have r0 : J (0, 0) = I (0, 0) := hk.1 _ (by decide) (by decide) (by decide)
  unfold CI CG
  simp only [r, r0]
  exact h
theorem CG.eq {I J : xIn} {c : xCx} {i : Nat} {G : Gr} (h : CG I c i G) (hk : ∀ j, J (i + 3, j) = I (i + 3, j)) : CG J c i G := by
  unfold CG
  simp only [hk]
  exact h
theorem NB.eq {I J : xIn} {i m : Nat} (h : NB I i m) (hk : ∀ j, J (i + 3, j) = I (i + 3, j)) : NB J i m := by
  unfold NB
  simp only [hk]
  exact h
/-! .. by the class -/
def wrongCT (T : NT) (a s t k : Int) : Int := if inB a T.N then (if inB k (T.G (Int.toNat a)).n then (if twoB (T.G (Int.toNat a)).n s t then 0 else 2) else 1) else 1
def wrong1 (T : NT) (a : Int) : Int := if inB a T.N then 0 else 1
def wrong1E (T : NT) (a e : Int) : Int := if inB a T.N then (if inB e (T.G (Int.toNat a)).m then 0 else 1) else 1
def wrong1C (T : NT) (a k : Int) : Int := if inB a T.N then (if inB k (T.G (Int.toNat a)).n then 0 else 1) else 1
section GO
variable {X : xX} {c : xCx} {I : xIn} {T : NT} {E : String → xIn → Prop} {B : Nat → xIn → Prop} {a s t e k : Int}
theorem go_net (hX : xBase X) (d : Nat) (hT : NTok T) (hI : CI I c T) (ha : xin a) (hE : ∀ x, exN x (wrong1 T a) → 0 < wrong1 T a → E x I) (hB : ∀ i : Nat, a = (i : Int) → i < T.N → CG I c i (T.G i) → wrong1 T a = 0 → B i I) :
    ∃ (P1 : Nat → xIn → Prop) (E24 : String → xIn → Prop), xRet rN X m_X9_netAt (d + 7) [xr (0, 0), xi a] c I 1 6 P1 E24 ∧ (∀ (e : String) (I2 : xIn), E24 e I2 → E e I2) ∧ (∀ (v3 : Nat) (I2 : xIn), P1 v3 I2 → ∃ hv3 : v3 < c.1, B v3 I2) := by
  obtain ⟨h1, h2, h3⟩ := id hI
  have h4 := hT.1
  refine ⟨_, _, cn_netAt hX d (by rw [h2, h1]) (by omega) ha, ?_, ?_⟩
  · rintro x J ⟨rfl, rfl, hn⟩
    rw [h1] at hn
    have hw : wrong1 T a = 1 := by unfold wrong1; rw [hn]; rfl
    exact hE _ (Or.inl ⟨rfl, hw⟩) (by omega)
  · rintro i J ⟨rfl, hi, rfl⟩
    exact ⟨hi, hB i rfl (by omega) (h3 i (by omega)).1 (by unfold wrong1; rw [show inB (i : Int) T.N = true from decide_eq_true (by omega)]; rfl)⟩
theorem go_ends (hX : xBase X) (d : Nat) (hT : NTok T) (hI : CI I c T) (ha : xin a) (hs : xin s) (ht : xin t) (hE : ∀ x, exN x (wrongT T a s t) → 0 < wrongT T a s t → E x I) (hB : ∀ i s9 t9 : Nat, a = (i : Int) → s = (s9 : Int) → t = (t9 : Int) → i < T.N → CG I c i (T.G i) → s9 < (T.G i).n → t9 < (T.G i).n → s9 ≠ t9 → wrongT T a s t = 0 → B i I) :
    ∃ (P1 : Nat → xIn → Prop) (E24 : String → xIn → Prop), xRet rN X m_X9_netAt (d + 7) [xr (0, 0), xi a] c I 1 6 P1 E24 ∧ (∀ (e : String) (I2 : xIn), E24 e I2 → E e I2) ∧ (∀ (v3 : Nat) (I2 : xIn), P1 v3 I2 → ∃ hv3 : v3 < c.1, ∃ (P6 : Unit → xIn → Prop) (E23 : String → xIn → Prop), xRet rU X m_X9_needEnds (d + 7) [xr (v3 + 3, 0), xi s, xi t] c I2 1 6 P6 E23 ∧ (∀ (e : String) (I7 : xIn), E23 e I7 → E e I7) ∧ (∀ (_ : Unit) (I7 : xIn), P6 () I7 → B v3 I7)) := by
  refine go_net hX d hT hI ha (fun x hx hw => ?_) fun i hai hi hC hw1 => ?_
  · have hw : wrongT T a s t = wrong1 T a := by
      unfold wrong1 wrongT at *
      by_cases h : inB a T.N = true
      · rw [if_pos h] at hw; omega
      · rw [if_neg h, if_neg h]
    rw [← hw] at hx
    exact hE x hx (by omega)
  · subst hai
    have hin : inB (i : Int) T.N = true := decide_eq_true (by omega)
    refine ⟨_, _, cn_needEnds hX d hC.1 hC.2.1 hs ht, ?_, ?_⟩
    · rintro x J ⟨rfl, rfl, hn⟩
      have hw : wrongT T (i : Int) s t = 2 := by unfold wrongT; rw [hin, tnN, hn]; rfl
      exact hE _ (Or.inr (Or.inl ⟨rfl, hw⟩)) (by omega)
    · rintro _ J ⟨rfl, hn⟩
      have hw : wrongT T (i : Int) s t = 0 := by unfold wrongT; rw [hin, tnN, hn]; rfl
      obtain ⟨i9, s9, t9, e1, rfl, rfl, -, hs9, ht9, hst⟩ := wrong_0 (show wrongT T (i : Int) s t ≤ 0 by omega)
      have e1 : i9 = i := by omega
      subst e1
      exact hB i9 s9 t9 rfl rfl rfl hi hC hs9 ht9 hst hw
theorem go_edge (hX : xBase X) (d : Nat) (hT : NTok T) (hI : CI I c T) (ha : xin a) (he : xin e) (hE : ∀ x, exN x (wrong1E T a e) → 0 < wrong1E T a e → E x I) (hB : ∀ i e9 : Nat, a = (i : Int) → e = (e9 : Int) → i < T.N → CG I c i (T.G i) → e9 < (T.G i).m → wrong1E T a e = 0 → B i I) :
    ∃ (P1 : Nat → xIn → Prop) (E24 : String → xIn → Prop), xRet rN X m_X9_netAt (d + 7) [xr (0, 0), xi a] c I 1 6 P1 E24 ∧ (∀ (e : String) (I2 : xIn), E24 e I2 → E e I2) ∧ (∀ (v3 : Nat) (I2 : xIn), P1 v3 I2 → ∃ hv3 : v3 < c.1, ∃ (P6 : Unit → xIn → Prop) (E23 : String → xIn → Prop), xRet rU X m_X9_needEdge (d + 7) [xr (v3 + 3, 0), xi e] c I2 1 6 P6 E23 ∧ (∀ (e : String) (I7 : xIn), E23 e I7 → E e I7) ∧ (∀ (_ : Unit) (I7 : xIn), P6 () I7 → B v3 I7)) := by
  refine go_net hX d hT hI ha (fun x hx hw => ?_) fun i hai hi hC hw1 => ?_
  · have hw : wrong1E T a e = wrong1 T a := by
      unfold wrong1 wrong1E at *
      by_cases h : inB a T.N = true
      · rw [if_pos h] at hw; omega
      · rw [if_neg h, if_neg h]
    rw [← hw] at hx
    exact hE x hx (by omega)
  · subst hai
    have hin : inB (i : Int) T.N = true := decide_eq_true (by omega)
    refine ⟨_, _, cn_needEdge hX d hC.1 hC.2.2.1 he, ?_, ?_⟩
    · rintro x J ⟨rfl, rfl, hn⟩
      have hw : wrong1E T (i : Int) e = 1 := by unfold wrong1E; rw [hin, tnN, hn]; rfl
      exact hE _ (Or.inl ⟨rfl, hw⟩) (by omega)
    · rintro _ J ⟨rfl, hn⟩
      have hw : wrong1E T (i : Int) e = 0 := by unfold wrong1E; rw [hin, tnN, hn]; rfl
      have hb := inB_t hn
      obtain ⟨e9, rfl⟩ := Int.eq_ofNat_of_zero_le hb.1
      exact hB i e9 rfl rfl hi hC (by omega) hw
theorem go_corner (hX : xBase X) (d : Nat) (hT : NTok T) (hI : CI I c T) (ha : xin a) (hk : xin k) (hE : ∀ x, exN x (wrong1C T a k) → 0 < wrong1C T a k → E x I) (hB : ∀ i k9 : Nat, a = (i : Int) → k = (k9 : Int) → i < T.N → CG I c i (T.G i) → k9 < (T.G i).n → wrong1C T a k = 0 → B i I) :
    ∃ (P1 : Nat → xIn → Prop) (E24 : String → xIn → Prop), xRet rN X m_X9_netAt (d + 7) [xr (0, 0), xi a] c I 1 6 P1 E24 ∧ (∀ (e : String) (I2 : xIn), E24 e I2 → E e I2) ∧ (∀ (v3 : Nat) (I2 : xIn), P1 v3 I2 → ∃ hv3 : v3 < c.1, ∃ (P6 : Unit → xIn → Prop) (E23 : String → xIn → Prop), xRet rU X m_X9_needCorner (d + 7) [xr (v3 + 3, 0), xi k] c I2 1 6 P6 E23 ∧ (∀ (e : String) (I7 : xIn), E23 e I7 → E e I7) ∧ (∀ (_ : Unit) (I7 : xIn), P6 () I7 → B v3 I7)) := by
  refine go_net hX d hT hI ha (fun x hx hw => ?_) fun i hai hi hC hw1 => ?_
  · have hw : wrong1C T a k = wrong1 T a := by
      unfold wrong1 wrong1C at *
      by_cases h : inB a T.N = true
      · rw [if_pos h] at hw; omega
      · rw [if_neg h, if_neg h]
    rw [← hw] at hx
    exact hE x hx (by omega)
  · subst hai
    have hin : inB (i : Int) T.N = true := decide_eq_true (by omega)
    refine ⟨_, _, cn_needCorner hX d hC.1 hC.2.1 hk, ?_, ?_⟩
    · rintro x J ⟨rfl, rfl, hn⟩
      have hw : wrong1C T (i : Int) k = 1 := by unfold wrong1C; rw [hin, tnN, hn]; rfl
      exact hE _ (Or.inl ⟨rfl, hw⟩) (by omega)
    · rintro _ J ⟨rfl, hn⟩
      have hw : wrong1C T (i : Int) k = 0 := by unfold wrong1C; rw [hin, tnN, hn]; rfl
      have hb := inB_t hn
      obtain ⟨e9, rfl⟩ := Int.eq_ofNat_of_zero_le hb.1
      exact hB i e9 rfl rfl hi hC (by omega) hw
theorem go_edgeEnds (hX : xBase X) (d : Nat) (hT : NTok T) (hI : CI I c T) (ha : xin a) (hs : xin s) (ht : xin t) (he : xin e) (hE : ∀ x, exN x (wrongET T a s t e) → 0 < wrongET T a s t e → E x I) (hB : ∀ i s9 t9 e9 : Nat, a = (i : Int) → s = (s9 : Int) → t = (t9 : Int) → e = (e9 : Int) → i < T.N → CG I c i (T.G i) → s9 < (T.G i).n → t9 < (T.G i).n → s9 ≠ t9 → e9 < (T.G i).m → wrongET T a s t e = 0 → B i I) :
    ∃ (P1 : Nat → xIn → Prop) (E24 : String → xIn → Prop), xRet rN X m_X9_netAt (d + 7) [xr (0, 0), xi a] c I 1 6 P1 E24 ∧ (∀ (e : String) (I2 : xIn), E24 e I2 → E e I2) ∧ (∀ (v3 : Nat) (I2 : xIn), P1 v3 I2 → ∃ hv3 : v3 < c.1, ∃ (P6 : Unit → xIn → Prop) (E29 : String → xIn → Prop), xRet rU X m_X9_needEdge (d + 7) [xr (v3 + 3, 0), xi e] c I2 1 6 P6 E29 ∧ (∀ (e : String) (I7 : xIn), E29 e I7 → E e I7) ∧ (∀ (_ : Unit) (I7 : xIn), P6 () I7 → ∃ (P11 : Unit → xIn → Prop) (E28 : String → xIn → Prop), xRet rU X m_X9_needEnds (d + 7) [xr (v3 + 3, 0), xi s, xi t] c I7 1 6 P11 E28 ∧ (∀ (e : String) (I12 : xIn), E28 e I12 → E e I12) ∧ (∀ (_ : Unit) (I12 : xIn), P11 () I12 → B v3 I12))) := by
  refine go_edge hX d hT hI ha he (fun x hx hw => ?_) fun i e9 hai hei hi hC he9 hw1 => ?_
  · have hw : wrongET T a s t e = wrong1E T a e := by
      unfold wrongET wrong1E at *
      by_cases h : inB a T.N = true
      · rw [if_pos h] at hw ⊢
        by_cases h2 : inB e (T.G (Int.toNat a)).m = true
        · rw [if_pos h2] at hw; omega
        · rw [if_pos h, if_neg h2, if_neg h2]
      · rw [if_neg h, if_neg h]
    rw [← hw] at hx
    exact hE x hx (by omega)
  · subst hai hei
    have hin : inB (i : Int) T.N = true := decide_eq_true (by omega)
    have hie : inB (e9 : Int) (T.G i).m = true := decide_eq_true (by omega)
    refine ⟨_, _, cn_needEnds hX d hC.1 hC.2.1 hs ht, ?_, ?_⟩
    · rintro x J ⟨rfl, rfl, hn⟩
      have hw : wrongET T (i : Int) s t (e9 : Int) = 2 := by unfold wrongET; rw [hin, tnN, hie, hn]; rfl
      exact hE _ (Or.inr (Or.inl ⟨rfl, hw⟩)) (by omega)
    · rintro _ J ⟨rfl, hn⟩
      have hw : wrongET T (i : Int) s t (e9 : Int) = 0 := by unfold wrongET; rw [hin, tnN, hie, hn]; rfl
      obtain ⟨i9, s9, t9, e8, e1, rfl, rfl, e2, -, hs9, ht9, hst, -⟩ := wrongE_0 (show wrongET T (i : Int) s t (e9 : Int) ≤ 0 by omega)
      have e1 : i9 = i := by omega
      subst e1
      exact hB i9 s9 t9 e9 rfl rfl rfl rfl hi hC hs9 ht9 hst he9 hw
theorem go_cornerEnds (hX : xBase X) (d : Nat) (hT : NTok T) (hI : CI I c T) (ha : xin a) (hs : xin s) (ht : xin t) (hk : xin k) (hE : ∀ x, exN x (wrongCT T a s t k) → 0 < wrongCT T a s t k → E x I) (hB : ∀ i s9 t9 k9 : Nat, a = (i : Int) → s = (s9 : Int) → t = (t9 : Int) → k = (k9 : Int) → i < T.N → CG I c i (T.G i) → s9 < (T.G i).n → t9 < (T.G i).n → s9 ≠ t9 → k9 < (T.G i).n → wrongCT T a s t k = 0 → B i I) :
    ∃ (P1 : Nat → xIn → Prop) (E24 : String → xIn → Prop), xRet rN X m_X9_netAt (d + 7) [xr (0, 0), xi a] c I 1 6 P1 E24 ∧ (∀ (e : String) (I2 : xIn), E24 e I2 → E e I2) ∧ (∀ (v3 : Nat) (I2 : xIn), P1 v3 I2 → ∃ hv3 : v3 < c.1, ∃ (P6 : Unit → xIn → Prop) (E29 : String → xIn → Prop), xRet rU X m_X9_needCorner (d + 7) [xr (v3 + 3, 0), xi k] c I2 1 6 P6 E29 ∧ (∀ (e : String) (I7 : xIn), E29 e I7 → E e I7) ∧ (∀ (_ : Unit) (I7 : xIn), P6 () I7 → ∃ (P11 : Unit → xIn → Prop) (E28 : String → xIn → Prop), xRet rU X m_X9_needEnds (d + 7) [xr (v3 + 3, 0), xi s, xi t] c I7 1 6 P11 E28 ∧ (∀ (e : String) (I12 : xIn), E28 e I12 → E e I12) ∧ (∀ (_ : Unit) (I12 : xIn), P11 () I12 → B v3 I12))) := by
  refine go_corner hX d hT hI ha hk (fun x hx hw => ?_) fun i k9 hai hki hi hC hk9 hw1 => ?_
  · have hw : wrongCT T a s t k = wrong1C T a k := by
      unfold wrongCT wrong1C at *
      by_cases h : inB a T.N = true
      · rw [if_pos h] at hw ⊢
        by_cases h2 : inB k (T.G (Int.toNat a)).n = true
        · rw [if_pos h2] at hw; omega
        · rw [if_pos h, if_neg h2, if_neg h2]
      · rw [if_neg h, if_neg h]
    rw [← hw] at hx
    exact hE x hx (by omega)
  · subst hai hki
    have hin : inB (i : Int) T.N = true := decide_eq_true (by omega)
    have hik : inB (k9 : Int) (T.G i).n = true := decide_eq_true (by omega)
    refine ⟨_, _, cn_needEnds hX d hC.1 hC.2.1 hs ht, ?_, ?_⟩
    · rintro x J ⟨rfl, rfl, hn⟩
      have hw : wrongCT T (i : Int) s t (k9 : Int) = 2 := by unfold wrongCT; rw [hin, tnN, hik, hn]; rfl
      exact hE _ (Or.inr (Or.inl ⟨rfl, hw⟩)) (by omega)
    · rintro _ J ⟨rfl, hn⟩
      have hw : wrongCT T (i : Int) s t (k9 : Int) = 0 := by unfold wrongCT; rw [hin, tnN, hik, hn]; rfl
      have hw2 : wrongT T (i : Int) s t = 0 := by unfold wrongT; rw [hin, tnN, hn]; rfl
      obtain ⟨i9, s9, t9, e1, rfl, rfl, -, hs9, ht9, hst⟩ := wrong_0 (show wrongT T (i : Int) s t ≤ 0 by omega)
      have e1 : i9 = i := by omega
      subst e1
      exact hB i9 s9 t9 k9 rfl rfl rfl rfl hi hC hs9 ht9 hst hk9 hw
end GO
/-! .. and by the reference -/
section MOO
variable {X : xX} {c : xCx} {I : xIn} {T : NT} {B : xIn → Prop} {a s t e k : Int}
theorem amount_in {T : NT} (hT : NTok T) {i s t : Nat} (hi : i < T.N) (hs : s < (T.G i).n) (ht : t < (T.G i).n) (hst : s ≠ t) : amountF (T.G i) (T.lo i) (T.hi i) s t = NONE9 ∨ (-3200 ≤ amountF (T.G i) (T.lo i) (T.hi i) s t ∧ amountF (T.G i) (T.lo i) (T.hi i) s t ≤ 3200 ∧ ∃ f, FS (T.G i) (T.lo i) (T.hi i) (isB s t (amountF (T.G i) (T.lo i) (T.hi i) s t)) f) := by
  obtain ⟨hG, hB, -⟩ := hT.2 i hi
  by_cases hno : ∀ S, S < 2 ^ (T.G i).n → crowdP (T.G i) (T.lo i) (T.hi i) s t S = false
  · obtain ⟨e1, f, e2⟩ := flow_ex hG hs ht hst (fun e he => by have := (hB e he).1; omega) hno
    have e3 := flow_bd hG hs ht hst (fun e he => by have := (hB e he).1; omega) e2
    exact Or.inr ⟨e3.1, e3.2, f, e2⟩
  · left
    by_cases hx : ∃ S, S < 2 ^ (T.G i).n ∧ crowdP (T.G i) (T.lo i) (T.hi i) s t S = true
    · obtain ⟨S, c1, c2⟩ := hx
      exact amount_none c1 c2
    · exfalso
      refine hno fun S hS => ?_
      cases hc : crowdP (T.G i) (T.lo i) (T.hi i) s t S
      · rfl
      · exact absurd ⟨S, hS, hc⟩ hx
theorem mostV_0 {T : NT} {i s t : Nat} (h : wrongT T i s t = 0) : mostV T i s t = if amountF (T.G i) (T.lo i) (T.hi i) s t = NONE9 then (0, 3) else (amountF (T.G i) (T.lo i) (T.hi i) s t, 0) := by
  unfold mostV
  rw [if_neg (by omega), tnN, tnN, tnN]
end MOO
