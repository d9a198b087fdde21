/-! nets are made and changed -/
def xISE : String := "java/lang/IllegalStateException"
def xUOE : String := "java/lang/UnsupportedOperationException"
/-- an exception by its place in a list of catches -/
def exL (L : List String) (e : String) (k : Int) : Prop := ∃ j : Nat, L[j]? = some e ∧ k = (j : Int) + 1
theorem exN.l {e : String} {k : Int} {L : List String} (h : exN e k) (hk : k ≤ 2) : exL (xIOB :: xIAE :: L) e k := by
  rcases h with ⟨rfl, rfl⟩ | ⟨rfl, rfl⟩ | ⟨rfl, rfl⟩
  · exact ⟨0, rfl, rfl⟩
  · exact ⟨1, rfl, rfl⟩
  · omega
theorem exN.l1 {e : String} {k : Int} {L : List String} (h : exN e k) (hk : k ≤ 1) : exL (xIOB :: L) e k := by
  rcases h with ⟨rfl, rfl⟩ | ⟨rfl, rfl⟩ | ⟨rfl, rfl⟩
  · exact ⟨0, rfl, rfl⟩
  · omega
  · omega
def upN {α : Type} (f : Nat → α) (i : Nat) (v : α) : Nat → α := fun j => if j = i then v else f j
theorem upN_s {α : Type} {f : Nat → α} {i : Nat} {v : α} : upN f i v i = v := if_pos rfl
theorem upN_n {α : Type} {f : Nat → α} {i j : Nat} {v : α} (h : j ≠ i) : upN f i v j = f j := if_neg h
def NT.put (T : NT) (i : Nat) (G : Gr) (lo hi co su : Nat → Int) : NT := (T.N, upN T.G i G, upN T.lo i lo, upN T.hi i hi, upN T.co i co, upN T.su i su)
def NetOK (G : Gr) (lo hi co su : Nat → Int) : Prop := GrOK G ∧ (∀ e, e < G.m → (0 ≤ lo e ∧ lo e ≤ hi e ∧ hi e ≤ 99) ∧ (-20 ≤ co e ∧ co e ≤ 20)) ∧ ∀ x, x < G.n → -99 ≤ su x ∧ su x ≤ 99
theorem NTok.put {T : NT} (hT : NTok T) {i : Nat} {G : Gr} {lo hi co su : Nat → Int} (h : NetOK G lo hi co su) : NTok (T.put i G lo hi co su) := by
  refine ⟨hT.1, fun j hj => ?_⟩
  by_cases hji : j = i
  · subst hji
    show GrOK (upN T.G j G j) ∧ (∀ e, e < (upN T.G j G j).m → (0 ≤ upN T.lo j lo j e ∧ upN T.lo j lo j e ≤ upN T.hi j hi j e ∧ upN T.hi j hi j e ≤ 99) ∧ (-20 ≤ upN T.co j co j e ∧ upN T.co j co j e ≤ 20)) ∧ ∀ x, x < (upN T.G j G j).n → -99 ≤ upN T.su j su j x ∧ upN T.su j su j x ≤ 99
    rw [upN_s, upN_s, upN_s, upN_s, upN_s]
    exact h
  · show GrOK (upN T.G i G j) ∧ (∀ e, e < (upN T.G i G j).m → (0 ≤ upN T.lo i lo j e ∧ upN T.lo i lo j e ≤ upN T.hi i hi j e ∧ upN T.hi i hi j e ≤ 99) ∧ (-20 ≤ upN T.co i co j e ∧ upN T.co i co j e ≤ 20)) ∧ ∀ x, x < (upN T.G i G j).n → -99 ≤ upN T.su i su j x ∧ upN T.su i su j x ≤ 99
    rw [upN_n hji, upN_n hji, upN_n hji, upN_n hji, upN_n hji]
    exact hT.2 j hj
def CNet (I : xIn) (c : xCx) (i : Nat) (G : Gr) (lo hi co su : Nat → Int) : Prop := CG I c i G ∧ (∀ e, e < G.m → I (i + 3, 3) e = lo e ∧ I (i + 3, 4) e = hi e ∧ I (i + 3, 5) e = co e) ∧ ∀ x, x < G.n → I (i + 3, 6) x = su x
theorem CI.put {I J : xIn} {c : xCx} {T : NT} (h : CI I c T) {i : Nat} {G : Gr} {lo hi co su : Nat → Int} (hk : ∀ p : xP, p.1 ≠ i + 3 → J p = I p) (hn : CNet J c i G lo hi co su) : CI J c (T.put i G lo hi co su) := by
  refine ⟨h.1, by rw [hk (0, 0) (by simp)]; exact h.2.1, fun j hj => ?_⟩
  by_cases hji : j = i
  · subst hji
    show CNet J c j (upN T.G j G j) (upN T.lo j lo j) (upN T.hi j hi j) (upN T.co j co j) (upN T.su j su j)
    rw [upN_s, upN_s, upN_s, upN_s, upN_s]
    exact hn
  · show CNet J c j (upN T.G i G j) (upN T.lo i lo j) (upN T.hi i hi j) (upN T.co i co j) (upN T.su i su j)
    rw [upN_n hji, upN_n hji, upN_n hji, upN_n hji, upN_n hji]
    unfold CNet CG
    simp only [hk (j + 3, _) (show j + 3 ≠ i + 3 by omega)]
    exact h.2.2 j hj
/-- rows of nets alone -/
def netP : List xP := [(1, 1), (1, 2), (1, 3), (1, 4), (1, 5), (1, 6), (1, 7), (1, 8)]
def okB (lo hi co : Int) : Bool := decide (0 ≤ lo ∧ lo ≤ hi ∧ hi ≤ 99 ∧ -20 ≤ co ∧ co ≤ 20)
/-! what they answer, and the nets behind -/
def edgeA (T : NT) (a s t lo hi co : Int) : (Int × Int) × NT := if 0 < wrongT T a s t then ((0, wrongT T a s t), T) else if okB lo hi co then (if (T.G (Int.toNat a)).m = 16 then ((0, 3), T) else ((((T.G (Int.toNat a)).m : Int), 0), T.put (Int.toNat a) (bk (T.G (Int.toNat a)) (Int.toNat t) (Int.toNat s)) (upL (T.lo (Int.toNat a)) (T.G (Int.toNat a)).m lo) (upL (T.hi (Int.toNat a)) (T.G (Int.toNat a)).m hi) (upL (T.co (Int.toNat a)) (T.G (Int.toNat a)).m co) (T.su (Int.toNat a)))) else ((0, 2), T)
def changeA (T : NT) (a e lo hi co : Int) : (Int × Int) × NT := if 0 < wrong1E T a e then ((0, wrong1E T a e), T) else if okB lo hi co then ((T.hi (Int.toNat a) (Int.toNat e), 0), T.put (Int.toNat a) (T.G (Int.toNat a)) (upL (T.lo (Int.toNat a)) (Int.toNat e) lo) (upL (T.hi (Int.toNat a)) (Int.toNat e) hi) (upL (T.co (Int.toNat a)) (Int.toNat e) co) (T.su (Int.toNat a))) else ((0, 2), T)
/-- an edge is taken out of a row -/
def outN {α : Type} (f : Nat → α) (e : Nat) : Nat → α := fun k => if k < e then f k else f (k + 1)
def dropG (G : Gr) (e : Nat) : Gr := (G.n, G.m - 1, outN G.u e, outN G.v e)
def dropA (T : NT) (a e : Int) : (Int × Int) × NT := if 0 < wrong1E T a e then ((0, wrong1E T a e), T) else ((((T.G (Int.toNat a)).m : Int) - 1, 0), T.put (Int.toNat a) (dropG (T.G (Int.toNat a)) (Int.toNat e)) (outN (T.lo (Int.toNat a)) (Int.toNat e)) (outN (T.hi (Int.toNat a)) (Int.toNat e)) (outN (T.co (Int.toNat a)) (Int.toNat e)) (T.su (Int.toNat a)))
def edgesA (T : NT) (a : Int) : Int × Int := wE 0 (wrong1 T a) ((T.G (Int.toNat a)).m, 0)
def supplyA (T : NT) (a k v : Int) : (Int × Int) × NT := if 0 < wrong1C T a k then ((0, wrong1C T a k), T) else if -99 ≤ v ∧ v ≤ 99 then ((T.su (Int.toNat a) (Int.toNat k), 0), T.put (Int.toNat a) (T.G (Int.toNat a)) (T.lo (Int.toNat a)) (T.hi (Int.toNat a)) (T.co (Int.toNat a)) (upL (T.su (Int.toNat a)) (Int.toNat k) v)) else ((0, 2), T)
theorem bk_OK {G : Gr} (hG : GrOK G) {a b : Nat} (ha : a < G.n) (hb : b < G.n) (hab : a ≠ b) (hm : G.m < 16) : GrOK (bk G b a) := by
  refine ⟨hG.1, hG.2.1, show G.m + 1 ≤ 16 by omega, fun e he => ?_⟩
  have he : e < G.m + 1 := he
  show (if e = G.m then a else G.u e) < G.n ∧ (if e = G.m then b else G.v e) < G.n ∧ (if e = G.m then a else G.u e) ≠ (if e = G.m then b else G.v e)
  by_cases h : e = G.m
  · rw [if_pos h, if_pos h]; exact ⟨ha, hb, hab⟩
  · rw [if_neg h, if_neg h]; exact hG.2.2.2 e (by omega)
theorem edgeA_ok {T : NT} (hT : NTok T) (a s t lo hi co : Int) : NTok (edgeA T a s t lo hi co).2 := by
  unfold edgeA
  split
  · exact hT
  · rename_i hw
    split
    · rename_i hb
      split
      · exact hT
      · rename_i hm
        have hb := of_decide_eq_true hb
        obtain ⟨i, s, t, rfl, rfl, rfl, hi, hs9, ht9, hst⟩ := wrong_0 (show wrongT T a s t ≤ 0 by omega)
        rw [tnN, tnN, tnN] at *
        obtain ⟨hG, hB, hS⟩ := hT.2 i hi
        have hm16 := hG.2.2.1
        refine hT.put ⟨bk_OK hG hs9 ht9 hst (by omega), fun e he => ?_, hS⟩
        have he : e < (T.G i).m + 1 := he
        by_cases h : e = (T.G i).m
        · rw [h, upL_s, upL_s, upL_s]; omega
        · rw [upL_n h, upL_n h, upL_n h]; exact hB e (by omega)
    · exact hT
theorem wrong1E_0 {T : NT} {a e : Int} (h : wrong1E T a e ≤ 0) : ∃ i e9 : Nat, a = i ∧ e = e9 ∧ i < T.N ∧ e9 < (T.G i).m := by
  unfold wrong1E at h
  by_cases ha : inB a (T.N : Int) = true
  · rw [if_pos ha] at h
    by_cases hb : inB e ((T.G (Int.toNat a)).m : Int) = true
    · have ha := inB_t ha
      obtain ⟨i, rfl⟩ := Int.eq_ofNat_of_zero_le ha.1
      have hb := inB_t hb
      rw [tnN] at hb
      obtain ⟨e9, rfl⟩ := Int.eq_ofNat_of_zero_le hb.1
      exact ⟨i, e9, rfl, rfl, by omega, by omega⟩
    · rw [if_neg hb] at h; omega
  · rw [if_neg ha] at h; omega
theorem wrong1C_0 {T : NT} {a e : Int} (h : wrong1C T a e ≤ 0) : ∃ i e9 : Nat, a = i ∧ e = e9 ∧ i < T.N ∧ e9 < (T.G i).n := by
  unfold wrong1C at h
  by_cases ha : inB a (T.N : Int) = true
  · rw [if_pos ha] at h
    by_cases hb : inB e ((T.G (Int.toNat a)).n : Int) = true
    · have ha := inB_t ha
      obtain ⟨i, rfl⟩ := Int.eq_ofNat_of_zero_le ha.1
      have hb := inB_t hb
      rw [tnN] at hb
      obtain ⟨e9, rfl⟩ := Int.eq_ofNat_of_zero_le hb.1
      exact ⟨i, e9, rfl, rfl, by omega, by omega⟩
    · rw [if_neg hb] at h; omega
  · rw [if_neg ha] at h; omega
theorem wrong1_0 {T : NT} {a : Int} (h : wrong1 T a ≤ 0) : ∃ i : Nat, a = i ∧ i < T.N := by
  unfold wrong1 at h
  by_cases ha : inB a (T.N : Int) = true
  · have ha := inB_t ha
    obtain ⟨i, rfl⟩ := Int.eq_ofNat_of_zero_le ha.1
    exact ⟨i, rfl, by omega⟩
  · rw [if_neg ha] at h; omega
theorem wrong1_c (T : NT) (a : Int) : wrong1 T a = 0 ∨ wrong1 T a = 1 := by unfold wrong1; split; exact Or.inl rfl; exact Or.inr rfl
theorem wrong1E_c (T : NT) (a e : Int) : wrong1E T a e = 0 ∨ wrong1E T a e = 1 := by
  unfold wrong1E
  split
  · split
    · exact Or.inl rfl
    · exact Or.inr rfl
  · exact Or.inr rfl
theorem wrong1C_c (T : NT) (a e : Int) : wrong1C T a e = 0 ∨ wrong1C T a e = 1 := by
  unfold wrong1C
  split
  · split
    · exact Or.inl rfl
    · exact Or.inr rfl
  · exact Or.inr rfl
theorem changeA_ok {T : NT} (hT : NTok T) (a e lo hi co : Int) : NTok (changeA T a e lo hi co).2 := by
  unfold changeA
  split
  · exact hT
  · rename_i hw
    split
    · rename_i hb
      have hb := of_decide_eq_true hb
      obtain ⟨i, e, rfl, rfl, hi, he⟩ := wrong1E_0 (show wrong1E T a e ≤ 0 by omega)
      rw [tnN, tnN]
      obtain ⟨hG, hB, hS⟩ := hT.2 i hi
      refine hT.put ⟨hG, fun k hk => ?_, hS⟩
      by_cases h : k = e
      · rw [h, upL_s, upL_s, upL_s]; omega
      · rw [upL_n h, upL_n h, upL_n h]; exact hB k hk
    · exact hT
theorem dropG_OK {G : Gr} (hG : GrOK G) (e : Nat) : GrOK (dropG G e) := by
  refine ⟨hG.1, hG.2.1, show G.m - 1 ≤ 16 by have := hG.2.2.1; omega, fun k hk => ?_⟩
  have hk : k < G.m - 1 := hk
  show outN G.u e k < G.n ∧ outN G.v e k < G.n ∧ outN G.u e k ≠ outN G.v e k
  unfold outN
  by_cases h : k < e
  · rw [if_pos h, if_pos h]; exact hG.2.2.2 k (by omega)
  · rw [if_neg h, if_neg h]; exact hG.2.2.2 (k + 1) (by omega)
theorem dropA_ok {T : NT} (hT : NTok T) (a e : Int) : NTok (dropA T a e).2 := by
  unfold dropA
  split
  · exact hT
  · rename_i hw
    obtain ⟨i, e, rfl, rfl, hi, he⟩ := wrong1E_0 (show wrong1E T a e ≤ 0 by omega)
    rw [tnN, tnN]
    obtain ⟨hG, hB, hS⟩ := hT.2 i hi
    refine hT.put ⟨dropG_OK hG e, fun k hk => ?_, hS⟩
    have hk : k < (T.G i).m - 1 := hk
    unfold outN
    by_cases h : k < e
    · rw [if_pos h, if_pos h, if_pos h]; exact hB k (by omega)
    · rw [if_neg h, if_neg h, if_neg h]; exact hB (k + 1) (by omega)
theorem supplyA_ok {T : NT} (hT : NTok T) (a k v : Int) : NTok (supplyA T a k v).2 := by
  unfold supplyA
  split
  · exact hT
  · rename_i hw
    split
    · rename_i hv
      obtain ⟨i, x, rfl, rfl, hi, hx⟩ := wrong1C_0 (show wrong1C T a k ≤ 0 by omega)
      rw [tnN, tnN]
      obtain ⟨hG, hB, hS⟩ := hT.2 i hi
      refine hT.put ⟨hG, hB, fun y hy => ?_⟩
      by_cases h : y = x
      · rw [h, upL_s]; exact hv
      · rw [upL_n h]; exact hS y hy
    · exact hT
