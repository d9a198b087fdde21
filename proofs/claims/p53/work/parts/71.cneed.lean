/-! what the class refuses -/
def xIOB : String := "java/lang/IndexOutOfBoundsException"
def xIAE : String := "java/lang/IllegalArgumentException"
def xNSE : String := "java/util/NoSuchElementException"
/-- the class holds these nets -/
def CI (I : xIn) (c : xCx) (T : NT) : Prop := c.1 = T.N ∧ I (0, 0) 1 = (T.N : Int) ∧ ∀ i, i < T.N → CG I c i (T.G i) ∧ (∀ e, e < (T.G i).m → I (i + 3, 3) e = T.lo i e ∧ I (i + 3, 4) e = T.hi i e ∧ I (i + 3, 5) e = T.co i e) ∧ ∀ x, x < (T.G i).n → I (i + 3, 6) x = T.su i x
section CN
variable {X : xX} {c : xCx} {I : xIn}
theorem cn_netAt (hX : xBase X) (d : Nat) (h1 : I (0, 0) 1 = (c.1 : Int)) (h4 : c.1 ≤ 4) {a : Int} (ha : xin a) : xRet rN X m_X9_netAt (d + 7) [xr (0, 0), xi a] c I 1 6 (fun i I9 => I9 = I ∧ i < c.1 ∧ a = (i : Int)) (fun e I9 => e = xIOB ∧ I9 = I ∧ inB a c.1 = false) := by
  refine xRet_of hX pl_X9_netAt (LE1 rfl) fun V hV => rg_X9_netAt_0 hV I _ ⟨ha, fun h => ⟨rfl, rfl, ?_⟩, fun h => ⟨fun h2 => ⟨rfl, rfl, ?_⟩, fun h2 => ⟨fun h3 => by omega, fun h3 => ⟨⟨by omega, by omega⟩, fun i hi e _ => ⟨rfl, hi, e⟩, fun h5 => by omega⟩⟩⟩⟩
  · exact decide_eq_false (by omega)
  · exact decide_eq_false (by omega)
theorem cn_needEnds (hX : xBase X) (d : Nat) {i : Nat} (hi : i < c.1) {n : Nat} (hn : I (i + 3, 0) 0 = (n : Int)) {s t : Int} (hs : xin s) (ht : xin t) : xRet rU X m_X9_needEnds (d + 7) [xr (i + 3, 0), xi s, xi t] c I 1 6 (fun _ I9 => I9 = I ∧ twoB n s t = true) (fun e I9 => e = xIAE ∧ I9 = I ∧ twoB n s t = false) := by
  refine xRet_of hX pl_X9_needEnds (LE1 rfl) fun V hV => rg_X9_needEnds_0 hV I _ hi _ _ ⟨hs, fun h => ⟨rfl, rfl, ?_⟩, fun h => ⟨fun h2 => ⟨rfl, rfl, ?_⟩, fun h2 => ⟨ht, fun h3 => ⟨rfl, rfl, ?_⟩, fun h3 => ⟨fun h4 => ⟨rfl, rfl, ?_⟩, fun h4 => ⟨fun h5 => ⟨rfl, ?_⟩, fun h5 => ⟨rfl, rfl, ?_⟩⟩⟩⟩⟩⟩
  · unfold twoB; rw [show inB s n = false from decide_eq_false (by omega)]; rfl
  · unfold twoB; rw [show inB s n = false from decide_eq_false (by omega)]; rfl
  · unfold twoB; rw [show inB t n = false from decide_eq_false (by omega)]; simp
  · unfold twoB; rw [show inB t n = false from decide_eq_false (by omega)]; simp
  · unfold twoB; rw [show inB s n = true from decide_eq_true (by omega), show inB t n = true from decide_eq_true (by omega)]; simpa using h5
  · unfold twoB; simp [h5]
theorem cn_needEdge (hX : xBase X) (d : Nat) {i : Nat} (hi : i < c.1) {m : Nat} (hm : I (i + 3, 0) 7 = (m : Int)) {e : Int} (he : xin e) : xRet rU X m_X9_needEdge (d + 7) [xr (i + 3, 0), xi e] c I 1 6 (fun _ I9 => I9 = I ∧ inB e m = true) (fun x I9 => x = xIOB ∧ I9 = I ∧ inB e m = false) :=
  xRet_of hX pl_X9_needEdge (LE1 rfl) fun V hV => rg_X9_needEdge_0 hV I _ hi _ ⟨he, fun h => ⟨rfl, rfl, decide_eq_false (by omega)⟩, fun h => ⟨fun h2 => ⟨rfl, decide_eq_true (by omega)⟩, fun h2 => ⟨rfl, rfl, decide_eq_false (by omega)⟩⟩⟩
theorem cn_needCorner (hX : xBase X) (d : Nat) {i : Nat} (hi : i < c.1) {n : Nat} (hn : I (i + 3, 0) 0 = (n : Int)) {x : Int} (hx : xin x) : xRet rU X m_X9_needCorner (d + 7) [xr (i + 3, 0), xi x] c I 1 6 (fun _ I9 => I9 = I ∧ inB x n = true) (fun e I9 => e = xIOB ∧ I9 = I ∧ inB x n = false) :=
  xRet_of hX pl_X9_needCorner (LE1 rfl) fun V hV => rg_X9_needCorner_0 hV I _ hi _ ⟨hx, fun h => ⟨rfl, rfl, decide_eq_false (by omega)⟩, fun h => ⟨fun h2 => ⟨rfl, decide_eq_true (by omega)⟩, fun h2 => ⟨rfl, rfl, decide_eq_false (by omega)⟩⟩⟩
theorem cn_needFlow (hX : xBase X) (d : Nat) (b : Bool) : xRet rU X m_X9_needFlow (d + 7) [xi (xbi b)] c I 1 6 (fun _ I9 => I9 = I ∧ b = true) (fun e I9 => e = xNSE ∧ I9 = I ∧ b = false) :=
  xRet_of hX pl_X9_needFlow (LE1 rfl) fun V hV => rg_X9_needFlow_0 hV I _ ⟨fun h => ⟨rfl, h⟩, fun h => ⟨rfl, rfl, h⟩⟩
end CN
