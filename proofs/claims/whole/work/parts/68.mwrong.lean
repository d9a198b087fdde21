/-! what the reference refuses -/
def MW (I : xIn) : Prop := (0 ≤ I (1, 0) 0 ∧ I (1, 0) 0 ≤ 4) ∧ ∀ k, k < 4 → (0 ≤ I (1, 1) k ∧ I (1, 1) k ≤ 8) ∧ (0 ≤ I (1, 2) k ∧ I (1, 2) k ≤ 16)
def inB (a n : Int) : Bool := decide (0 ≤ a ∧ a ≤ n - 1)
theorem inB_t {a n : Int} (h : inB a n = true) : 0 ≤ a ∧ a < n := by have := of_decide_eq_true h; omega
def twoB (n s t : Int) : Bool := inB s n && inB t n && decide (s ≠ t)
def wrongV (I : xIn) (a s t : Int) : Int := if inB a (I (1, 0) 0) then (if twoB (I (1, 1) (Int.toNat a)) s t then 0 else 2) else 1
def wrongEV (I : xIn) (a s t e : Int) : Int := if inB a (I (1, 0) 0) then (if inB e (I (1, 2) (Int.toNat a)) then (if twoB (I (1, 1) (Int.toNat a)) s t then 0 else 2) else 1) else 1
section MO
variable {X : xX} {c : xCx} {I : xIn}
theorem ok_isNet (hX : xBase X) (d : Nat) (hW : MW I) {a : Int} (ha : xin a) : xRet rB X m_X10_isNet (d + 1) [xr (1, 0), xi a] c I 0 0 (pv (inB a (I (1, 0) 0)) I) xNo := by
  obtain ⟨h1, h2⟩ := id hW
  refine xRet_of hX pl_X10_isNet (LE1 rfl) fun V hV => rg_X10_isNet_0 hV I _ ⟨_, ok_in hX d ha ⟨by omega, by omega⟩ ⟨by omega, by omega⟩, ?_⟩
  rintro _ _ ⟨rfl, rfl⟩
  exact pvI rfl
theorem ok_isCorner (hX : xBase X) (d : Nat) (hW : MW I) {a s : Int} (ha : 0 ≤ a ∧ a < 4) (hs : xin s) : xRet rB X m_X10_isCorner (d + 1) [xr (1, 0), xi a, xi s] c I 0 0 (pv (inB s (I (1, 1) (Int.toNat a))) I) xNo := by
  obtain ⟨h1, h2⟩ := id hW
  have h3 := h2 (Int.toNat a) (by omega)
  refine xRet_of hX pl_X10_isCorner (LE1 rfl) fun V hV => rg_X10_isCorner_0 hV I _ _ ⟨ha, _, ok_in hX d hs ⟨by omega, by omega⟩ ⟨by omega, by omega⟩, ?_⟩
  rintro _ _ ⟨rfl, rfl⟩
  exact pvI rfl
theorem ok_isEdge (hX : xBase X) (d : Nat) (hW : MW I) {a e : Int} (ha : 0 ≤ a ∧ a < 4) (he : xin e) : xRet rB X m_X10_isEdge (d + 1) [xr (1, 0), xi a, xi e] c I 0 0 (pv (inB e (I (1, 2) (Int.toNat a))) I) xNo := by
  obtain ⟨h1, h2⟩ := id hW
  have h3 := h2 (Int.toNat a) (by omega)
  refine xRet_of hX pl_X10_isEdge (LE1 rfl) fun V hV => rg_X10_isEdge_0 hV I _ _ ⟨ha, _, ok_in hX d he ⟨by omega, by omega⟩ ⟨by omega, by omega⟩, ?_⟩
  rintro _ _ ⟨rfl, rfl⟩
  exact pvI rfl
theorem ok_areTwo (hX : xBase X) (d : Nat) (hW : MW I) {a s t : Int} (ha : 0 ≤ a ∧ a < 4) (hs : xin s) (ht : xin t) : xRet rB X m_X10_areTwo (d + 2) [xr (1, 0), xi a, xi s, xi t] c I 0 0 (pv (twoB (I (1, 1) (Int.toNat a)) s t) I) xNo := by
  refine xRet_of hX pl_X10_areTwo (LE1 rfl) fun V hV => rg_X10_areTwo_0 hV I _ _ _ ⟨_, ok_isCorner hX d hW ha hs, ?_⟩
  rintro _ I ⟨rfl, rfl⟩
  refine ⟨fun z => pvI (by unfold twoB; rw [z]; rfl), fun z => ⟨_, ok_isCorner hX d hW ha ht, ?_⟩⟩
  rintro _ I ⟨rfl, rfl⟩
  refine ⟨fun w => pvI (by unfold twoB; rw [z, w]; rfl), fun w => ⟨hs, ht, fun h => pvI ?_, fun h => pvI ?_⟩⟩
  · unfold twoB; rw [z, w]; simp [h]
  · unfold twoB; rw [z, w]; simp [h]
theorem ok_wrong (hX : xBase X) (d : Nat) (hW : MW I) {a s t : Int} (ha : xin a) (hs : xin s) (ht : xin t) : xRet rI X m_X10_wrong (d + 3) [xr (1, 0), xi a, xi s, xi t] c I 0 0 (pv (wrongV I a s t) I) xNo := by
  refine xRet_of hX pl_X10_wrong (LE1 rfl) fun V hV => rg_X10_wrong_0 hV I _ _ _ ⟨_, ok_isNet hX (d + 1) hW ha, ?_⟩
  rintro _ I ⟨rfl, rfl⟩
  refine ⟨fun z => ⟨_, ok_areTwo hX d hW (by have := inB_t z; have := hW.1; omega) hs ht, ?_⟩, fun z => pvI (by unfold wrongV; rw [z]; rfl)⟩
  rintro _ I ⟨rfl, rfl⟩
  exact ⟨fun w => pvI (by unfold wrongV; rw [z, w]; rfl), fun w => pvI (by unfold wrongV; rw [z, w]; rfl)⟩
theorem ok_wrongEdge (hX : xBase X) (d : Nat) (hW : MW I) {a s t e : Int} (ha : xin a) (hs : xin s) (ht : xin t) (he : xin e) : xRet rI X m_X10_wrongEdge (d + 3) [xr (1, 0), xi a, xi s, xi t, xi e] c I 0 0 (pv (wrongEV I a s t e) I) xNo := by
  refine xRet_of hX pl_X10_wrongEdge (LE1 rfl) fun V hV => rg_X10_wrongEdge_0 hV I _ _ _ _ ⟨_, ok_isNet hX (d + 1) hW ha, ?_⟩
  rintro _ I ⟨rfl, rfl⟩
  refine ⟨fun z => pvI (by unfold wrongEV; rw [z]; rfl), fun z => ?_⟩
  have ha4 : 0 ≤ a ∧ a < 4 := by have := inB_t z; have := hW.1; omega
  refine ⟨_, ok_isEdge hX (d + 1) hW ha4 he, ?_⟩
  rintro _ I ⟨rfl, rfl⟩
  refine ⟨fun w => ⟨_, ok_areTwo hX d hW ha4 hs ht, ?_⟩, fun w => pvI (by unfold wrongEV; rw [z, w]; rfl)⟩
  rintro _ I ⟨rfl, rfl⟩
  exact ⟨fun y => pvI (by unfold wrongEV; rw [z, w, y]; rfl), fun y => pvI (by unfold wrongEV; rw [z, w, y]; rfl)⟩
end MO
