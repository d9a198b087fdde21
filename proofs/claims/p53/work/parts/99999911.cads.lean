/-! the law's world: its places, one more place, one less -/
def er (k : Nat) : xP := (1, 5 + 64 * (k + 1))
theorem kd_er (k : Nat) : kd (er k) = (1, 5) := by
  show ((1 : Nat), (5 + 64 * (k + 1)) % 64) = (1, 5)
  rw [Nat.add_mul_mod_self_left]
def pI (n b : Nat) : xP := (1, n + 64 * b)
def pB (n b : Nat) : xP := (2, n + 64 * b)
theorem kd_pI {n b : Nat} (hn : n < 64) : kd (pI n b) = (1, n) := by
  show ((1 : Nat), (n + 64 * b) % 64) = (1, n)
  rw [Nat.add_mul_mod_self_left, Nat.mod_eq_of_lt hn]
theorem kd_pB {n b : Nat} (hn : n < 16) (hb : 1 ≤ b) : kd (pB n b) = (2, n) := by
  show (if n + 64 * b < 16 then kd2.getD (n + 64 * b) (9, 0) else (2, (n + 64 * b) % 16)) = (2, n)
  rw [if_neg (by omega)]
  have : (n + 64 * b) % 16 = n := by omega
  rw [this]
def zI (I : xIn) (q : xP) : xIn := fun p => if p = q then fun _ => 0 else I p
theorem zI_q {I : xIn} {q : xP} : zI I q q = fun _ => 0 := if_pos rfl
theorem zI_n {I : xIn} {q p : xP} (h : p ≠ q) : zI I q p = I p := if_neg h
def cAd (c : xCx) (q : xP) (a : Nat) : xCx := (c.1, c.2.1 ++ [q], (fun p => if p = q then fun _ => none else c.2.2.1 p), fun p => if p = q then a else c.2.2.2 p)
/-- q is not there yet -/
def cFr (c : xCx) (q : xP) : Prop := (q.1 = 1 ∨ q.1 = 2) ∧ q ∉ c.2.1 ∧ ∀ (p : xP) (k : Nat), c.2.2.1 p k ≠ some q
theorem rf0_g : ∀ (j k : Nat) (t : xP), rf0 j k = some t → t.1 = 0 := by
  intro j k t h
  unfold rf0 at h
  split at h <;> first | (cases h; rfl) | cases h
theorem rfN_g : ∀ (i j k : Nat) (t : xP), rfN i j k = some t → t.1 = i + 3 := by
  intro i j k t h
  unfold rfN at h
  split at h <;> first | (cases h; rfl) | cases h
theorem rst_nr {N : Nat} {f : xP → Nat → Option xP} {q : xP} (hq : q.1 = 1 ∨ q.1 = 2) (hf : ∀ p k, f p k ≠ some q) (p : xP) (k : Nat) : rst N f p k ≠ some q := by
  unfold rst
  intro h
  split at h
  · split at h
    · split at h
      · cases h; omega
      · cases h
    · have := rf0_g _ _ _ h; omega
  · cases h
  · exact hf _ _ h
  · split at h
    · have := rfN_g _ _ _ _ h; omega
    · cases h
theorem lv_not {N : Nat} {l : List xP} {q : xP} (hq : q.1 = 1 ∨ q.1 = 2) (hl : q ∉ l) : q ∉ lvL N l := by
  intro h
  rcases List.mem_append.mp h with h | h
  · obtain ⟨j, -, rfl⟩ := List.mem_map.mp h
    rcases hq with hq | hq <;> cases hq
  · rcases List.mem_append.mp h with h | h
    · obtain ⟨i, -, h⟩ := List.mem_flatMap.mp h
      obtain ⟨j, -, rfl⟩ := List.mem_map.mp h
      have : i + 3 = 1 ∨ i + 3 = 2 := hq
      omega
    · exact hl h
theorem xnew_ad {I : xIn} {c : xCx} {q : xP} {a : Nat} (hq : q.1 = 1 ∨ q.1 = 2) : xnew (I, xst c) q a = (zI I q, xst (cAd c q a)) := by
  have e1 : (fun p => if p = q then fun _ => none else rst c.1 c.2.2.1 p) = rst c.1 (fun p => if p = q then fun _ => none else c.2.2.1 p) := by
    funext p k
    by_cases hp : p = q
    · subst hp
      rw [if_pos rfl]
      unfold rst
      split
      · next h => rw [h] at hq; rcases hq with hq | hq <;> cases hq
      · rfl
      · exact (congrFun (if_pos rfl : (if p = p then fun _ => none else c.2.2.1 p) = fun _ => none) k).symm
      · next h => rw [h] at hq; omega
    · rw [if_neg hp]
      unfold rst
      split
      · rfl
      · rfl
      · exact (congrFun (if_neg hp : (if p = q then fun _ => none else c.2.2.1 p) = c.2.2.1 p) k).symm
      · rfl
  have e2 : lvL c.1 c.2.1 ++ [q] = lvL c.1 (c.2.1 ++ [q]) := by
    unfold lvL
    rw [List.append_assoc, List.append_assoc]
  have e3 : (fun p : xP => if p = q then fun _ : Nat => (0 : Int64) else fun _ => 0) = fun _ _ => 0 := by funext p k; split <;> rfl
  have e4 : (fun p : xP => if p = q then fun _ : Nat => (0 : UInt64) else fun _ => 0) = fun _ _ => 0 := by funext p k; split <;> rfl
  show (zI I q, (fun p => if p = q then fun _ => none else rst c.1 c.2.2.1 p), (fun p : xP => if p = q then fun _ : Nat => (0 : Int64) else fun _ => 0), (fun p : xP => if p = q then fun _ : Nat => (0 : UInt64) else fun _ => 0), lvL c.1 c.2.1 ++ [q], fun p => if p = q then a else c.2.2.2 p) = (zI I q, rst c.1 (fun p => if p = q then fun _ => none else c.2.2.1 p), fun _ _ => 0, fun _ _ => 0, lvL c.1 (c.2.1 ++ [q]), fun p => if p = q then a else c.2.2.2 p)
  rw [e1, e2, e3, e4]
theorem cAd_mem {c : xCx} {q p : xP} {a : Nat} (h : p ∈ lvL c.1 c.2.1) : p ∈ lvL (cAd c q a).1 (cAd c q a).2.1 := by
  rcases List.mem_append.mp h with h | h
  · exact List.mem_append_left _ h
  · rcases List.mem_append.mp h with h | h
    · exact List.mem_append_right _ (List.mem_append_left _ h)
    · exact List.mem_append_right _ (List.mem_append_right _ (List.mem_append_left _ h))
theorem cAd_self {c : xCx} {q : xP} {a : Nat} : q ∈ lvL (cAd c q a).1 (cAd c q a).2.1 := List.mem_append_right _ (List.mem_append_right _ (List.mem_append_right _ (List.mem_singleton.mpr rfl)))
/-- what is held lies in the world -/
def xhl (l : List xP) : xV → Prop
  | .inr (.inl (some p)) => p ∈ l
  | _ => True
theorem xhl_has {l : List xP} {q : xP} {v : xV} (h : xhl l v) (hq : q ∉ l) : xhas q v = false := by
  rcases v with v | v | v | v | v <;> try rfl
  cases v with
  | none => rfl
  | some p =>
    have : p ≠ q := fun z => hq (z ▸ h)
    simp [xhas, this]
theorem frc {P : xV → Prop} {v : xV} {l : List xV} (h : P v) (h2 : ∀ w ∈ l, P w) : ∀ w ∈ v :: l, P w := List.forall_mem_cons.mpr ⟨h, h2⟩
theorem frn {P : xV → Prop} : ∀ w ∈ ([] : List xV), P w := fun _ h => by cases h
section XR
variable {X : xX} {y : xM} {d mc ms : Nat} {V : xT} {pc : Nat} {lo : List (Nat × xV)} {st : List xV} {I : xIn} {c : xCx} {k n : Nat}
theorem x_mkI (hV : xEng X y d mc ms V) {nn : Nat} {v : Int} {q : xP} (hd : decode y.2.1 pc = .ok (.newarray .int, 2)) (hv : v = nn) (hkd : kd q = (1, nn)) (hf : cFr c q) (hfr : ∀ w ∈ lo.map Prod.snd ++ st, xhl (lvL c.1 c.2.1) w) (hk1 : k + 1 ≤ mc) (hn1 : n + nn ≤ ms) (kk : ∀ a : Nat, V (pc + 2) lo (xr q :: st) (zI I q, xst (cAd c q a)) (k + 1) (n + nn)) : V pc lo (xi v :: st) (I, xst c) k n :=
  x_newAI hV hd hv hkd (lv_not hf.1 hf.2.1) (rst_nr hf.1 hf.2.2) (fun w hw => xhl_has (hfr w hw) (lv_not hf.1 hf.2.1)) hk1 hn1 (fun a => by rw [xnew_ad hf.1]; exact kk a)
theorem x_mkB (hV : xEng X y d mc ms V) {nn : Nat} {v : Int} {q : xP} (hd : decode y.2.1 pc = .ok (.newarray .boolean, 2)) (hv : v = nn) (hkd : kd q = (2, nn)) (hf : cFr c q) (hfr : ∀ w ∈ lo.map Prod.snd ++ st, xhl (lvL c.1 c.2.1) w) (hk1 : k + 1 ≤ mc) (hn1 : n + nn ≤ ms) (kk : ∀ a : Nat, V (pc + 2) lo (xr q :: st) (zI I q, xst (cAd c q a)) (k + 1) (n + nn)) : V pc lo (xi v :: st) (I, xst c) k n :=
  x_newAB hV hd hv hkd (lv_not hf.1 hf.2.1) (rst_nr hf.1 hf.2.2) (fun w hw => xhl_has (hfr w hw) (lv_not hf.1 hf.2.1)) hk1 hn1 (fun a => by rw [xnew_ad hf.1]; exact kk a)
end XR
/-- the world is in order: nothing twice -/
def cOK (c : xCx) : Prop := c.1 ≤ 1 ∧ c.2.1.Nodup ∧ ∀ p ∈ c.2.1, p.1 = 1 ∨ p.1 = 2
theorem lv_nodup {c : xCx} (h : cOK c) : (lvL c.1 c.2.1).Nodup := by
  obtain ⟨h1, h2, h3⟩ := h
  have h0 : ∀ N, N ≤ 1 → (((List.range 36).map fun j => ((0, j) : xP)) ++ ((List.range N).flatMap (fun i => (List.range 7).map fun j => ((i + 3, j) : xP)))).Nodup := by
    intro N hN
    match N, hN with
    | 0, _ => decide
    | 1, _ => decide
  have e : lvL c.1 c.2.1 = (((List.range 36).map fun j => ((0, j) : xP)) ++ ((List.range c.1).flatMap (fun i => (List.range 7).map fun j => ((i + 3, j) : xP)))) ++ c.2.1 := by
    unfold lvL
    rw [List.append_assoc]
  rw [e, List.nodup_append]
  refine ⟨h0 _ h1, h2, fun p hp q hq hpq => ?_⟩
  subst hpq
  have hg := h3 p hq
  rcases List.mem_append.mp hp with hp | hp
  · obtain ⟨j, -, rfl⟩ := List.mem_map.mp hp
    rcases hg with hg | hg <;> cases hg
  · obtain ⟨i, -, hp⟩ := List.mem_flatMap.mp hp
    obtain ⟨j, -, rfl⟩ := List.mem_map.mp hp
    have : i + 3 = 1 ∨ i + 3 = 2 := hg
    omega
theorem cOK.ad {c : xCx} (h : cOK c) {q : xP} {a : Nat} (hf : cFr c q) : cOK (cAd c q a) := by
  refine ⟨h.1, ?_, fun p hp => ?_⟩
  · show (c.2.1 ++ [q]).Nodup
    rw [List.nodup_append]
    refine ⟨h.2.1, by simp, fun p hp r hr hpr => ?_⟩
    rw [List.mem_singleton.mp hr] at hpr
    exact hf.2.1 (hpr ▸ hp)
  · rcases List.mem_append.mp hp with hp | hp
    · exact h.2.2 p hp
    · rw [List.mem_singleton.mp hp]; exact hf.1
/-- what was made is let go: the world is what it was -/
theorem xLe_ad {I J : xIn} {c : xCx} {q : xP} {a : Nat} (hc : cOK c) (hf : cFr c q) (hI : ∀ k, xin (I q k)) : xLe (J, xst (cAd c q a)) ((fun p => if p = q then I q else J p), xst c) := by
  have hne : ∀ p ∈ lvL c.1 c.2.1, p ≠ q := fun p hp z => lv_not hf.1 hf.2.1 (z ▸ hp)
  have hR : ∀ (p : xP) (k : Nat), p ≠ q → rst c.1 (fun p => if p = q then fun _ => none else c.2.2.1 p) p k = rst c.1 c.2.2.1 p k := by
    intro p k hp
    unfold rst
    split <;> first | rfl | exact congrFun (if_neg hp : (if p = q then fun _ => none else c.2.2.1 p) = c.2.2.1 p) k
  refine ⟨lv_nodup hc, fun p hp => ⟨cAd_mem hp, if_neg (hne p hp), ?_, (if_neg (hne p hp)).symm, fun k t ht => ?_⟩, fun hJ p k => ?_⟩
  · funext k
    exact (hR p k (hne p hp)).symm
  · have ht : rst c.1 (fun p => if p = q then fun _ => none else c.2.2.1 p) p k = some t := ht
    rw [hR p k (hne p hp)] at ht
    have : t ≠ q := fun z => rst_nr hf.1 hf.2.2 p k (z ▸ ht)
    exact (if_neg this).symm
  · show xin ((if p = q then I q else J p) k)
    split
    · exact hI k
    · exact hJ p k
/-- the law's world; all places' second numbers are below 64 * b -/
def LD (c : xCx) (b : Nat) : Prop := cOK c ∧ c.1 ≤ 1 ∧ ((2, 0) ∈ c.2.1 ∧ (2, 1) ∈ c.2.1 ∧ (2, 2) ∉ c.2.1) ∧ (c.2.2.1 (2, 0) 0 = some (2, 9) ∧ c.2.2.1 (2, 0) 3 = some (0, 0) ∧ c.2.2.1 (2, 0) 5 = some (2, 1)) ∧ 13 ≤ b ∧ (∀ p ∈ c.2.1, p.2 < 64 * b) ∧ ∀ (p : xP) (k : Nat) (q : xP), c.2.2.1 p k = some q → q.2 < 64 * b ∧ q ≠ (2, 2)
/-- with m edges told -/
def LA (c : xCx) (m b : Nat) : Prop := LD c b ∧ m ≤ 11 ∧ ∃ (qd : xP) (nd : Nat), kd qd = (5, nd) ∧ qd ∈ c.2.1 ∧ m ≤ nd ∧ c.2.2.1 (2, 1) 1 = some qd ∧ ∀ k, k < m → c.2.2.1 qd k = some (er k) ∧ er k ∈ c.2.1
theorem LD.frI {c : xCx} {b n : Nat} (h : LD c b) : cFr c (pI n b) := by
  obtain ⟨-, -, -, -, -, h1, h2⟩ := h
  refine ⟨Or.inl rfl, fun z => ?_, fun p k z => ?_⟩
  · have : n + 64 * b < 64 * b := h1 _ z
    omega
  · have : n + 64 * b < 64 * b := (h2 _ _ _ z).1
    omega
theorem LD.frB {c : xCx} {b n : Nat} (h : LD c b) : cFr c (pB n b) := by
  obtain ⟨-, -, -, -, -, h1, h2⟩ := h
  refine ⟨Or.inr rfl, fun z => ?_, fun p k z => ?_⟩
  · have : n + 64 * b < 64 * b := h1 _ z
    omega
  · have : n + 64 * b < 64 * b := (h2 _ _ _ z).1
    omega
theorem LD.frT {c : xCx} {b : Nat} (h : LD c b) : cFr c (2, 2) := ⟨Or.inr rfl, h.2.2.1.2.2, fun p k z => (h.2.2.2.2.2.2 p k _ z).2 rfl⟩
theorem LD.ad {c : xCx} {b : Nat} (h : LD c b) {q : xP} {a : Nat} (hf : cFr c q) (hq : q ≠ (2, 2)) {b9 : Nat} (hb9 : b ≤ b9) (hb : q.2 < 64 * b9) : LD (cAd c q a) b9 := by
  obtain ⟨h1, h2, ⟨h3, h4, h5⟩, ⟨h6, h7, h8⟩, h9, h11, h12⟩ := h
  have hm : ∀ p, p ∈ c.2.1 → (cAd c q a).2.2.1 p = c.2.2.1 p := fun p hp => if_neg fun z : p = q => hf.2.1 (z ▸ hp)
  refine ⟨h1.ad hf, h2, ⟨List.mem_append_left _ h3, List.mem_append_left _ h4, fun z => ?_⟩, ?_, by omega, fun p hp => ?_, fun p k t ht => ?_⟩
  · rcases List.mem_append.mp z with z | z
    · exact h5 z
    · exact hq (List.mem_singleton.mp z).symm
  · rw [hm _ h3]; exact ⟨h6, h7, h8⟩
  · rcases List.mem_append.mp hp with hp | hp
    · have := h11 p hp; omega
    · rw [List.mem_singleton.mp hp]; exact hb
  · have ht : (if p = q then fun _ => none else c.2.2.1 p) k = some t := ht
    split at ht
    · cases ht
    · have := h12 _ _ _ ht; exact ⟨by omega, this.2⟩
theorem LD.b1 {c : xCx} {b : Nat} (h : LD c b) : 1 ≤ b := by
  have := h.2.2.2.2.1
  omega
theorem LD.m0 {c : xCx} {b : Nat} (h : LD c b) : (2, 0) ∈ lvL c.1 c.2.1 := lvmX h.2.2.1.1
theorem LD.m1 {c : xCx} {b : Nat} (h : LD c b) : (2, 1) ∈ lvL c.1 c.2.1 := lvmX h.2.2.1.2.1
theorem LD.r0 {c : xCx} {b : Nat} (h : LD c b) : c.2.2.1 (2, 0) 0 = some (2, 9) := h.2.2.2.1.1
theorem LD.r3 {c : xCx} {b : Nat} (h : LD c b) : c.2.2.1 (2, 0) 3 = some (0, 0) := h.2.2.2.1.2.1
theorem LD.r5 {c : xCx} {b : Nat} (h : LD c b) : c.2.2.1 (2, 0) 5 = some (2, 1) := h.2.2.2.1.2.2
theorem LA.frI {c : xCx} {m b n : Nat} (h : LA c m b) : cFr c (pI n b) := h.1.frI
theorem LA.frB {c : xCx} {m b n : Nat} (h : LA c m b) : cFr c (pB n b) := h.1.frB
theorem LA.frT {c : xCx} {m b : Nat} (h : LA c m b) : cFr c (2, 2) := h.1.frT
theorem LA.b1 {c : xCx} {m b : Nat} (h : LA c m b) : 1 ≤ b := h.1.b1
theorem LA.m0 {c : xCx} {m b : Nat} (h : LA c m b) : (2, 0) ∈ lvL c.1 c.2.1 := h.1.m0
theorem LA.m1 {c : xCx} {m b : Nat} (h : LA c m b) : (2, 1) ∈ lvL c.1 c.2.1 := h.1.m1
theorem LA.r0 {c : xCx} {m b : Nat} (h : LA c m b) : c.2.2.1 (2, 0) 0 = some (2, 9) := h.1.r0
theorem LA.r3 {c : xCx} {m b : Nat} (h : LA c m b) : c.2.2.1 (2, 0) 3 = some (0, 0) := h.1.r3
theorem LA.r5 {c : xCx} {m b : Nat} (h : LA c m b) : c.2.2.1 (2, 0) 5 = some (2, 1) := h.1.r5
theorem LA.er {c : xCx} {m b k : Nat} (h : LA c m b) (hk : k < m) : er k ∈ lvL c.1 c.2.1 := by
  obtain ⟨qd, nd, -, -, -, -, h17⟩ := h.2.2
  exact lvmX (h17 k hk).2
theorem LA.ad {c : xCx} {m b : Nat} (h : LA c m b) {q : xP} {a : Nat} (hf : cFr c q) (hq : q ≠ (2, 2)) (hb : q.2 < 64 * (b + 1)) : LA (cAd c q a) m (b + 1) := by
  obtain ⟨h1, h10, qd, nd, h13, h14, h15, h16, h17⟩ := h
  have hm : ∀ p, p ∈ c.2.1 → (cAd c q a).2.2.1 p = c.2.2.1 p := fun p hp => if_neg fun z : p = q => hf.2.1 (z ▸ hp)
  refine ⟨h1.ad hf hq (Nat.le_succ _) hb, h10, qd, nd, h13, List.mem_append_left _ h14, h15, ?_, fun k hk => ?_⟩
  · rw [hm _ h1.2.2.1.2.1]; exact h16
  · rw [hm _ h14]; exact ⟨(h17 k hk).1, List.mem_append_left _ (h17 k hk).2⟩
theorem LA.adI {c : xCx} {m b n a : Nat} (h : LA c m b) (hn : n < 64) : LA (cAd c (pI n b) a) m (b + 1) := h.ad h.frI (fun z => by cases z) (by show n + 64 * b < _; omega)
theorem LA.adB {c : xCx} {m b n a : Nat} (h : LA c m b) (hn : n < 64) : LA (cAd c (pB n b) a) m (b + 1) := h.ad h.frB (fun z => by
  have z : n + 64 * b = 2 := congrArg Prod.snd z
  have := h.b1
  omega) (by show n + 64 * b < _; omega)
