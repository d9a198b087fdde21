/-! values, worlds, contracts -/
abbrev xV : Type := Int ⊕ (Option xP ⊕ (Int64 ⊕ (UInt32 ⊕ UInt64)))
abbrev xi (x : Int) : xV := Sum.inl x
abbrev xr (p : xP) : xV := Sum.inr (Sum.inl (some p))
abbrev xz : xV := Sum.inr (Sum.inl none)
abbrev xl (x : Int64) : xV := Sum.inr (Sum.inr (Sum.inl x))
abbrev xf (x : UInt32) : xV := Sum.inr (Sum.inr (Sum.inr (Sum.inl x)))
abbrev xd (x : UInt64) : xV := Sum.inr (Sum.inr (Sum.inr (Sum.inr x)))
abbrev xS : Type := (xP → Nat → Int) × (xP → Nat → Option xP) × (xP → Nat → Int64) × (xP → Nat → UInt64) × List xP × (xP → Nat)
abbrev xS.I (h : xS) : xP → Nat → Int := h.1
abbrev xS.R (h : xS) : xP → Nat → Option xP := h.2.1
abbrev xS.J (h : xS) : xP → Nat → Int64 := h.2.2.1
abbrev xS.F (h : xS) : xP → Nat → UInt64 := h.2.2.2.1
abbrev xS.L (h : xS) : List xP := h.2.2.2.2.1
abbrev xS.A (h : xS) : xP → Nat := h.2.2.2.2.2
def xc (a : xP → Nat) : xV → Value
  | .inl x => .int (Int32.ofInt x)
  | .inr (.inl none) => .null
  | .inr (.inl (some p)) => .ref (a p)
  | .inr (.inr (.inl x)) => .long x
  | .inr (.inr (.inr (.inl x))) => .float x
  | .inr (.inr (.inr (.inr x))) => .double x
def xfs (h : xS) (q : xP) (bs : List Bool) : List Value := bs.zipIdx.map fun b => if b.1 then va_rf ((h.R q b.2).map h.A) else .int (Int32.ofInt (h.I q b.2))
def xe (Tc : Nat → ClassId) (h : xS) (q : xP) : va_E := match kd q with
  | (0, ci) => .inr (ci, xfs h q (fdT.getD ci []))
  | (1, n) => .inl (Tc 1, n, .inl fun k => Int32.ofInt (h.I q k))
  | (2, n) => .inl (Tc 2, n, .inl fun k => Int32.ofInt (h.I q k))
  | (5, n) => .inl (Tc 5, n, .inr (.inr (.inr (.inr fun k => (h.R q k).map h.A))))
  | (_, n) => .inl (Tc 4, n, .inr (.inr (.inr (.inr fun k => (h.R q k).map h.A))))
def xw (Tc : Nat → ClassId) (h : xS) : va_W := h.L.map fun q => (h.A q, xe Tc h q)
abbrev xX : Type := Launch × State × Array Value × va_G × (Nat → ClassId)
abbrev xX.S (X : xX) : State := X.2.1
abbrev xX.G (X : xX) : va_G := X.2.2.2.1
abbrev xX.T (X : xX) : Nat → ClassId := X.2.2.2.2
def xty (X : xX) : List (ClassId × FieldType) := [(X.T 1, .int), (X.T 2, .boolean), (X.T 4, .object RX3), (X.T 5, .object "java/lang/Object")]
def xA (X : xX) : Addr → Prop := fun a => X.S.heap.size ≤ a
abbrev xM : Type := MethodName × ByteArray × Nat × Option FieldType × List (Nat × Nat × Nat × Nat)
def xws (y : xM) : List Cond := match y.2.2.2.2 with
  | [] => [.code y.1 y.2.1 y.2.2.1 y.2.2.2.1]
  | hh => [.codeWith y.1 y.2.1 y.2.2.1 y.2.2.2.1 hh]
def xrm (d mc ms : Nat) : Room := { frames := d, cells := mc, slots := ms, locals := 36 * d + 48 }
def xex : List String := ["java/lang/IndexOutOfBoundsException", "java/lang/IllegalArgumentException", "java/lang/IllegalStateException", "java/lang/UnsupportedOperationException", "java/util/NoSuchElementException"]
def xnc : List (String × String) := (xex.flatMap fun a => xex.map fun b => (a, b)).filter fun q => q.1 ≠ q.2 ∧ q.2 ≠ "java/lang/IllegalStateException"
def xBase (X : xX) : Prop := X.1.stackTraces = false ∧ (∀ w ∈ lw_tbl, w.before X.2.2.1 X.S = true) ∧ va_K X.G vwCl (xty X) X.S ∧ vx_Zq Bundle.tN "UNASSIGNED_STACK" Bundle.steD (xA X) X.S X.S.heap ∧ vx_Zq Bundle.tN "SUPPRESSED_SENTINEL" Bundle.listD (xA X) X.S X.S.heap ∧
  (∀ (own : String) (k : Nat) (tx : String), Cond.stringRef own k tx ∈ lw_tbl → ∃ a, vk_R own k tx a X.S) ∧ ∀ q ∈ xnc, va_Nc q.1 q.2 X.S
def xB (X : xX) (U : State) : Prop := X.S.WarmedH U.vm ∧ X.S.heap.size ≤ U.heap.size ∧ ∀ a : Nat, a < X.S.heap.size → U.heap[a]? = X.S.heap[a]?
abbrev xin (a : Int) : Prop := -2147483648 ≤ a ∧ a ≤ 2147483647
/-- the cells lie apart, and each number in them is an int -/
def xDD (X : xX) (h : xS) : Prop := va_D (xA X) (xw X.T h) ∧ ∀ (q : xP) (k : Nat), xin (h.I q k)
def xWd (X : xX) (h : xS) (U : State) : Prop := va_P X.G vwCl (xw X.T h) U.heap ∧ xDD X h
abbrev xO : Type := Option xV ⊕ String
def xQ (X : xX) (post : xO → xS → Prop) : Array Value → State → Outcome → State → Prop := fun _ st o t => (∃ (r : Option xV) (h' : xS), o = .returned (r.map (xc h'.A)) ∧ post (.inl r) h' ∧ xWd X h' t) ∧ va_F (xA X) st t
def xE (X : xX) (post : xO → xS → Prop) : String → State → State → Prop := fun E st t => ∃ h' : xS, post (.inr E) h' ∧ xWd X h' t ∧ va_F (xA X) st t
/-- a method's contract: called with these values on this heap it ends, and post holds of how and where -/
def xMet (X : xX) (y : xM) (d : Nat) (av : List xV) (h : xS) (mc ms : Nat) (post : xO → xS → Prop) : Prop :=
  vx_Met X.1 y.1 (xws y) (xrm d mc ms) (va_Pc (av.map (xc h.A)) (fun U => xB X U ∧ xWd X h U)) (xQ X post) (xE X post) mc ms (xA X)
def xAct (X : xX) (y : xM) (p : Program) (s : State) (m : MethodId) (meth : Method) (c : Code) : Prop :=
  p.tables.exec = Jvm.exec ∧ c.code = y.2.1 ∧ c.maxLocals = y.2.2.1 ∧ s.vm.findClass y.1.cls = some m.cls ∧ meth.locks = false ∧ meth.sig.returnType = y.2.2.2.1 ∧ c.exceptionTable.toList = tableOf y.2.2.2.2 ∧ meth.name = y.1.name ∧ xB X s
def xAW (X : xX) (y : xM) (d mc ms : Nat) (p : Program) (e : Env) (s : State) (m : MethodId) (args : Array Value) (below : List Frame) (meth : Method) (c : Code) (Q : State → Prop) : Nat → List (Nat × xV) → List xV → xS → Nat → Nat → Prop := fun pc lo st h k n =>
  ∀ (H : Heap) (locs : List Loc) (ls : Array Slot), va_P X.G vwCl (xw X.T h) H → xDD X h → va_S (xA X) s.heap H locs → lv_has ls y.2.2.1 (lo.map fun q => (q.1, xc h.A q.2)) →
    W p X.1 e (xrm d mc ms) s m args below meth c H locs k n Q (F0 m pc ls (st.map (xc h.A)))
abbrev xT : Type := Nat → List (Nat × xV) → List xV → xS → Nat → Nat → Prop
/-- V: what one activation of y owes at each place -/
def xEng (X : xX) (y : xM) (d mc ms : Nat) (V : xT) : Prop := xBase X ∧ ∃ (p : Program) (e : Env) (s : State) (m : MethodId) (args : Array Value) (below : List Frame) (meth : Method) (c : Code) (Q : State → Prop), xAct X y p s m meth c ∧ V = xAW X y d mc ms p e s m args below meth c Q
def xEnd (X : xX) (y : xM) (d mc ms : Nat) (post : xO → xS → Prop) (V : xT) : Prop := xBase X ∧ ∃ (p : Program) (e : Env) (s : State) (m : MethodId) (args : Array Value) (below : List Frame) (meth : Method) (c : Code), xAct X y p s m meth c ∧ V = xAW X y d mc ms p e s m args below meth c (vx_MQ below (xQ X post) (xE X post) args s mc ms (xA X))
theorem xEnd.eng {X : xX} {y : xM} {d mc ms : Nat} {post : xO → xS → Prop} {V : xT} (h : xEnd X y d mc ms post V) : xEng X y d mc ms V := by
  obtain ⟨hX, p, e, s, m, args, below, meth, c, h1, h2⟩ := h
  exact ⟨hX, p, e, s, m, args, below, meth, c, _, h1, h2⟩
/-! numbers -/
theorem xo_ti {a : Int} (h : xin a) : (Int32.ofInt a).toInt = a := Int32.toInt_ofInt_of_le (by omega) (by omega)
theorem xo_lt {a b : Int} (ha : xin a) (hb : xin b) : Int32.ofInt a < Int32.ofInt b ↔ a < b := by rw [Int32.lt_iff_toInt_lt, xo_ti ha, xo_ti hb]
theorem xo_le {a b : Int} (ha : xin a) (hb : xin b) : Int32.ofInt a ≤ Int32.ofInt b ↔ a ≤ b := by rw [Int32.le_iff_toInt_le, xo_ti ha, xo_ti hb]
theorem xo_eq {a b : Int} (ha : xin a) (hb : xin b) : Int32.ofInt a = Int32.ofInt b ↔ a = b := by
  refine ⟨fun h => ?_, fun h => by rw [h]⟩
  rw [← xo_ti ha, ← xo_ti hb, h]
theorem xo_0 : (0 : Int32) = Int32.ofInt 0 := rfl
theorem xo_cl {a : Int} (h0 : 0 ≤ a) (h : a ≤ 2147483647) : (Int32.ofInt a).toNatClampNeg = a.toNat := by
  rw [Int32.toNatClampNeg, xo_ti ⟨by omega, h⟩]
theorem xo_in {a : Int} {n : Nat} (h0 : 0 ≤ a) (h : a < n) (hn : n ≤ 2147483647) : vp_in (Int32.ofInt a) n := by
  rw [vp_in_iff, xo_ti ⟨by omega, by omega⟩]
  exact ⟨h0, h⟩

/-! locals -/
def x2 : xV → Bool
  | .inr (.inr (.inl _)) => true
  | .inr (.inr (.inr (.inr _))) => true
  | _ => false
def xput (i : Nat) (v : xV) (lo : List (Nat × xV)) : List (Nat × xV) := (i, v) :: lo.filter fun q => !(q.1 == i) && !(q.1 + 1 == i && x2 q.2)
def xput2 (i : Nat) (v : xV) (lo : List (Nat × xV)) : List (Nat × xV) := (i, v) :: lo.filter fun q => !(q.1 == i) && (!(q.1 == i + 1) && !(q.1 + 1 == i && x2 q.2))
theorem xc_cat (a : xP → Nat) (v : xV) : ((xc a v).category == 2) = x2 v := by
  rcases v with v | v | v | v | v <;> try rfl
  cases v <;> rfl
theorem xput_map (a : xP → Nat) (i : Nat) (v : xV) (lo : List (Nat × xV)) : (xput i v lo).map (fun q => (q.1, xc a q.2)) = (i, xc a v) :: (lo.map (fun q => (q.1, xc a q.2))).filter (fun q => !(q.1 == i) && !(q.1 + 1 == i && q.2.category == 2)) := by
  simp only [xput, List.map_cons, List.filter_map, Function.comp_def, xc_cat]
theorem xput2_map (a : xP → Nat) (i : Nat) (v : xV) (lo : List (Nat × xV)) : (xput2 i v lo).map (fun q => (q.1, xc a q.2)) = (i, xc a v) :: (lo.map (fun q => (q.1, xc a q.2))).filter (fun q => !(q.1 == i) && (!(q.1 == i + 1) && !(q.1 + 1 == i && q.2.category == 2))) := by
  simp only [xput2, List.map_cons, List.filter_map, Function.comp_def, xc_cat]
section XR
variable {X : xX} {y : xM} {d mc ms : Nat} {V : xT} {pc : Nat} {lo : List (Nat × xV)} {st : List xV} {h : xS} {k n : Nat}
/-! what every activation knows -/
theorem xB.word {X : xX} {s : State} {w : Cond} {args : Array Value} (hX : xBase X) (hB : xB X s) (hw : w ∈ lw_tbl) (hg : goodWord w = true) : w.before args s = true := word_at hB.1 (good_of_word hg) (hX.2.1 w hw)
theorem xB.K {X : xX} {s : State} (hX : xBase X) (hB : xB X s) : va_K X.G vwCl (xty X) s := va_K.moved hB.1.alike hX.2.2.1
theorem x_iconst (hV : xEng X y d mc ms V) {v : Int} (hd : decode y.2.1 pc = .ok (.iconst v, 1)) (kk : V (pc + 1) lo (xi v :: st) h k n) : V pc lo st h k n := by
  obtain ⟨hX, p, e, s, m, args, below, meth, c, Q, ⟨hx, hb, hml, hown, hlk, hrt, htb, hnm, hB⟩, rfl⟩ := hV
  intro H locs ls hP hD hS hl
  exact lv_iconst hx hb hd rfl (kk H locs ls hP hD hS hl)
theorem x_bipush (hV : xEng X y d mc ms V) {v : Int} (hd : decode y.2.1 pc = .ok (.bipush v, 2)) (hv : (Int8.ofInt v).toInt32 = Int32.ofInt v) (kk : V (pc + 2) lo (xi v :: st) h k n) : V pc lo st h k n := by
  obtain ⟨hX, p, e, s, m, args, below, meth, c, Q, ⟨hx, hb, hml, hown, hlk, hrt, htb, hnm, hB⟩, rfl⟩ := hV
  intro H locs ls hP hD hS hl
  exact lv_bipush hx hb hd hv (kk H locs ls hP hD hS hl)
theorem x_iload (hV : xEng X y d mc ms V) {i j : Nat} {v : Int} (hd : decode y.2.1 pc = .ok (.iload i, 2)) (hk : lo[j]? = some (i, xi v)) (kk : V (pc + 2) lo (xi v :: st) h k n) : V pc lo st h k n := by
  obtain ⟨hX, p, e, s, m, args, below, meth, c, Q, ⟨hx, hb, hml, hown, hlk, hrt, htb, hnm, hB⟩, rfl⟩ := hV
  intro H locs ls hP hD hS hl
  exact lv_iload hx hb hd (lv_at hl j (by rw [List.getElem?_map, hk]; rfl)) (kk H locs ls hP hD hS hl)
theorem x_iadd (hV : xEng X y d mc ms V) {a b : Int} (hd : decode y.2.1 pc = .ok (.iadd, 1)) (kk : V (pc + 1) lo (xi (a + b) :: st) h k n) : V pc lo (xi b :: xi a :: st) h k n := by
  obtain ⟨hX, p, e, s, m, args, below, meth, c, Q, ⟨hx, hb, hml, hown, hlk, hrt, htb, hnm, hB⟩, rfl⟩ := hV
  intro H locs ls hP hD hS hl
  have := kk H locs ls hP hD hS hl
  simp only [List.map_cons, xc, Int32.ofInt_add] at this
  exact lv_iadd hx hb hd this
theorem x_icmp_lt (hV : xEng X y d mc ms V) {a b off : Int} {tgt : Nat} (hd : decode y.2.1 pc = .ok (.if_icmp .lt off, 3)) (ht : (pc : Int) + off = (tgt : Int)) (ha : xin a) (hb9 : xin b) (k1 : a < b → V tgt lo st h k n) (k2 : b ≤ a → V (pc + 3) lo st h k n) : V pc lo (xi b :: xi a :: st) h k n := by
  obtain ⟨hX, p, e, s, m, args, below, meth, c, Q, ⟨hx, hb, hml, hown, hlk, hrt, htb, hnm, hB⟩, rfl⟩ := hV
  intro H locs ls hP hD hS hl
  refine lv_icmp_lt hx hb hd ht (fun q => ?_) (fun q => ?_)
  · exact k1 ((xo_lt ha hb9).mp q) H locs ls hP hD hS hl
  · exact k2 (by rw [xo_lt ha hb9] at q; omega) H locs ls hP hD hS hl
theorem x_istore (hV : xEng X y d mc ms V) {i : Nat} {v : Int} {lo9 : List (Nat × xV)} (hd : decode y.2.1 pc = .ok (.istore i, 2)) (hn : i < y.2.2.1) (hl9 : xput i (xi v) lo = lo9) (kk : V (pc + 2) lo9 st h k n) : V pc lo (xi v :: st) h k n := by
  obtain ⟨hX, p, e, s, m, args, below, meth, c, Q, ⟨hx, hb, hml, hown, hlk, hrt, htb, hnm, hB⟩, rfl⟩ := hV
  intro H locs ls hP hD hS hl
  exact lv_istore hx hb hd hl hn (by rw [← hl9, xput_map]; rfl) (fun ls hl => kk H locs ls hP hD hS hl)
end XR
