def v_iand (a b : Int) : Int := (Int32.ofInt a &&& Int32.ofInt b).toInt
def v_ior (a b : Int) : Int := (Int32.ofInt a ||| Int32.ofInt b).toInt
def v_ixor (a b : Int) : Int := (Int32.ofInt a ^^^ Int32.ofInt b).toInt
def v_ishl (a b : Int) : Int := (Int32.ofInt a <<< (Int32.ofInt b &&& 31)).toInt
def v_ishr (a b : Int) : Int := (Int32.ofInt a >>> (Int32.ofInt b &&& 31)).toInt
def v_iushr (a b : Int) : Int := ((Int32.ofInt a).toUInt32 >>> ((Int32.ofInt b).toUInt32 &&& Int32.toUInt32 31)).toInt32.toInt
theorem x0in : xin 0 := ⟨by omega, by omega⟩
theorem xo_nat {a : Int} (h : 0 ≤ a) : Int32.ofInt a = nI a.toNat := by
  show Int32.ofInt a = Int32.ofNat a.toNat
  rw [← Int32.ofInt_eq_ofNat, Int.toNat_of_nonneg h]
theorem xo_div {a b : Int} (ha : 0 ≤ a ∧ a ≤ 2147483647) (hb : 0 < b ∧ b ≤ 2147483647) : Int32.ofInt a / Int32.ofInt b = Int32.ofInt (a / b) := by
  have h3 : 0 ≤ a / b := Int.ediv_nonneg ha.1 (by omega)
  rw [xo_nat ha.1, xo_nat (by omega : 0 ≤ b), pk_div (by omega) (by omega) (by omega), xo_nat h3]
  congr 1
  obtain ⟨a, rfl⟩ := Int.eq_ofNat_of_zero_le ha.1
  obtain ⟨b, rfl⟩ := Int.eq_ofNat_of_zero_le (by omega : 0 ≤ b)
  simp only [← Int.natCast_ediv, Int.toNat_natCast]
theorem xo_rem {a b : Int} (ha : 0 ≤ a ∧ a ≤ 2147483647) (hb : 0 < b ∧ b ≤ 2147483647) : Int32.ofInt a - Int32.ofInt a / Int32.ofInt b * Int32.ofInt b = Int32.ofInt (a % b) := by
  have h3 : 0 ≤ a % b := Int.emod_nonneg _ (by omega)
  rw [xo_nat ha.1, xo_nat (by omega : 0 ≤ b), pk_rem (by omega) (by omega) (by omega), xo_nat h3]
  congr 1
  obtain ⟨a, rfl⟩ := Int.eq_ofNat_of_zero_le ha.1
  obtain ⟨b, rfl⟩ := Int.eq_ofNat_of_zero_le (by omega : 0 ≤ b)
  simp only [← Int.natCast_emod, Int.toNat_natCast]
theorem xo_ne0 {b : Int} (hb : 0 < b ∧ b ≤ 2147483647) : ¬ Int32.ofInt b = 0 := by
  rw [xo_0, xo_eq ⟨by omega, by omega⟩ x0in]
  omega
theorem xc_1 {a : xP → Nat} {v : xV} (h : x2 v = false) : (xc a v).category = 1 := by
  rcases v with v | v | v | v | v
  · rfl
  · cases v <;> rfl
  · cases h
  · rfl
  · cases h
section XR
variable {X : xX} {y : xM} {d mc ms : Nat} {V : xT} {pc : Nat} {lo : List (Nat × xV)} {st : List xV} {h : xS} {k n : Nat}
theorem x_sipush (hV : xEng X y d mc ms V) {v : Int} (hd : decode y.2.1 pc = .ok (.sipush v, 3)) (hv : (Int16.ofInt v).toInt32 = Int32.ofInt v) (kk : V (pc + 3) lo (xi v :: st) h k n) : V pc lo st h k n := by
  obtain ⟨hX, p, e, s, m, args, below, meth, c, Q, ⟨hx, hb, hml, hown, hlk, hrt, htb, hnm, hB⟩, rfl⟩ := hV
  intro H locs ls hP hD hS hl
  exact lv_sipush hx hb hd hv (kk H locs ls hP hD hS hl)
theorem x_iload_n (hV : xEng X y d mc ms V) {i : Fin 4} {j : Nat} {v : Int} (hd : decode y.2.1 pc = .ok (.iload_n i, 1)) (hk : lo[j]? = some ((i : Nat), xi v)) (kk : V (pc + 1) lo (xi v :: st) h k n) : V pc lo st h k n := by
  obtain ⟨hX, p, e, s, m, args, below, meth, c, Q, ⟨hx, hb, hml, hown, hlk, hrt, htb, hnm, hB⟩, rfl⟩ := hV
  intro H locs ls hP hD hS hl
  exact lv_iload_n hx hb hd rfl (lv_at hl j (by rw [List.getElem?_map, hk]; rfl)) (kk H locs ls hP hD hS hl)
theorem x_aload (hV : xEng X y d mc ms V) {i j : Nat} {v : xP} (hd : decode y.2.1 pc = .ok (.aload i, 2)) (hk : lo[j]? = some (i, xr v)) (kk : V (pc + 2) lo (xr v :: st) h k n) : V pc lo st h k n := by
  obtain ⟨hX, p, e, s, m, args, below, meth, c, Q, ⟨hx, hb, hml, hown, hlk, hrt, htb, hnm, hB⟩, rfl⟩ := hV
  intro H locs ls hP hD hS hl
  exact lv_aload hx hb hd (lv_at hl j (by rw [List.getElem?_map, hk]; rfl)) (kk H locs ls hP hD hS hl)
theorem x_aload_n (hV : xEng X y d mc ms V) {i : Fin 4} {j : Nat} {v : xP} (hd : decode y.2.1 pc = .ok (.aload_n i, 1)) (hk : lo[j]? = some ((i : Nat), xr v)) (kk : V (pc + 1) lo (xr v :: st) h k n) : V pc lo st h k n := by
  obtain ⟨hX, p, e, s, m, args, below, meth, c, Q, ⟨hx, hb, hml, hown, hlk, hrt, htb, hnm, hB⟩, rfl⟩ := hV
  intro H locs ls hP hD hS hl
  exact lv_aload_n hx hb hd rfl (lv_at hl j (by rw [List.getElem?_map, hk]; rfl)) (kk H locs ls hP hD hS hl)
theorem x_lload (hV : xEng X y d mc ms V) {i j : Nat} {v : Int64} (hd : decode y.2.1 pc = .ok (.lload i, 2)) (hk : lo[j]? = some (i, xl v)) (kk : V (pc + 2) lo (xl v :: st) h k n) : V pc lo st h k n := by
  obtain ⟨hX, p, e, s, m, args, below, meth, c, Q, ⟨hx, hb, hml, hown, hlk, hrt, htb, hnm, hB⟩, rfl⟩ := hV
  intro H locs ls hP hD hS hl
  exact lv_lload hx hb hd (lv_at hl j (by rw [List.getElem?_map, hk]; rfl)) (kk H locs ls hP hD hS hl)
theorem x_lload_n (hV : xEng X y d mc ms V) {i : Fin 4} {j : Nat} {v : Int64} (hd : decode y.2.1 pc = .ok (.lload_n i, 1)) (hk : lo[j]? = some ((i : Nat), xl v)) (kk : V (pc + 1) lo (xl v :: st) h k n) : V pc lo st h k n := by
  obtain ⟨hX, p, e, s, m, args, below, meth, c, Q, ⟨hx, hb, hml, hown, hlk, hrt, htb, hnm, hB⟩, rfl⟩ := hV
  intro H locs ls hP hD hS hl
  exact lv_lload_n hx hb hd rfl (lv_at hl j (by rw [List.getElem?_map, hk]; rfl)) (kk H locs ls hP hD hS hl)
theorem x_fload (hV : xEng X y d mc ms V) {i j : Nat} {v : UInt32} (hd : decode y.2.1 pc = .ok (.fload i, 2)) (hk : lo[j]? = some (i, xf v)) (kk : V (pc + 2) lo (xf v :: st) h k n) : V pc lo st h k n := by
  obtain ⟨hX, p, e, s, m, args, below, meth, c, Q, ⟨hx, hb, hml, hown, hlk, hrt, htb, hnm, hB⟩, rfl⟩ := hV
  intro H locs ls hP hD hS hl
  exact lv_fload hx hb hd (lv_at hl j (by rw [List.getElem?_map, hk]; rfl)) (kk H locs ls hP hD hS hl)
theorem x_dload (hV : xEng X y d mc ms V) {i j : Nat} {v : UInt64} (hd : decode y.2.1 pc = .ok (.dload i, 2)) (hk : lo[j]? = some (i, xd v)) (kk : V (pc + 2) lo (xd v :: st) h k n) : V pc lo st h k n := by
  obtain ⟨hX, p, e, s, m, args, below, meth, c, Q, ⟨hx, hb, hml, hown, hlk, hrt, htb, hnm, hB⟩, rfl⟩ := hV
  intro H locs ls hP hD hS hl
  exact lv_dload hx hb hd (lv_at hl j (by rw [List.getElem?_map, hk]; rfl)) (kk H locs ls hP hD hS hl)
theorem x_istore_n (hV : xEng X y d mc ms V) {i : Fin 4} {v : Int} {lo9 : List (Nat × xV)} (hd : decode y.2.1 pc = .ok (.istore_n i, 1)) (hn : (i : Nat) < y.2.2.1) (hl9 : xput i (xi v) lo = lo9) (kk : V (pc + 1) lo9 st h k n) : V pc lo (xi v :: st) h k n := by
  obtain ⟨hX, p, e, s, m, args, below, meth, c, Q, ⟨hx, hb, hml, hown, hlk, hrt, htb, hnm, hB⟩, rfl⟩ := hV
  intro H locs ls hP hD hS hl
  exact lv_istore_n hx hb hd rfl hl hn (by rw [← hl9, xput_map]; rfl) (fun ls hl => kk H locs ls hP hD hS hl)
theorem x_astore (hV : xEng X y d mc ms V) {i : Nat} {v : xP} {lo9 : List (Nat × xV)} (hd : decode y.2.1 pc = .ok (.astore i, 2)) (hn : i < y.2.2.1) (hl9 : xput i (xr v) lo = lo9) (kk : V (pc + 2) lo9 st h k n) : V pc lo (xr v :: st) h k n := by
  obtain ⟨hX, p, e, s, m, args, below, meth, c, Q, ⟨hx, hb, hml, hown, hlk, hrt, htb, hnm, hB⟩, rfl⟩ := hV
  intro H locs ls hP hD hS hl
  exact lv_astore hx hb hd hl hn (by rw [← hl9, xput_map]; rfl) (fun ls hl => kk H locs ls hP hD hS hl)
theorem x_astore_n (hV : xEng X y d mc ms V) {i : Fin 4} {v : xP} {lo9 : List (Nat × xV)} (hd : decode y.2.1 pc = .ok (.astore_n i, 1)) (hn : (i : Nat) < y.2.2.1) (hl9 : xput i (xr v) lo = lo9) (kk : V (pc + 1) lo9 st h k n) : V pc lo (xr v :: st) h k n := by
  obtain ⟨hX, p, e, s, m, args, below, meth, c, Q, ⟨hx, hb, hml, hown, hlk, hrt, htb, hnm, hB⟩, rfl⟩ := hV
  intro H locs ls hP hD hS hl
  exact lv_astore_n hx hb hd rfl hl hn (by rw [← hl9, xput_map]; rfl) (fun ls hl => kk H locs ls hP hD hS hl)
theorem x_lstore (hV : xEng X y d mc ms V) {i : Nat} {v : Int64} {lo9 : List (Nat × xV)} (hd : decode y.2.1 pc = .ok (.lstore i, 2)) (hn : i + 1 < y.2.2.1) (hl9 : xput2 i (xl v) lo = lo9) (kk : V (pc + 2) lo9 st h k n) : V pc lo (xl v :: st) h k n := by
  obtain ⟨hX, p, e, s, m, args, below, meth, c, Q, ⟨hx, hb, hml, hown, hlk, hrt, htb, hnm, hB⟩, rfl⟩ := hV
  intro H locs ls hP hD hS hl
  exact lv_lstore hx hb hd hl hn (by rw [← hl9, xput2_map]; rfl) (fun ls hl => kk H locs ls hP hD hS hl)
theorem x_lstore_n (hV : xEng X y d mc ms V) {i : Fin 4} {v : Int64} {lo9 : List (Nat × xV)} (hd : decode y.2.1 pc = .ok (.lstore_n i, 1)) (hn : (i : Nat) + 1 < y.2.2.1) (hl9 : xput2 i (xl v) lo = lo9) (kk : V (pc + 1) lo9 st h k n) : V pc lo (xl v :: st) h k n := by
  obtain ⟨hX, p, e, s, m, args, below, meth, c, Q, ⟨hx, hb, hml, hown, hlk, hrt, htb, hnm, hB⟩, rfl⟩ := hV
  intro H locs ls hP hD hS hl
  exact lv_lstore_n hx hb hd rfl hl hn (by rw [← hl9, xput2_map]; rfl) (fun ls hl => kk H locs ls hP hD hS hl)
theorem x_fstore (hV : xEng X y d mc ms V) {i : Nat} {v : UInt32} {lo9 : List (Nat × xV)} (hd : decode y.2.1 pc = .ok (.fstore i, 2)) (hn : i < y.2.2.1) (hl9 : xput i (xf v) lo = lo9) (kk : V (pc + 2) lo9 st h k n) : V pc lo (xf v :: st) h k n := by
  obtain ⟨hX, p, e, s, m, args, below, meth, c, Q, ⟨hx, hb, hml, hown, hlk, hrt, htb, hnm, hB⟩, rfl⟩ := hV
  intro H locs ls hP hD hS hl
  exact lv_fstore hx hb hd hl hn (by rw [← hl9, xput_map]; rfl) (fun ls hl => kk H locs ls hP hD hS hl)
theorem x_dstore (hV : xEng X y d mc ms V) {i : Nat} {v : UInt64} {lo9 : List (Nat × xV)} (hd : decode y.2.1 pc = .ok (.dstore i, 2)) (hn : i + 1 < y.2.2.1) (hl9 : xput2 i (xd v) lo = lo9) (kk : V (pc + 2) lo9 st h k n) : V pc lo (xd v :: st) h k n := by
  obtain ⟨hX, p, e, s, m, args, below, meth, c, Q, ⟨hx, hb, hml, hown, hlk, hrt, htb, hnm, hB⟩, rfl⟩ := hV
  intro H locs ls hP hD hS hl
  exact lv_dstore hx hb hd hl hn (by rw [← hl9, xput2_map]; rfl) (fun ls hl => kk H locs ls hP hD hS hl)
theorem x_iinc (hV : xEng X y d mc ms V) {i j : Nat} {v w : Int} {lo9 : List (Nat × xV)} (hd : decode y.2.1 pc = .ok (.iinc i w, 3)) (hk : lo[j]? = some (i, xi v)) (hn : i < y.2.2.1) (hl9 : xput i (xi (v + w)) lo = lo9) (kk : V (pc + 3) lo9 st h k n) : V pc lo st h k n := by
  obtain ⟨hX, p, e, s, m, args, below, meth, c, Q, ⟨hx, hb, hml, hown, hlk, hrt, htb, hnm, hB⟩, rfl⟩ := hV
  intro H locs ls hP hD hS hl
  exact lv_iinc (v := Int32.ofInt (v + w)) hx hb hd hl (k := j) (by rw [List.getElem?_map, hk]; rfl) (Int32.ofInt_add v w).symm hn (by rw [← hl9, xput_map]; rfl) (fun ls hl => kk H locs ls hP hD hS hl)
theorem x_goto (hV : xEng X y d mc ms V) {off : Int} {tgt : Nat} (hd : decode y.2.1 pc = .ok (.goto off, 3)) (ht : (pc : Int) + off = (tgt : Int)) (kk : V tgt lo st h k n) : V pc lo st h k n := by
  obtain ⟨hX, p, e, s, m, args, below, meth, c, Q, ⟨hx, hb, hml, hown, hlk, hrt, htb, hnm, hB⟩, rfl⟩ := hV
  intro H locs ls hP hD hS hl
  exact lv_goto hx hb hd ht (kk H locs ls hP hD hS hl)
theorem x_isub (hV : xEng X y d mc ms V) {a b : Int} (hd : decode y.2.1 pc = .ok (.isub, 1)) (kk : V (pc + 1) lo (xi (a - b) :: st) h k n) : V pc lo (xi b :: xi a :: st) h k n := by
  obtain ⟨hX, p, e, s, m, args, below, meth, c, Q, ⟨hx, hb, hml, hown, hlk, hrt, htb, hnm, hB⟩, rfl⟩ := hV
  intro H locs ls hP hD hS hl
  have := kk H locs ls hP hD hS hl
  simp only [List.map_cons, xc, Int32.ofInt_sub] at this
  exact lv_isub hx hb hd this
theorem x_imul (hV : xEng X y d mc ms V) {a b : Int} (hd : decode y.2.1 pc = .ok (.imul, 1)) (kk : V (pc + 1) lo (xi (a * b) :: st) h k n) : V pc lo (xi b :: xi a :: st) h k n := by
  obtain ⟨hX, p, e, s, m, args, below, meth, c, Q, ⟨hx, hb, hml, hown, hlk, hrt, htb, hnm, hB⟩, rfl⟩ := hV
  intro H locs ls hP hD hS hl
  have := kk H locs ls hP hD hS hl
  simp only [List.map_cons, xc, Int32.ofInt_mul] at this
  exact lv_imul hx hb hd this
theorem x_ineg (hV : xEng X y d mc ms V) {a : Int} (hd : decode y.2.1 pc = .ok (.ineg, 1)) (kk : V (pc + 1) lo (xi (-a) :: st) h k n) : V pc lo (xi a :: st) h k n := by
  obtain ⟨hX, p, e, s, m, args, below, meth, c, Q, ⟨hx, hb, hml, hown, hlk, hrt, htb, hnm, hB⟩, rfl⟩ := hV
  intro H locs ls hP hD hS hl
  have := kk H locs ls hP hD hS hl
  simp only [List.map_cons, xc, Int32.ofInt_neg] at this
  exact lv_ineg hx hb hd this
theorem x_iand (hV : xEng X y d mc ms V) {a b : Int} (hd : decode y.2.1 pc = .ok (.iand, 1)) (kk : V (pc + 1) lo (xi (v_iand a b) :: st) h k n) : V pc lo (xi b :: xi a :: st) h k n := by
  obtain ⟨hX, p, e, s, m, args, below, meth, c, Q, ⟨hx, hb, hml, hown, hlk, hrt, htb, hnm, hB⟩, rfl⟩ := hV
  intro H locs ls hP hD hS hl
  have := kk H locs ls hP hD hS hl
  simp only [List.map_cons, xc, v_iand, Int32.ofInt_toInt] at this
  exact lv_iand hx hb hd this
theorem x_ior (hV : xEng X y d mc ms V) {a b : Int} (hd : decode y.2.1 pc = .ok (.ior, 1)) (kk : V (pc + 1) lo (xi (v_ior a b) :: st) h k n) : V pc lo (xi b :: xi a :: st) h k n := by
  obtain ⟨hX, p, e, s, m, args, below, meth, c, Q, ⟨hx, hb, hml, hown, hlk, hrt, htb, hnm, hB⟩, rfl⟩ := hV
  intro H locs ls hP hD hS hl
  have := kk H locs ls hP hD hS hl
  simp only [List.map_cons, xc, v_ior, Int32.ofInt_toInt] at this
  exact lv_ior hx hb hd this
theorem x_ixor (hV : xEng X y d mc ms V) {a b : Int} (hd : decode y.2.1 pc = .ok (.ixor, 1)) (kk : V (pc + 1) lo (xi (v_ixor a b) :: st) h k n) : V pc lo (xi b :: xi a :: st) h k n := by
  obtain ⟨hX, p, e, s, m, args, below, meth, c, Q, ⟨hx, hb, hml, hown, hlk, hrt, htb, hnm, hB⟩, rfl⟩ := hV
  intro H locs ls hP hD hS hl
  have := kk H locs ls hP hD hS hl
  simp only [List.map_cons, xc, v_ixor, Int32.ofInt_toInt] at this
  exact lv_ixor hx hb hd this
theorem x_ishl (hV : xEng X y d mc ms V) {a b : Int} (hd : decode y.2.1 pc = .ok (.ishl, 1)) (kk : V (pc + 1) lo (xi (v_ishl a b) :: st) h k n) : V pc lo (xi b :: xi a :: st) h k n := by
  obtain ⟨hX, p, e, s, m, args, below, meth, c, Q, ⟨hx, hb, hml, hown, hlk, hrt, htb, hnm, hB⟩, rfl⟩ := hV
  intro H locs ls hP hD hS hl
  have := kk H locs ls hP hD hS hl
  simp only [List.map_cons, xc, v_ishl, Int32.ofInt_toInt] at this
  exact lv_ishl hx hb hd this
theorem x_ishr (hV : xEng X y d mc ms V) {a b : Int} (hd : decode y.2.1 pc = .ok (.ishr, 1)) (kk : V (pc + 1) lo (xi (v_ishr a b) :: st) h k n) : V pc lo (xi b :: xi a :: st) h k n := by
  obtain ⟨hX, p, e, s, m, args, below, meth, c, Q, ⟨hx, hb, hml, hown, hlk, hrt, htb, hnm, hB⟩, rfl⟩ := hV
  intro H locs ls hP hD hS hl
  have := kk H locs ls hP hD hS hl
  simp only [List.map_cons, xc, v_ishr, Int32.ofInt_toInt] at this
  exact lv_ishr hx hb hd this
theorem x_iushr (hV : xEng X y d mc ms V) {a b : Int} (hd : decode y.2.1 pc = .ok (.iushr, 1)) (kk : V (pc + 1) lo (xi (v_iushr a b) :: st) h k n) : V pc lo (xi b :: xi a :: st) h k n := by
  obtain ⟨hX, p, e, s, m, args, below, meth, c, Q, ⟨hx, hb, hml, hown, hlk, hrt, htb, hnm, hB⟩, rfl⟩ := hV
  intro H locs ls hP hD hS hl
  have := kk H locs ls hP hD hS hl
  simp only [List.map_cons, xc, v_iushr, Int32.ofInt_toInt] at this
  exact lv_iushr hx hb hd rfl this
theorem x_idiv (hV : xEng X y d mc ms V) {a b : Int} (hd : decode y.2.1 pc = .ok (.idiv, 1)) (ha : 0 ≤ a ∧ a ≤ 2147483647) (hb9 : 0 < b ∧ b ≤ 2147483647) (kk : V (pc + 1) lo (xi (a / b) :: st) h k n) : V pc lo (xi b :: xi a :: st) h k n := by
  obtain ⟨hX, p, e, s, m, args, below, meth, c, Q, ⟨hx, hb, hml, hown, hlk, hrt, htb, hnm, hB⟩, rfl⟩ := hV
  intro H locs ls hP hD hS hl
  have := kk H locs ls hP hD hS hl
  simp only [List.map_cons, xc, ← xo_div ha hb9] at this
  exact lv_idiv hx hb hd (xo_ne0 hb9) this
theorem x_irem (hV : xEng X y d mc ms V) {a b : Int} (hd : decode y.2.1 pc = .ok (.irem, 1)) (ha : 0 ≤ a ∧ a ≤ 2147483647) (hb9 : 0 < b ∧ b ≤ 2147483647) (kk : V (pc + 1) lo (xi (a % b) :: st) h k n) : V pc lo (xi b :: xi a :: st) h k n := by
  obtain ⟨hX, p, e, s, m, args, below, meth, c, Q, ⟨hx, hb, hml, hown, hlk, hrt, htb, hnm, hB⟩, rfl⟩ := hV
  intro H locs ls hP hD hS hl
  have := kk H locs ls hP hD hS hl
  simp only [List.map_cons, xc, ← xo_rem ha hb9] at this
  exact lv_irem hx hb hd (xo_ne0 hb9) this
theorem x_i2l (hV : xEng X y d mc ms V) {a : Int} (hd : decode y.2.1 pc = .ok (.i2l, 1)) (kk : V (pc + 1) lo (xl (Int32.ofInt a).toInt64 :: st) h k n) : V pc lo (xi a :: st) h k n := by
  obtain ⟨hX, p, e, s, m, args, below, meth, c, Q, ⟨hx, hb, hml, hown, hlk, hrt, htb, hnm, hB⟩, rfl⟩ := hV
  intro H locs ls hP hD hS hl
  exact lv_i2l hx hb hd rfl (kk H locs ls hP hD hS hl)
theorem x_ladd (hV : xEng X y d mc ms V) {a b : Int64} (hd : decode y.2.1 pc = .ok (.ladd, 1)) (kk : V (pc + 1) lo (xl (a + b) :: st) h k n) : V pc lo (xl b :: xl a :: st) h k n := by
  obtain ⟨hX, p, e, s, m, args, below, meth, c, Q, ⟨hx, hb, hml, hown, hlk, hrt, htb, hnm, hB⟩, rfl⟩ := hV
  intro H locs ls hP hD hS hl
  have := kk H locs ls hP hD hS hl
  exact lv_ladd hx hb hd this
theorem x_lmul (hV : xEng X y d mc ms V) {a b : Int64} (hd : decode y.2.1 pc = .ok (.lmul, 1)) (kk : V (pc + 1) lo (xl (a * b) :: st) h k n) : V pc lo (xl b :: xl a :: st) h k n := by
  obtain ⟨hX, p, e, s, m, args, below, meth, c, Q, ⟨hx, hb, hml, hown, hlk, hrt, htb, hnm, hB⟩, rfl⟩ := hV
  intro H locs ls hP hD hS hl
  have := kk H locs ls hP hD hS hl
  exact lv_lmul hx hb hd this
theorem x_lcmp (hV : xEng X y d mc ms V) {a b : Int64} (hd : decode y.2.1 pc = .ok (.lcmp, 1)) (kk : V (pc + 1) lo (xi (lg_cmp a b).toInt :: st) h k n) : V pc lo (xl b :: xl a :: st) h k n := by
  obtain ⟨hX, p, e, s, m, args, below, meth, c, Q, ⟨hx, hb, hml, hown, hlk, hrt, htb, hnm, hB⟩, rfl⟩ := hV
  intro H locs ls hP hD hS hl
  have := kk H locs ls hP hD hS hl
  simp only [List.map_cons, xc, Int32.ofInt_toInt] at this
  exact W.lcmp hx hb hd this
theorem x_lconst (hV : xEng X y d mc ms V) {v : Fin 2} (hd : decode y.2.1 pc = .ok (.lconst v, 1)) (kk : V (pc + 1) lo (xl (Int64.ofNat v) :: st) h k n) : V pc lo st h k n := by
  obtain ⟨hX, p, e, s, m, args, below, meth, c, Q, ⟨hx, hb, hml, hown, hlk, hrt, htb, hnm, hB⟩, rfl⟩ := hV
  intro H locs ls hP hD hS hl
  exact lv_lconst hx hb hd rfl (kk H locs ls hP hD hS hl)
theorem x_fconst0 (hV : xEng X y d mc ms V) (hd : decode y.2.1 pc = .ok (.fconst 0, 1)) (kk : V (pc + 1) lo (xf 0 :: st) h k n) : V pc lo st h k n := by
  obtain ⟨hX, p, e, s, m, args, below, meth, c, Q, ⟨hx, hb, hml, hown, hlk, hrt, htb, hnm, hB⟩, rfl⟩ := hV
  intro H locs ls hP hD hS hl
  exact lv_fconst0 hx hb hd (kk H locs ls hP hD hS hl)
theorem x_dconst0 (hV : xEng X y d mc ms V) (hd : decode y.2.1 pc = .ok (.dconst 0, 1)) (kk : V (pc + 1) lo (xd 0 :: st) h k n) : V pc lo st h k n := by
  obtain ⟨hX, p, e, s, m, args, below, meth, c, Q, ⟨hx, hb, hml, hown, hlk, hrt, htb, hnm, hB⟩, rfl⟩ := hV
  intro H locs ls hP hD hS hl
  exact lv_dconst0 hx hb hd (kk H locs ls hP hD hS hl)
theorem x_ldc2 (hV : xEng X y d mc ms V) {i : Nat} {v : Int64} (hd : decode y.2.1 pc = .ok (.ldc2_w i, 3)) (hw : Cond.constantLong y.1.cls i v ∈ lw_tbl) (kk : V (pc + 3) lo (xl v :: st) h k n) : V pc lo st h k n := by
  obtain ⟨hX, p, e, s, m, args, below, meth, c, Q, ⟨hx, hb, hml, hown, hlk, hrt, htb, hnm, hB⟩, rfl⟩ := hV
  intro H locs ls hP hD hS hl
  exact lv_ldc2 hx hb hown (xB.word hX hB hw rfl) hd (kk H locs ls hP hD hS hl)
theorem x_ldc (hV : xEng X y d mc ms V) {i : Nat} {v : Int} (hd : decode y.2.1 pc = .ok (.ldc i, 2)) (hw : Cond.constant y.1.cls i (Int32.ofInt v) ∈ lw_tbl) (kk : V (pc + 2) lo (xi v :: st) h k n) : V pc lo st h k n := by
  obtain ⟨hX, p, e, s, m, args, below, meth, c, Q, ⟨hx, hb, hml, hown, hlk, hrt, htb, hnm, hB⟩, rfl⟩ := hV
  intro H locs ls hP hD hS hl
  exact lv_ldc hx hb hown (xB.word hX hB hw rfl) hd (kk H locs ls hP hD hS hl)
theorem x_i2f (hV : xEng X y d mc ms V) {a : Int} (hd : decode y.2.1 pc = .ok (.i2f, 1)) (kk : V (pc + 1) lo (xf (FP.i2f (Int32.ofInt a)) :: st) h k n) : V pc lo (xi a :: st) h k n := by
  obtain ⟨hX, p, e, s, m, args, below, meth, c, Q, ⟨hx, hb, hml, hown, hlk, hrt, htb, hnm, hB⟩, rfl⟩ := hV
  intro H locs ls hP hD hS hl
  have := kk H locs ls hP hD hS hl
  exact lv_i2f hx hb hd this
theorem x_i2d (hV : xEng X y d mc ms V) {a : Int} (hd : decode y.2.1 pc = .ok (.i2d, 1)) (kk : V (pc + 1) lo (xd (FP.i2d (Int32.ofInt a)) :: st) h k n) : V pc lo (xi a :: st) h k n := by
  obtain ⟨hX, p, e, s, m, args, below, meth, c, Q, ⟨hx, hb, hml, hown, hlk, hrt, htb, hnm, hB⟩, rfl⟩ := hV
  intro H locs ls hP hD hS hl
  have := kk H locs ls hP hD hS hl
  exact lv_i2d hx hb hd this
theorem x_fdiv (hV : xEng X y d mc ms V) {a b : UInt32} (hd : decode y.2.1 pc = .ok (.fdiv, 1)) (hne : vf_n32 (FP.fdiv a b)) (kk : V (pc + 1) lo (xf (FP.fdiv a b) :: st) h k n) : V pc lo (xf b :: xf a :: st) h k n := by
  obtain ⟨hX, p, e, s, m, args, below, meth, c, Q, ⟨hx, hb, hml, hown, hlk, hrt, htb, hnm, hB⟩, rfl⟩ := hV
  intro H locs ls hP hD hS hl
  have := kk H locs ls hP hD hS hl
  exact lv_fdiv hx hb hd hne this
theorem x_ddiv (hV : xEng X y d mc ms V) {a b : UInt64} (hd : decode y.2.1 pc = .ok (.ddiv, 1)) (hne : vf_n64 (FP.ddiv a b)) (kk : V (pc + 1) lo (xd (FP.ddiv a b) :: st) h k n) : V pc lo (xd b :: xd a :: st) h k n := by
  obtain ⟨hX, p, e, s, m, args, below, meth, c, Q, ⟨hx, hb, hml, hown, hlk, hrt, htb, hnm, hB⟩, rfl⟩ := hV
  intro H locs ls hP hD hS hl
  have := kk H locs ls hP hD hS hl
  exact lv_ddiv hx hb hd hne this
theorem x_f2d (hV : xEng X y d mc ms V) {a : UInt32} (hd : decode y.2.1 pc = .ok (.f2d, 1)) (hne : vf_n64 (FP.f2d a)) (kk : V (pc + 1) lo (xd (FP.f2d a) :: st) h k n) : V pc lo (xf a :: st) h k n := by
  obtain ⟨hX, p, e, s, m, args, below, meth, c, Q, ⟨hx, hb, hml, hown, hlk, hrt, htb, hnm, hB⟩, rfl⟩ := hV
  intro H locs ls hP hD hS hl
  have := kk H locs ls hP hD hS hl
  exact lv_f2d hx hb hd hne this
theorem x_fcmp (hV : xEng X y d mc ms V) {a b : UInt32} {o : CmpOp} (hd : decode y.2.1 pc = .ok (.fcmp o, 1)) (kk : V (pc + 1) lo (xi (Op.cmpValue (FP.fcmp a b) o).toInt :: st) h k n) : V pc lo (xf b :: xf a :: st) h k n := by
  obtain ⟨hX, p, e, s, m, args, below, meth, c, Q, ⟨hx, hb, hml, hown, hlk, hrt, htb, hnm, hB⟩, rfl⟩ := hV
  intro H locs ls hP hD hS hl
  have := kk H locs ls hP hD hS hl
  simp only [List.map_cons, xc, Int32.ofInt_toInt] at this
  exact lv_fcmp hx hb hd this
theorem x_dcmp (hV : xEng X y d mc ms V) {a b : UInt64} {o : CmpOp} (hd : decode y.2.1 pc = .ok (.dcmp o, 1)) (kk : V (pc + 1) lo (xi (Op.cmpValue (FP.dcmp a b) o).toInt :: st) h k n) : V pc lo (xd b :: xd a :: st) h k n := by
  obtain ⟨hX, p, e, s, m, args, below, meth, c, Q, ⟨hx, hb, hml, hown, hlk, hrt, htb, hnm, hB⟩, rfl⟩ := hV
  intro H locs ls hP hD hS hl
  have := kk H locs ls hP hD hS hl
  simp only [List.map_cons, xc, Int32.ofInt_toInt] at this
  exact lv_dcmp hx hb hd this
theorem x_dup (hV : xEng X y d mc ms V) {a : xV} (hd : decode y.2.1 pc = .ok (.dup, 1)) (h1 : x2 a = false) (kk : V (pc + 1) lo (a :: a :: st) h k n) : V pc lo (a :: st) h k n := by
  obtain ⟨hX, p, e, s, m, args, below, meth, c, Q, ⟨hx, hb, hml, hown, hlk, hrt, htb, hnm, hB⟩, rfl⟩ := hV
  intro H locs ls hP hD hS hl
  exact lv_dup hx hb hd (xc_1 h1) (kk H locs ls hP hD hS hl)
theorem x_dup2 (hV : xEng X y d mc ms V) {a b : xV} (hd : decode y.2.1 pc = .ok (.dup2, 1)) (h1 : x2 a = false) (h2 : x2 b = false) (kk : V (pc + 1) lo (a :: b :: a :: b :: st) h k n) : V pc lo (a :: b :: st) h k n := by
  obtain ⟨hX, p, e, s, m, args, below, meth, c, Q, ⟨hx, hb, hml, hown, hlk, hrt, htb, hnm, hB⟩, rfl⟩ := hV
  intro H locs ls hP hD hS hl
  exact lv_dup2_11 hx hb hd (xc_1 h1) (xc_1 h2) (kk H locs ls hP hD hS hl)
theorem x_pop (hV : xEng X y d mc ms V) {a : xV} (hd : decode y.2.1 pc = .ok (.pop, 1)) (h1 : x2 a = false) (kk : V (pc + 1) lo st h k n) : V pc lo (a :: st) h k n := by
  obtain ⟨hX, p, e, s, m, args, below, meth, c, Q, ⟨hx, hb, hml, hown, hlk, hrt, htb, hnm, hB⟩, rfl⟩ := hV
  intro H locs ls hP hD hS hl
  exact lv_pop hx hb hd (xc_1 h1) (kk H locs ls hP hD hS hl)
theorem x_icmp_ge (hV : xEng X y d mc ms V) {a b off : Int} {tgt : Nat} (hd : decode y.2.1 pc = .ok (.if_icmp .ge off, 3)) (ht : (pc : Int) + off = (tgt : Int)) (ha : xin a) (hb9 : xin b) (k1 : b ≤ a → V tgt lo st h k n) (k2 : a < b → V (pc + 3) lo st h k n) : V pc lo (xi b :: xi a :: st) h k n := by
  obtain ⟨hX, p, e, s, m, args, below, meth, c, Q, ⟨hx, hb, hml, hown, hlk, hrt, htb, hnm, hB⟩, rfl⟩ := hV
  intro H locs ls hP hD hS hl
  refine lv_icmp_ge hx hb hd ht (fun q => ?_) (fun q => ?_)
  · exact k1 (by first | (have := (xo_le hb9 ha).mp q; omega) | exact fun z => q ((xo_le hb9 ha).mpr z)) H locs ls hP hD hS hl
  · exact k2 (by first | (have := (xo_le hb9 ha).mp q; omega) | (refine Decidable.byContradiction fun z => q ?_; first | exact (xo_le hb9 ha).mpr (by omega) | exact fun w => z ((xo_le hb9 ha).mp w)) | exact fun z => q ((xo_le hb9 ha).mpr z)) H locs ls hP hD hS hl
theorem x_icmp_le (hV : xEng X y d mc ms V) {a b off : Int} {tgt : Nat} (hd : decode y.2.1 pc = .ok (.if_icmp .le off, 3)) (ht : (pc : Int) + off = (tgt : Int)) (ha : xin a) (hb9 : xin b) (k1 : a ≤ b → V tgt lo st h k n) (k2 : b < a → V (pc + 3) lo st h k n) : V pc lo (xi b :: xi a :: st) h k n := by
  obtain ⟨hX, p, e, s, m, args, below, meth, c, Q, ⟨hx, hb, hml, hown, hlk, hrt, htb, hnm, hB⟩, rfl⟩ := hV
  intro H locs ls hP hD hS hl
  refine lv_icmp_le hx hb hd ht (fun q => ?_) (fun q => ?_)
  · exact k1 (by first | (have := (xo_le ha hb9).mp q; omega) | exact fun z => q ((xo_le ha hb9).mpr z)) H locs ls hP hD hS hl
  · exact k2 (by first | (have := (xo_le ha hb9).mp q; omega) | (refine Decidable.byContradiction fun z => q ?_; first | exact (xo_le ha hb9).mpr (by omega) | exact fun w => z ((xo_le ha hb9).mp w)) | exact fun z => q ((xo_le ha hb9).mpr z)) H locs ls hP hD hS hl
theorem x_icmp_gt (hV : xEng X y d mc ms V) {a b off : Int} {tgt : Nat} (hd : decode y.2.1 pc = .ok (.if_icmp .gt off, 3)) (ht : (pc : Int) + off = (tgt : Int)) (ha : xin a) (hb9 : xin b) (k1 : b < a → V tgt lo st h k n) (k2 : a ≤ b → V (pc + 3) lo st h k n) : V pc lo (xi b :: xi a :: st) h k n := by
  obtain ⟨hX, p, e, s, m, args, below, meth, c, Q, ⟨hx, hb, hml, hown, hlk, hrt, htb, hnm, hB⟩, rfl⟩ := hV
  intro H locs ls hP hD hS hl
  refine lv_icmp_gt hx hb hd ht (fun q => ?_) (fun q => ?_)
  · exact k1 (by first | (have := (xo_lt hb9 ha).mp q; omega) | exact fun z => q ((xo_lt hb9 ha).mpr z)) H locs ls hP hD hS hl
  · exact k2 (by first | (have := (xo_lt hb9 ha).mp q; omega) | (refine Decidable.byContradiction fun z => q ?_; first | exact (xo_lt hb9 ha).mpr (by omega) | exact fun w => z ((xo_lt hb9 ha).mp w)) | exact fun z => q ((xo_lt hb9 ha).mpr z)) H locs ls hP hD hS hl
theorem x_icmp_eq (hV : xEng X y d mc ms V) {a b off : Int} {tgt : Nat} (hd : decode y.2.1 pc = .ok (.if_icmp .eq off, 3)) (ht : (pc : Int) + off = (tgt : Int)) (ha : xin a) (hb9 : xin b) (k1 : a = b → V tgt lo st h k n) (k2 : a ≠ b → V (pc + 3) lo st h k n) : V pc lo (xi b :: xi a :: st) h k n := by
  obtain ⟨hX, p, e, s, m, args, below, meth, c, Q, ⟨hx, hb, hml, hown, hlk, hrt, htb, hnm, hB⟩, rfl⟩ := hV
  intro H locs ls hP hD hS hl
  refine lv_icmp_eq hx hb hd ht (fun q => ?_) (fun q => ?_)
  · exact k1 (by first | (have := (xo_eq ha hb9).mp q; omega) | exact fun z => q ((xo_eq ha hb9).mpr z)) H locs ls hP hD hS hl
  · exact k2 (by first | (have := (xo_eq ha hb9).mp q; omega) | (refine Decidable.byContradiction fun z => q ?_; first | exact (xo_eq ha hb9).mpr (by omega) | exact fun w => z ((xo_eq ha hb9).mp w)) | exact fun z => q ((xo_eq ha hb9).mpr z)) H locs ls hP hD hS hl
theorem x_icmp_ne (hV : xEng X y d mc ms V) {a b off : Int} {tgt : Nat} (hd : decode y.2.1 pc = .ok (.if_icmp .ne off, 3)) (ht : (pc : Int) + off = (tgt : Int)) (ha : xin a) (hb9 : xin b) (k1 : a ≠ b → V tgt lo st h k n) (k2 : a = b → V (pc + 3) lo st h k n) : V pc lo (xi b :: xi a :: st) h k n := by
  obtain ⟨hX, p, e, s, m, args, below, meth, c, Q, ⟨hx, hb, hml, hown, hlk, hrt, htb, hnm, hB⟩, rfl⟩ := hV
  intro H locs ls hP hD hS hl
  refine lv_icmp_ne hx hb hd ht (fun q => ?_) (fun q => ?_)
  · exact k1 (by first | (have := (xo_eq ha hb9).mp q; omega) | exact fun z => q ((xo_eq ha hb9).mpr z)) H locs ls hP hD hS hl
  · exact k2 (by first | (have := (xo_eq ha hb9).mp q; omega) | (refine Decidable.byContradiction fun z => q ?_; first | exact (xo_eq ha hb9).mpr (by omega) | exact fun w => z ((xo_eq ha hb9).mp w)) | exact fun z => q ((xo_eq ha hb9).mpr z)) H locs ls hP hD hS hl
theorem x_if_lt (hV : xEng X y d mc ms V) {a off : Int} {tgt : Nat} (hd : decode y.2.1 pc = .ok (.ifCond .lt off, 3)) (ht : (pc : Int) + off = (tgt : Int)) (ha : xin a) (k1 : a < 0 → V tgt lo st h k n) (k2 : 0 ≤ a → V (pc + 3) lo st h k n) : V pc lo (xi a :: st) h k n := by
  obtain ⟨hX, p, e, s, m, args, below, meth, c, Q, ⟨hx, hb, hml, hown, hlk, hrt, htb, hnm, hB⟩, rfl⟩ := hV
  intro H locs ls hP hD hS hl
  refine lv_if_lt hx hb hd ht (fun q => ?_) (fun q => ?_)
  · exact k1 (by first | (have := (xo_lt ha x0in).mp q; omega) | exact fun z => q ((xo_lt ha x0in).mpr z)) H locs ls hP hD hS hl
  · exact k2 (by first | (have := (xo_lt ha x0in).mp q; omega) | (refine Decidable.byContradiction fun z => q ?_; first | exact (xo_lt ha x0in).mpr (by omega) | exact fun w => z ((xo_lt ha x0in).mp w)) | exact fun z => q ((xo_lt ha x0in).mpr z)) H locs ls hP hD hS hl
theorem x_if_ge (hV : xEng X y d mc ms V) {a off : Int} {tgt : Nat} (hd : decode y.2.1 pc = .ok (.ifCond .ge off, 3)) (ht : (pc : Int) + off = (tgt : Int)) (ha : xin a) (k1 : 0 ≤ a → V tgt lo st h k n) (k2 : a < 0 → V (pc + 3) lo st h k n) : V pc lo (xi a :: st) h k n := by
  obtain ⟨hX, p, e, s, m, args, below, meth, c, Q, ⟨hx, hb, hml, hown, hlk, hrt, htb, hnm, hB⟩, rfl⟩ := hV
  intro H locs ls hP hD hS hl
  refine lv_if_ge hx hb hd ht (fun q => ?_) (fun q => ?_)
  · exact k1 (by first | (have := (xo_le x0in ha).mp q; omega) | exact fun z => q ((xo_le x0in ha).mpr z)) H locs ls hP hD hS hl
  · exact k2 (by first | (have := (xo_le x0in ha).mp q; omega) | (refine Decidable.byContradiction fun z => q ?_; first | exact (xo_le x0in ha).mpr (by omega) | exact fun w => z ((xo_le x0in ha).mp w)) | exact fun z => q ((xo_le x0in ha).mpr z)) H locs ls hP hD hS hl
theorem x_if_le (hV : xEng X y d mc ms V) {a off : Int} {tgt : Nat} (hd : decode y.2.1 pc = .ok (.ifCond .le off, 3)) (ht : (pc : Int) + off = (tgt : Int)) (ha : xin a) (k1 : a ≤ 0 → V tgt lo st h k n) (k2 : 0 < a → V (pc + 3) lo st h k n) : V pc lo (xi a :: st) h k n := by
  obtain ⟨hX, p, e, s, m, args, below, meth, c, Q, ⟨hx, hb, hml, hown, hlk, hrt, htb, hnm, hB⟩, rfl⟩ := hV
  intro H locs ls hP hD hS hl
  refine lv_if_le hx hb hd ht (fun q => ?_) (fun q => ?_)
  · exact k1 (by first | (have := (xo_le ha x0in).mp q; omega) | exact fun z => q ((xo_le ha x0in).mpr z)) H locs ls hP hD hS hl
  · exact k2 (by first | (have := (xo_le ha x0in).mp q; omega) | (refine Decidable.byContradiction fun z => q ?_; first | exact (xo_le ha x0in).mpr (by omega) | exact fun w => z ((xo_le ha x0in).mp w)) | exact fun z => q ((xo_le ha x0in).mpr z)) H locs ls hP hD hS hl
theorem x_if_gt (hV : xEng X y d mc ms V) {a off : Int} {tgt : Nat} (hd : decode y.2.1 pc = .ok (.ifCond .gt off, 3)) (ht : (pc : Int) + off = (tgt : Int)) (ha : xin a) (k1 : 0 < a → V tgt lo st h k n) (k2 : a ≤ 0 → V (pc + 3) lo st h k n) : V pc lo (xi a :: st) h k n := by
  obtain ⟨hX, p, e, s, m, args, below, meth, c, Q, ⟨hx, hb, hml, hown, hlk, hrt, htb, hnm, hB⟩, rfl⟩ := hV
  intro H locs ls hP hD hS hl
  refine lv_if_gt hx hb hd ht (fun q => ?_) (fun q => ?_)
  · exact k1 (by first | (have := (xo_lt x0in ha).mp q; omega) | exact fun z => q ((xo_lt x0in ha).mpr z)) H locs ls hP hD hS hl
  · exact k2 (by first | (have := (xo_lt x0in ha).mp q; omega) | (refine Decidable.byContradiction fun z => q ?_; first | exact (xo_lt x0in ha).mpr (by omega) | exact fun w => z ((xo_lt x0in ha).mp w)) | exact fun z => q ((xo_lt x0in ha).mpr z)) H locs ls hP hD hS hl
theorem x_if_eq (hV : xEng X y d mc ms V) {a off : Int} {tgt : Nat} (hd : decode y.2.1 pc = .ok (.ifCond .eq off, 3)) (ht : (pc : Int) + off = (tgt : Int)) (ha : xin a) (k1 : a = 0 → V tgt lo st h k n) (k2 : a ≠ 0 → V (pc + 3) lo st h k n) : V pc lo (xi a :: st) h k n := by
  obtain ⟨hX, p, e, s, m, args, below, meth, c, Q, ⟨hx, hb, hml, hown, hlk, hrt, htb, hnm, hB⟩, rfl⟩ := hV
  intro H locs ls hP hD hS hl
  refine lv_if_eq hx hb hd ht (fun q => ?_) (fun q => ?_)
  · exact k1 (by first | (have := (xo_eq ha x0in).mp q; omega) | exact fun z => q ((xo_eq ha x0in).mpr z)) H locs ls hP hD hS hl
  · exact k2 (by first | (have := (xo_eq ha x0in).mp q; omega) | (refine Decidable.byContradiction fun z => q ?_; first | exact (xo_eq ha x0in).mpr (by omega) | exact fun w => z ((xo_eq ha x0in).mp w)) | exact fun z => q ((xo_eq ha x0in).mpr z)) H locs ls hP hD hS hl
theorem x_if_ne (hV : xEng X y d mc ms V) {a off : Int} {tgt : Nat} (hd : decode y.2.1 pc = .ok (.ifCond .ne off, 3)) (ht : (pc : Int) + off = (tgt : Int)) (ha : xin a) (k1 : a ≠ 0 → V tgt lo st h k n) (k2 : a = 0 → V (pc + 3) lo st h k n) : V pc lo (xi a :: st) h k n := by
  obtain ⟨hX, p, e, s, m, args, below, meth, c, Q, ⟨hx, hb, hml, hown, hlk, hrt, htb, hnm, hB⟩, rfl⟩ := hV
  intro H locs ls hP hD hS hl
  refine lv_if_ne hx hb hd ht (fun q => ?_) (fun q => ?_)
  · exact k1 (by first | (have := (xo_eq ha x0in).mp q; omega) | exact fun z => q ((xo_eq ha x0in).mpr z)) H locs ls hP hD hS hl
  · exact k2 (by first | (have := (xo_eq ha x0in).mp q; omega) | (refine Decidable.byContradiction fun z => q ?_; first | exact (xo_eq ha x0in).mpr (by omega) | exact fun w => z ((xo_eq ha x0in).mp w)) | exact fun z => q ((xo_eq ha x0in).mpr z)) H locs ls hP hD hS hl
theorem x_ifnull (hV : xEng X y d mc ms V) {q : xP} {off : Int} (hd : decode y.2.1 pc = .ok (.ifnull off, 3)) (kk : V (pc + 3) lo st h k n) : V pc lo (xr q :: st) h k n := by
  obtain ⟨hX, p, e, s, m, args, below, meth, c, Q, ⟨hx, hb, hml, hown, hlk, hrt, htb, hnm, hB⟩, rfl⟩ := hV
  intro H locs ls hP hD hS hl
  exact lv_ifnull hx hb hd (kk H locs ls hP hD hS hl)
theorem x_ifnonnull (hV : xEng X y d mc ms V) {q : xP} {off : Int} {tgt : Nat} (hd : decode y.2.1 pc = .ok (.ifnonnull off, 3)) (ht : (pc : Int) + off = (tgt : Int)) (kk : V tgt lo st h k n) : V pc lo (xr q :: st) h k n := by
  obtain ⟨hX, p, e, s, m, args, below, meth, c, Q, ⟨hx, hb, hml, hown, hlk, hrt, htb, hnm, hB⟩, rfl⟩ := hV
  intro H locs ls hP hD hS hl
  exact lv_ifnonnull hx hb hd ht (kk H locs ls hP hD hS hl)
theorem x_ifnonnullN (hV : xEng X y d mc ms V) {off : Int} (hd : decode y.2.1 pc = .ok (.ifnonnull off, 3)) (kk : V (pc + 3) lo st h k n) : V pc lo (xz :: st) h k n := by
  obtain ⟨hX, p, e, s, m, args, below, meth, c, Q, ⟨hx, hb, hml, hown, hlk, hrt, htb, hnm, hB⟩, rfl⟩ := hV
  intro H locs ls hP hD hS hl
  exact lv_ifnonnullN hx hb hd (kk H locs ls hP hD hS hl)
theorem x_null (hV : xEng X y d mc ms V) (hd : decode y.2.1 pc = .ok (.aconst_null, 1)) (kk : V (pc + 1) lo (xz :: st) h k n) : V pc lo st h k n := by
  obtain ⟨hX, p, e, s, m, args, below, meth, c, Q, ⟨hx, hb, hml, hown, hlk, hrt, htb, hnm, hB⟩, rfl⟩ := hV
  intro H locs ls hP hD hS hl
  exact lv_null hx hb hd (kk H locs ls hP hD hS hl)
theorem x_swOut (hV : xEng X y d mc ms V) {dflt z1 z2 a : Int} {offs : Array Int} {len tgt : Nat} (hd : decode y.2.1 pc = .ok (.tableswitch dflt z1 z2 offs, len)) (ha : xin a) (hr : a < z1 ∨ z2 < a) (ht : (pc : Int) + dflt = (tgt : Int)) (kk : V tgt lo st h k n) : V pc lo (xi a :: st) h k n := by
  obtain ⟨hX, p, e, s, m, args, below, meth, c, Q, ⟨hx, hb, hml, hown, hlk, hrt, htb, hnm, hB⟩, rfl⟩ := hV
  intro H locs ls hP hD hS hl
  exact lv_tableOut hx hb hd (by rw [xo_ti ha]; exact hr) ht (kk H locs ls hP hD hS hl)
theorem x_swIn (hV : xEng X y d mc ms V) {dflt z1 z2 a off : Int} {offs : Array Int} {len tgt : Nat} (hd : decode y.2.1 pc = .ok (.tableswitch dflt z1 z2 offs, len)) (ha : xin a) (h1 : z1 ≤ a) (h2 : a ≤ z2) (ho : offs[(a - z1).toNat]? = some off) (ht : (pc : Int) + off = (tgt : Int)) (kk : V tgt lo st h k n) : V pc lo (xi a :: st) h k n := by
  obtain ⟨hX, p, e, s, m, args, below, meth, c, Q, ⟨hx, hb, hml, hown, hlk, hrt, htb, hnm, hB⟩, rfl⟩ := hV
  intro H locs ls hP hD hS hl
  exact lv_tableIn hx hb hd (by rw [xo_ti ha]; omega) (by rw [xo_ti ha]; omega) (by rw [xo_ti ha]; exact ho) ht (kk H locs ls hP hD hS hl)
end XR
