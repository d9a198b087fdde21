/-- a method that can be called: n arguments beside the receiver -/
def xPl (z : xM) (na : Nat) : Prop := plainName z.1.cls = true ∧ (z.1.cls ≠ "java/lang/invoke/MethodHandle" ∧ z.1.cls ≠ "java/lang/invoke/VarHandle" ∧ (parseMethodDescriptor z.1.desc).map (fun d => d.parameters.length) = some na) ∧ (∀ w ∈ xws z, w ∈ lw_tbl ∧ goodWord w = true) ∧ Cond.initialized z.1.cls ∈ lw_tbl ∧ z.2.2.1 ≤ 17
def xLk (own : String) (ins : Instr) (z : xM) (rv : Bool) : Prop :=
  (∃ idx, rv = true ∧ ins = .invokevirtual idx ∧ Cond.instanceMethod z.1 ∈ lw_tbl ∧ Cond.selects z.1.cls z.1 z.1 ∈ lw_tbl ∧ (Cond.methodLink own idx z.1 ∈ lw_tbl ∨ (z.2.2.2.2 = [] ∧ ∃ host, Cond.methodLinkNest own idx z.1 host ∈ lw_tbl))) ∨
  (∃ idx, rv = false ∧ ins = .invokestatic idx ∧ Cond.static z.1 ∈ lw_tbl ∧ ((Cond.methodLink own idx z.1 ∈ lw_tbl ∧ own = own) ∨ (z.2.2.2.2 = [] ∧ ∃ host, Cond.methodLinkNest own idx z.1 host ∈ lw_tbl))) ∨
  (∃ idx, rv = true ∧ ins = .invokespecial idx ∧ z.2.2.2.2 = [] ∧ z.1.name = "<init>" ∧ z.2.2.2.1 = none ∧ Cond.instanceMethod z.1 ∈ lw_tbl ∧ (Cond.methodLink own idx z.1 ∈ lw_tbl ∨ ∃ host, Cond.methodLinkNest own idx z.1 host ∈ lw_tbl))
theorem xws_nil {z : xM} (hh : z.2.2.2.2 = []) : xws z = [.code z.1 z.2.1 z.2.2.1 z.2.2.2.1] := by
  unfold xws
  rw [hh]
theorem xws_cons {z : xM} {q : Nat × Nat × Nat × Nat} {t : List (Nat × Nat × Nat × Nat)} (hh : z.2.2.2.2 = q :: t) : xws z = [.codeWith z.1 z.2.1 z.2.2.1 z.2.2.2.1 (q :: t)] := by
  unfold xws
  rw [hh]
theorem xPc_blind {X : xX} {av : List Value} {h : xS} : FrameBlind (va_Pc av (fun U => xB X U ∧ xWd X h U)) := fun a U g mk q => q
section XC
variable {X : xX} {p : Program} {e : Env} {R : Room} {s : State} {m : MethodId} {args : Array Value} {below : List Frame} {meth : Method} {c : Code} {H : Heap} {locs : List Loc} {k n mc9 ms9 pc : Nat} {ls : Array Slot} {st0 rest : List Value} {Q : State → Prop} {post : xO → xS → Prop} {a : Array Value}
theorem xB.at {U : State} (hB : xB X s) (hS : va_S (xA X) s.heap H locs) (hU : U.heap = H) (hW : s.WarmedH U.vm) : xB X U := by
  refine ⟨State.WarmedH.trans hB.1 hW, by rw [hU]; exact Nat.le_trans hB.2.1 hS.1, fun z hz => ?_⟩
  rw [hU, hS.2.1 z (Nat.lt_of_lt_of_le hz hB.2.1) (Nat.not_le.mpr hz)]
  exact hB.2.2 z hz
theorem x_ran (hS : va_S (xA X) s.heap H locs) (hr : vx_Run p X.1 e R s m args below meth c H locs k n mc9 ms9 (F0 m pc ls st0) rest (xQ X post a) (xE X post) (xA X))
    (kx : ∀ (E : String) (h9 : xS) (H1 : Heap) (locs1 : List Loc) (q9 : Addr) (ce : Cell), post (.inr E) h9 → va_P X.G vwCl (xw X.T h9) H1 → xDD X h9 → va_S (xA X) s.heap H1 locs1 → H1[q9]? = some ce → ce.vm = .none → s.vm.findClass E = some ce.cls → vx_W p X.1 e R s m args below meth c H1 locs1 (k + mc9) (n + ms9) Q (F0 m pc ls rest) q9)
    (kk : ∀ (r : Option xV) (h9 : xS) (H1 : Heap) (locs1 : List Loc), post (.inl r) h9 → va_P X.G vwCl (xw X.T h9) H1 → xDD X h9 → va_S (xA X) s.heap H1 locs1 → W p X.1 e R s m args below meth c H1 locs1 (k + mc9) (n + ms9) Q (F0 m (pc + 3) ls ((r.map (xc h9.A)).toList ++ rest))) : W p X.1 e R s m args below meth c H locs k n Q (F0 m pc ls st0) := by
  intro T hT Y
  rcases hr T hT Y with ⟨v, st₀, t, T', L, h0, Y', hL, e1, e2, ⟨⟨r, h9, hv, hp, hP1, hD1⟩, hF⟩, st⟩ | ⟨q, st₀, t, T', L, E, ce, h0, Y', hL, e1, e2, ⟨h9, hp, ⟨hP1, hD1⟩, hF⟩, hce, hcv, hcl, st⟩
  · cases hv
    obtain ⟨k1, k2, k3⟩ := vx_keep h0 e1 hS (fun _ _ z => z) (fun _ z => z) hL hF
    obtain ⟨t2, a1, b1⟩ := kk r h9 T'.heap (locs ++ L) hp (by rw [e1]; exact hP1) hD1 k3 T' rfl Y'
    exact ⟨t2, st t2 a1, b1⟩
  · obtain ⟨k1, k2, k3⟩ := vx_keep h0 e1 hS (fun _ _ z => z) (fun _ z => z) hL hF
    obtain ⟨t2, a1, b1⟩ := kx E h9 T'.heap (locs ++ L) q ce hp (by rw [e1]; exact hP1) hD1 k3 (by rw [e1]; exact hce) hcv hcl T' rfl Y'
    exact ⟨t2, st.trans a1, b1⟩
end XC
section XR
variable {X : xX} {y : xM} {d mc ms : Nat} {V : xT} {pc : Nat} {lo : List (Nat × xV)} {st : List xV} {h : xS} {k n : Nat}
theorem x_runs {p : Program} {e : Env} {s : State} {m : MethodId} {args : Array Value} {below : List Frame} {meth : Method} {c : Code} {H : Heap} {locs : List Loc} {ls : Array Slot} (hX : xBase X) (hA : xAct X y p s m meth c) (hP : va_P X.G vwCl (xw X.T h) H) (hD : xDD X h) (hS : va_S (xA X) s.heap H locs) (hsz : ls.size = y.2.2.1)
    {z : xM} {na d9 mc9 ms9 : Nat} {av : List xV} {post : xO → xS → Prop} {ins : Instr} {rv : Bool} (hM : xMet X z d9 av h mc9 ms9 post) (hpl : xPl z na) (hlk : xLk y.1.cls ins z rv) (hrv : rv = true → ∃ (q : xP) (as : List xV) (ci N : Nat) (T : u_T), av = xr q :: as ∧ as.length = na ∧ q ∈ h.L ∧ kd q = (0, ci) ∧ vwCl[ci]? = some (z.1.cls, T, N)) (hns : rv = false → av.length = na)
    (hd9 : d9 + 1 ≤ d) (hk : k + mc9 ≤ mc) (hn : n + ms9 ≤ ms) (hst : (st.map fun v => (xc h.A v).category).sum ≤ 8) (hdec : decode y.2.1 pc = .ok (ins, 3)) :
    vx_Run p X.1 e (xrm d mc ms) s m args below meth c H locs k n mc9 ms9 (F0 m pc ls ((av.reverse ++ st).map (xc h.A))) (st.map (xc h.A)) (xQ X post (av.map (xc h.A)).toArray) (xE X post) (xA X) := by
  obtain ⟨hx, hb, hml, hown, hlk9, hrt, htb, hnm, hB⟩ := hA
  obtain ⟨hpn, hdn, hws, hini, hmx⟩ := hpl
  have hS9 : CallFix p m c y.2.1 y.2.2.1 s args [] y.1.cls := ⟨hx, hb, hml, hown, fun w hw => by cases hw⟩
  have hR : (xrm d9 mc9 ms9).frames + 1 ≤ (xrm d mc ms).frames ∧ 8 + (z.2.2.1 + 11) + (xrm d9 mc9 ms9).locals ≤ (xrm d mc ms).locals := ⟨hd9, by show 8 + (z.2.2.1 + 11) + (36 * d9 + 48) ≤ 36 * d + 48; omega⟩
  have hww : ∀ w ∈ xws z, ∀ (a' : Array Value) (U : State), s.WarmedH U.vm → w.before a' U = true := fun w hw a' U hW => word_at hW (good_of_word (hws w hw).2) (xB.word (args := args) hX hB (hws w hw).1 (hws w hw).2)
  have hin9 : (Cond.initialized z.1.cls).before args s = true := xB.word hX hB hini rfl
  have hlen : ∀ sig, parseMethodDescriptor z.1.desc = some sig → na = sig.parameters.length := fun sig hs => by
    have h2 := hdn.2.2
    rw [hs] at h2
    exact (Option.some.inj h2).symm
  have hPc : ∀ U : State, U.heap = H → s.WarmedH U.vm → va_Pc (av.map (xc h.A)) (fun U => xB X U ∧ xWd X h U) (av.map (xc h.A)).toArray U := fun U hU hW => ⟨rfl, xB.at hB hS hU hW, by rw [xWd, hU]; exact ⟨hP, hD⟩⟩
  have hstk : (av.reverse ++ st).map (xc h.A) = (av.map (xc h.A)).reverse ++ st.map (xc h.A) := by rw [List.map_append, List.map_reverse]
  have hcat : 2 * (F0 m pc ls ((av.reverse ++ st).map (xc h.A))).monitorRoom + ((st.map (xc h.A)).map fun v => v.category).sum ≤ 8 := by
    show 2 * 0 + _ ≤ 8
    rw [List.map_map]
    simpa [Function.comp_def] using hst
  rcases hlk with ⟨idx, hr9, rfl, hi1, hi2, hl1⟩ | ⟨idx, hr9, rfl, hs1, hl1⟩ | ⟨idx, hr9, rfl, hh, hi0, hi3, hi1, hl1⟩
  · obtain ⟨q, as, ci, N, T, rfl, hal, hq, hkd, hcl⟩ := hrv hr9
    obtain ⟨i, hi, hwi⟩ := xw_at (T := X.T) hq
    have he : xe X.T h q = .inr (ci, xfs h q (fdT.getD ci [])) := by unfold xe; rw [hkd]; rfl
    rw [he] at hwi
    have hpre : PreV s H z.1.cls (h.A q) (va_Pc ((xr q :: as).map (xc h.A)) (fun U => xB X U ∧ xWd X h U)) (as.map (xc h.A)) := ⟨xPc_blind, va_recv (xB.K hX hB) hP hcl hwi, fun U hU hW => hPc U hU hW⟩
    have hstk2 : (((xr q :: as).reverse ++ st).map (xc h.A)) = (as.map (xc h.A)).reverse ++ Value.ref (h.A q) :: st.map (xc h.A) := by simp [List.map_reverse, xc]
    rcases hl1 with hl1 | ⟨hh, host, hl1⟩
    · cases hhh : z.2.2.2.2 with
      | nil =>
        have hcode : Cond.code z.1 z.2.1 z.2.2.1 z.2.2.2.1 ∈ xws z := by rw [xws_nil hhh]; exact List.mem_cons_self
        exact vx_runV hS9 hM ⟨⟨rfl, rfl, hR.1, hR.2, hww, hcode, xB.word hX hB (hws _ hcode).1 rfl, hin9, ⟨hdn.1, hdn.2.1⟩, hlen, xB.word hX hB hl1 rfl⟩, xB.word hX hB hi1 rfl, xB.word hX hB hi2 rfl⟩ hpre rfl (by rw [List.length_map]; exact hal) hsz hstk2 hcat hdec ⟨hk, hn⟩
      | cons q9 t9 =>
        have hcode : Cond.codeWith z.1 z.2.1 z.2.2.1 z.2.2.2.1 (q9 :: t9) ∈ xws z := by rw [xws_cons hhh]; exact List.mem_cons_self
        exact vx_runVX (hh := q9 :: t9) hS9 hM ⟨⟨rfl, rfl, hR.1, hR.2, hww, hcode⟩, xB.word hX hB (hws _ hcode).1 (hws _ hcode).2, hin9, ⟨hdn.1, hdn.2.1⟩, hlen, xB.word hX hB hl1 rfl, xB.word hX hB hi1 rfl, xB.word hX hB hi2 rfl⟩ hpre rfl (by rw [List.length_map]; exact hal) hsz hstk2 hcat hdec ⟨hk, hn⟩
    · have hcode : Cond.code z.1 z.2.1 z.2.2.1 z.2.2.2.1 ∈ xws z := by rw [xws_nil hh]; exact List.mem_cons_self
      exact vx_runVN hS9 hM ⟨⟨⟨rfl, rfl, hR.1, hR.2, hww, hcode⟩, xB.word hX hB (hws _ hcode).1 rfl, hin9, ⟨hdn.1, hdn.2.1⟩, hlen, va_Nw.use rfl (xB.nestM hX hB hl1)⟩, xB.word hX hB hi1 rfl, xB.word hX hB hi2 rfl⟩ hpre rfl (by rw [List.length_map]; exact hal) hsz hstk2 hcat hdec ⟨hk, hn⟩
  · have hna := hns hr9
    have hpre : PreS s H (va_Pc (av.map (xc h.A)) (fun U => xB X U ∧ xWd X h U)) (av.map (xc h.A)) := ⟨xPc_blind, fun U hU hW => hPc U hU hW⟩
    have h1 : (Cond.static z.1).before args s = true := xB.word hX hB hs1 rfl
    rcases hl1 with ⟨hl1, -⟩ | ⟨hh, host, hl1⟩
    · cases hhh : z.2.2.2.2 with
      | nil =>
        have hcode : Cond.code z.1 z.2.1 z.2.2.1 z.2.2.2.1 ∈ xws z := by rw [xws_nil hhh]; exact List.mem_cons_self
        exact vx_runS hS9 hM ⟨⟨rfl, rfl, hR.1, hR.2, hww, hcode, xB.word hX hB (hws _ hcode).1 rfl, hin9, ⟨hdn.1, hdn.2.1⟩, hlen, xB.word hX hB hl1 rfl⟩, h1⟩ hpre rfl (by rw [List.length_map]; exact hna) hsz hstk hcat hdec ⟨hk, hn⟩
      | cons q t =>
        have hcode : Cond.codeWith z.1 z.2.1 z.2.2.1 z.2.2.2.1 (q :: t) ∈ xws z := by rw [xws_cons hhh]; exact List.mem_cons_self
        exact vx_runSX (hh := q :: t) hS9 hM ⟨⟨rfl, rfl, hR.1, hR.2, hww, hcode⟩, xB.word hX hB (hws _ hcode).1 (hws _ hcode).2, hin9, ⟨hdn.1, hdn.2.1⟩, hlen, xB.word hX hB hl1 rfl, h1⟩ hpre rfl (by rw [List.length_map]; exact hna) hsz hstk hcat hdec ⟨hk, hn⟩
    · have hcode : Cond.code z.1 z.2.1 z.2.2.1 z.2.2.2.1 ∈ xws z := by rw [xws_nil hh]; exact List.mem_cons_self
      exact vx_runSN hS9 hM ⟨⟨⟨rfl, rfl, hR.1, hR.2, hww, hcode⟩, xB.word hX hB (hws _ hcode).1 rfl, hin9, ⟨hdn.1, hdn.2.1⟩, hlen, va_Nw.use rfl (xB.nestM hX hB hl1)⟩, h1, trivial⟩ hpre rfl (by rw [List.length_map]; exact hna) hsz hstk hcat hdec ⟨hk, hn⟩
  · obtain ⟨q, as, ci, N, T, rfl, hal, hq, hkd, hcl⟩ := hrv hr9
    have hcode : Cond.code z.1 z.2.1 z.2.2.1 none ∈ xws z := by rw [xws_nil hh, hi3]; exact List.mem_cons_self
    have hpre : PreS s H (va_Pc ((xr q :: as).map (xc h.A)) (fun U => xB X U ∧ xWd X h U)) (.ref (h.A q) :: as.map (xc h.A)) := ⟨xPc_blind, fun U hU hW => hPc U hU hW⟩
    have hstk2 : (((xr q :: as).reverse ++ st).map (xc h.A)) = (as.map (xc h.A)).reverse ++ Value.ref (h.A q) :: st.map (xc h.A) := by simp [List.map_reverse, xc]
    rcases hl1 with hl1 | ⟨host, hl1⟩
    · exact vx_runI hS9 hM ⟨⟨rfl, rfl, hR.1, hR.2, hww, hcode, xB.word hX hB (hws _ hcode).1 rfl, hin9, ⟨hdn.1, hdn.2.1⟩, hlen, xB.word hX hB hl1 rfl⟩, hi0, xB.word hX hB hi1 rfl⟩ hpre rfl (by rw [List.length_map]; exact hal) hsz hstk2 hcat hdec ⟨hk, hn⟩
    · exact vx_runIN hS9 hM ⟨⟨⟨rfl, rfl, hR.1, hR.2, hww, hcode⟩, xB.word hX hB (hws _ hcode).1 rfl, hin9, ⟨hdn.1, hdn.2.1⟩, hlen, va_Nw.use rfl (xB.nestM hX hB hl1)⟩, hi0, xB.word hX hB hi1 rfl⟩ hpre rfl (by rw [List.length_map]; exact hal) hsz hstk2 hcat hdec ⟨hk, hn⟩
end XR
