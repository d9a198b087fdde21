/-! a contract with a weaker end -/
theorem xPost_w {α : Type} {res : α → Option xV} {c : xCx} {P P9 : α → xIn → Prop} {E E9 : String → xIn → Prop} {o : xO} {h : xS} (hp : xPost res c P E o h) (hP : ∀ v J, P v J → P9 v J) (hE : ∀ e J, E e J → E9 e J) : xPost res c P9 E9 o h := by
  obtain ⟨I9, h1, ⟨a, h2, h3⟩ | ⟨e, h2, h3⟩⟩ := hp
  · exact ⟨I9, h1, Or.inl ⟨a, h2, hP _ _ h3⟩⟩
  · exact ⟨I9, h1, Or.inr ⟨e, h2, hE _ _ h3⟩⟩
theorem xRet_w {α : Type} {res : α → Option xV} {X : xX} {z : xM} {d : Nat} {av : List xV} {c : xCx} {I : xIn} {mc ms : Nat} {P P9 : α → xIn → Prop} {E E9 : String → xIn → Prop} (h : xRet res X z d av c I mc ms P E) (hP : ∀ v J, P v J → P9 v J) (hE : ∀ e J, E e J → E9 e J) : xRet res X z d av c I mc ms P9 E9 := by
  refine MetFree.mono h (fun _ _ q => q) (fun _ _ _ _ _ q => q) ?_
  rintro a s o t - (⟨⟨⟨r, h', h1, h2, h3⟩, h4⟩, h5⟩ | ⟨q, h1, h2⟩)
  · exact Or.inl ⟨⟨⟨r, h', h1, xPost_w h2 hP hE, h3⟩, h4⟩, h5⟩
  · obtain ⟨e9, ce, L, ⟨h', hp, hw⟩, rest⟩ := h2
    exact Or.inr ⟨q, h1, e9, ce, L, ⟨h', xPost_w hp hP hE, hw⟩, rest⟩
