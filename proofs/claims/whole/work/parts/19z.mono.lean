theorem z_Met_mono {l : Launch} {y : MethodName} {ws : List Cond} {rm : Room} {Pc : Array Value → State → Prop} {Q Q' : Array Value → State → Outcome → State → Prop} {mc ms : Nat} {free : Addr → Prop} (h : ∀ a st o t, Q a st o t → Q' a st o t) (k : Met l y ws rm Pc Q mc ms free) : Met l y ws rm Pc Q' mc ms free := by
  intro p e ha hc hk s m args below hf happ hP hK
  obtain ⟨n, o, h1, h2, h3, hQ, hL⟩ := k p e ha hc hk s m args below hf happ hP hK
  exact ⟨n, o, h1, h2, h3, h _ _ _ _ hQ, hL⟩
theorem z_Cv_mono {dc : Nat} {mc : zM} {av : List zV} {σ : zS} {P P' : zS → Prop} (h : ∀ u, P u → P' u) (k : z_Cv dc mc av σ P) : z_Cv dc mc av σ P' := by
  intro d hd l D cy ad sz
  refine z_Met_mono ?_ (k d hd l D cy ad sz)
  rintro a st o t ⟨⟨u, h1, h2, h3⟩, h4⟩
  exact ⟨⟨u, h1, h u h2, h3⟩, h4⟩
theorem z_Ci_mono {dc : Nat} {mc : zM} {av : List zV} {σ : zS} {P P' : Int32 → zS → Prop} (h : ∀ r u, P r u → P' r u) (k : z_Ci dc mc av σ P) : z_Ci dc mc av σ P' := by
  intro d hd l D cy ad sz
  refine z_Met_mono ?_ (k d hd l D cy ad sz)
  rintro a st o t ⟨⟨r, u, h1, h2, h3⟩, h4⟩
  exact ⟨⟨r, u, h1, h r u h2, h3⟩, h4⟩
theorem z_Cv_dep {dc dc' : Nat} {mc : zM} {av : List zV} {σ : zS} {P : zS → Prop} (h : dc ≤ dc') (k : z_Cv dc mc av σ P) : z_Cv dc' mc av σ P := fun d hd => k d (Nat.le_trans h hd)
theorem z_Ci_dep {dc dc' : Nat} {mc : zM} {av : List zV} {σ : zS} {P : Int32 → zS → Prop} (h : dc ≤ dc') (k : z_Ci dc mc av σ P) : z_Ci dc' mc av σ P := fun d hd => k d (Nat.le_trans h hd)
