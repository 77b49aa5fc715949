theorem z_gen {Γ : zG} {mi : zM} {pc : Nat} {L : List (Option zV)} {S : List zV} {σ : zS} (h : ∀ y, y = σ → z_J Γ mi pc L S y) : z_J Γ mi pc L S σ := h σ rfl
theorem z_cp {σ σ1 : zS} {a b i j n : Nat} (h : σ1 = z_pA σ a (va_cpy (σ.1 b) (σ.1 a) i j n)) : (∀ k, k < n → σ1.1 a (j + k) = σ.1 b (i + k)) ∧ (∀ k, k < j ∨ j + n ≤ k → σ1.1 a k = σ.1 a k) ∧ (∀ q, q ≠ a → σ1.1 q = σ.1 q) ∧ σ1.2 = σ.2 := by
  subst h
  refine ⟨fun k hk => ?_, fun k hk => ?_, fun q hq => ?_, rfl⟩
  · rw [z_pA_1, if_pos rfl, pk_cpy_in (by omega) (by omega)]
    have : j + k - j = k := by omega
    rw [this]
  · rw [z_pA_1, if_pos rfl, pk_cpy_out hk]
  · rw [z_pA_1, if_neg hq]
section
variable {s : aS} {v : aV} {σ u : zS} {o c : Nat}
theorem cV.congr (hI : aI s v) {fW fH fD fM fP fF gW gH gD gM gP gF : Nat → Int32} {d e : Int32} (h : cV s v fW fH fD fM fP fF d) (h1 : ∀ b, b < 12 → gW b = fW b) (h2 : ∀ b, b < 12 → gH b = fH b) (h3 : ∀ b, b < 12 → gD b = fD b) (h4 : ∀ b, b < 6 → gM b = fM b) (h5 : ∀ b, b < 24 → gP b = fP b) (h6 : ∀ b, b < 4 → gF b = fF b) (h7 : e = d) : cV s v gW gH gD gM gP gF e := by
  obtain ⟨⟨n12, -, c6, -⟩, -, -, hcol, -⟩ := hI
  obtain ⟨q1, q2, q3, q4, q5, q6, q7⟩ := h
  refine ⟨fun b hb => by rw [h1 b hb]; exact q1 b hb, fun b hb => by rw [h2 b (by omega)]; exact q2 b hb, fun b hb => by rw [h3 b (by omega)]; exact q3 b hb, fun c hc => by rw [h4 c (by omega)]; exact q4 c hc, fun c hc k hk => ?_, fun r hr => by rw [h6 r hr]; exact q6 r hr, by rw [h7]; exact q7⟩
  have := (hcol c hc).2.1
  rw [h5 _ (by omega)]
  exact q5 c hc k hk
theorem cR.copy (h : cR s v σ c) (e0 : u.1 o 0 = σ.1 c 0) (e6 : u.1 o 6 = σ.1 c 6) (e9 : u.1 o 9 = σ.1 c 9) (e12 : u.1 o 12 = σ.1 c 12) (r1 : ∀ i, i < 12 → u.1 (o + 1) i = σ.1 (c + 1) i) (r2 : ∀ i, i < 12 → u.1 (o + 2) i = σ.1 (c + 2) i) (r3 : ∀ i, i < 12 → u.1 (o + 3) i = σ.1 (c + 3) i) (r4 : ∀ i, i < 12 → u.1 (o + 4) i = σ.1 (c + 4) i) (r5 : ∀ i, i < 12 → u.1 (o + 5) i = σ.1 (c + 5) i) (r6 : ∀ i, i < 6 → u.1 (o + 6) i = σ.1 (c + 6) i) (r7 : ∀ i, i < 24 → u.1 (o + 7) i = σ.1 (c + 7) i) (r8 : ∀ i, i < 4 → u.1 (o + 8) i = σ.1 (c + 8) i) (r9 : ∀ i, i < 4 → u.1 (o + 9) i = σ.1 (c + 9) i) : cR s v u o := by
  have hn := h.n
  have h4 := h.r4
  refine ⟨h.1, ⟨by rw [e0]; exact h.fn, by rw [e6]; exact h.fc, by rw [e9]; exact h.fr, fun b hb => by rw [r1 b (by omega)]; exact h.ft hb, fun b hb => by rw [r2 b (by omega)]; exact h.fw hb, fun r hr => by rw [r8 r (by omega)]; exact h.fl hr⟩, h.2.2.congr h.1 r3 r4 r5 r6 r7 r9 e12⟩
theorem z_oC_far {o c : Nat} (ho : z_oC o) (hc : z_oC c) (hne : o ≠ c) {i j : Nat} (hi : i ≤ 9) (hj : j ≤ 9) : o + i ≠ c + j := by
  rcases ho with rfl | rfl <;> rcases hc with rfl | rfl <;> omega
set_option maxHeartbeats 1000000 in
theorem cc_copyFrom (ho : z_oC o) (hc : z_oC c) (hne : o ≠ c) (hR : cR s v σ c) : z_Cv 1 zm_City_copyFrom [.inr o, .inr c] σ (fun u => cR s v u o ∧ z_fr (z_F09 o) σ u) := by
  refine z_Cv_of (by decide) (Nat.le_of_ble_eq_true rfl) (fun Γ hd he => ?_)
  show z_J Γ zm_City_copyFrom 0 [some (.inr o), some (.inr c)] [] σ
  have far : ∀ {i j : Nat}, i ≤ 9 → j ≤ 9 → c + i ≠ o + j := fun hi hj e => z_oC_far ho hc hne hj hi e.symm
  have far0 : ∀ {i : Nat}, i ≤ 9 → c + i ≠ o := fun hi => far (j := 0) hi (by omega)
  have far00 : c ≠ o := fun e => hne e.symm
  refine zb_City_copyFrom_0 ho hc (by omega) (i1 := 0) (j1 := 0) (l1 := 12) rfl rfl rfl (by decide) (by decide) ?_
  rw [z_pI_ne far00, z_pI_ne far00, z_pI_ne far00, z_pI_ne far00, z_pI_ne far00, z_pI_ne far00]
  obtain ⟨σ0, hσ0⟩ : ∃ z, z = z_pI (z_pI (z_pI (z_pI σ o 0 (σ.1 c 0)) o 6 (σ.1 c 6)) o 9 (σ.1 c 9)) o 12 (σ.1 c 12) := ⟨_, rfl⟩
  rw [← hσ0]
  have f0 : ∀ q, q ≠ o → σ0.1 q = σ.1 q := fun q hq => by rw [hσ0, z_pI_ne hq, z_pI_ne hq, z_pI_ne hq, z_pI_ne hq]
  have g0 : σ0.1 o 0 = σ.1 c 0 := by rw [hσ0, z_pI_ne2 (by decide), z_pI_ne2 (by decide), z_pI_ne2 (by decide), z_pI_at]
  have g6 : σ0.1 o 6 = σ.1 c 6 := by rw [hσ0, z_pI_ne2 (by decide), z_pI_ne2 (by decide), z_pI_at]
  have g9 : σ0.1 o 9 = σ.1 c 9 := by rw [hσ0, z_pI_ne2 (by decide), z_pI_at]
  have g12 : σ0.1 o 12 = σ.1 c 12 := by rw [hσ0, z_pI_at]
  have F0 : z_fr (z_F09 o) σ σ0 := by
    rw [hσ0]
    exact (((z_fr.rf.pI (by show o ≤ _ ∧ _ ≤ o + 9; omega)).pI (by show o ≤ _ ∧ _ ≤ o + 9; omega)).pI (by show o ≤ _ ∧ _ ≤ o + 9; omega)).pI (by show o ≤ _ ∧ _ ≤ o + 9; omega)
  clear hσ0
  refine z_gen (fun σ1 h1 => ?_)
  have F1 : z_fr (z_F09 o) σ σ1 := by rw [h1]; exact F0.pA (by show o ≤ _ ∧ _ ≤ o + 9; omega)
  have c1 := z_cp h1
  clear h1
  refine zb_City_copyFrom_47 ho hc (by omega) (i1 := 0) (j1 := 0) (l1 := 12) rfl rfl rfl (by decide) (by decide) (z_gen (fun σ2 h2 => ?_))
  have F2 : z_fr (z_F09 o) σ σ2 := by rw [h2]; exact F1.pA (by show o ≤ _ ∧ _ ≤ o + 9; omega)
  have c2 := z_cp h2
  clear h2
  refine zb_City_copyFrom_62 ho hc (by omega) (i1 := 0) (j1 := 0) (l1 := 12) rfl rfl rfl (by decide) (by decide) (z_gen (fun σ3 h3 => ?_))
  have F3 : z_fr (z_F09 o) σ σ3 := by rw [h3]; exact F2.pA (by show o ≤ _ ∧ _ ≤ o + 9; omega)
  have c3 := z_cp h3
  clear h3
  refine zb_City_copyFrom_77 ho hc (by omega) (i1 := 0) (j1 := 0) (l1 := 12) rfl rfl rfl (by decide) (by decide) (z_gen (fun σ4 h4 => ?_))
  have F4 : z_fr (z_F09 o) σ σ4 := by rw [h4]; exact F3.pA (by show o ≤ _ ∧ _ ≤ o + 9; omega)
  have c4 := z_cp h4
  clear h4
  refine zb_City_copyFrom_92 ho hc (by omega) (i1 := 0) (j1 := 0) (l1 := 12) rfl rfl rfl (by decide) (by decide) (z_gen (fun σ5 h5 => ?_))
  have F5 : z_fr (z_F09 o) σ σ5 := by rw [h5]; exact F4.pA (by show o ≤ _ ∧ _ ≤ o + 9; omega)
  have c5 := z_cp h5
  clear h5
  refine zb_City_copyFrom_107 ho hc (by omega) (i1 := 0) (j1 := 0) (l1 := 6) rfl rfl rfl (by decide) (by decide) (z_gen (fun σ6 h6 => ?_))
  have F6 : z_fr (z_F09 o) σ σ6 := by rw [h6]; exact F5.pA (by show o ≤ _ ∧ _ ≤ o + 9; omega)
  have c6 := z_cp h6
  clear h6
  refine zb_City_copyFrom_122 ho hc (by omega) (i1 := 0) (j1 := 0) (l1 := 24) rfl rfl rfl (by decide) (by decide) (z_gen (fun σ7 h7 => ?_))
  have F7 : z_fr (z_F09 o) σ σ7 := by rw [h7]; exact F6.pA (by show o ≤ _ ∧ _ ≤ o + 9; omega)
  have c7 := z_cp h7
  clear h7
  refine zb_City_copyFrom_137 ho hc (by omega) (i1 := 0) (j1 := 0) (l1 := 4) rfl rfl rfl (by decide) (by decide) (z_gen (fun σ8 h8 => ?_))
  have F8 : z_fr (z_F09 o) σ σ8 := by rw [h8]; exact F7.pA (by show o ≤ _ ∧ _ ≤ o + 9; omega)
  have c8 := z_cp h8
  clear h8
  refine zb_City_copyFrom_151 ho hc (by omega) (i1 := 0) (j1 := 0) (l1 := 4) rfl rfl rfl (by decide) (by decide) (z_gen (fun σ9 h9 => ?_))
  have F9 : z_fr (z_F09 o) σ σ9 := by rw [h9]; exact F8.pA (by show o ≤ _ ∧ _ ≤ o + 9; omega)
  have c9 := z_cp h9
  clear h9
  have fc : ∀ {τ : zS} {i : Nat}, z_fr (z_F09 o) σ τ → i ≤ 9 → τ.1 (c + i) = σ.1 (c + i) := fun hF hi => (hF _ (by
    show ¬ (o ≤ _ ∧ _ ≤ o + 9)
    rcases ho with rfl | rfl <;> rcases hc with rfl | rfl <;> omega)).1
  have fo : σ9.1 o = σ0.1 o := by rw [c9.2.2.1 _ (by omega), c8.2.2.1 _ (by omega), c7.2.2.1 _ (by omega), c6.2.2.1 _ (by omega), c5.2.2.1 _ (by omega), c4.2.2.1 _ (by omega), c3.2.2.1 _ (by omega), c2.2.2.1 _ (by omega), c1.2.2.1 _ (by omega)]
  refine zb_City_copyFrom_165 ?_
  rw [he]
  refine ⟨rfl, hR.copy (by rw [fo, g0]) (by rw [fo, g6]) (by rw [fo, g9]) (by rw [fo, g12]) (fun i hi => ?_) (fun i hi => ?_) (fun i hi => ?_) (fun i hi => ?_) (fun i hi => ?_) (fun i hi => ?_) (fun i hi => ?_) (fun i hi => ?_) (fun i hi => ?_), F9⟩
  · have := c1.1 i hi
    rw [Nat.zero_add] at this
    rw [c9.2.2.1 _ (by omega), c8.2.2.1 _ (by omega), c7.2.2.1 _ (by omega), c6.2.2.1 _ (by omega), c5.2.2.1 _ (by omega), c4.2.2.1 _ (by omega), c3.2.2.1 _ (by omega), c2.2.2.1 _ (by omega), this, fc F0 (by omega)]
  · have := c2.1 i hi
    rw [Nat.zero_add] at this
    rw [c9.2.2.1 _ (by omega), c8.2.2.1 _ (by omega), c7.2.2.1 _ (by omega), c6.2.2.1 _ (by omega), c5.2.2.1 _ (by omega), c4.2.2.1 _ (by omega), c3.2.2.1 _ (by omega), this, fc F1 (by omega)]
  · have := c3.1 i hi
    rw [Nat.zero_add] at this
    rw [c9.2.2.1 _ (by omega), c8.2.2.1 _ (by omega), c7.2.2.1 _ (by omega), c6.2.2.1 _ (by omega), c5.2.2.1 _ (by omega), c4.2.2.1 _ (by omega), this, fc F2 (by omega)]
  · have := c4.1 i hi
    rw [Nat.zero_add] at this
    rw [c9.2.2.1 _ (by omega), c8.2.2.1 _ (by omega), c7.2.2.1 _ (by omega), c6.2.2.1 _ (by omega), c5.2.2.1 _ (by omega), this, fc F3 (by omega)]
  · have := c5.1 i hi
    rw [Nat.zero_add] at this
    rw [c9.2.2.1 _ (by omega), c8.2.2.1 _ (by omega), c7.2.2.1 _ (by omega), c6.2.2.1 _ (by omega), this, fc F4 (by omega)]
  · have := c6.1 i hi
    rw [Nat.zero_add] at this
    rw [c9.2.2.1 _ (by omega), c8.2.2.1 _ (by omega), c7.2.2.1 _ (by omega), this, fc F5 (by omega)]
  · have := c7.1 i hi
    rw [Nat.zero_add] at this
    rw [c9.2.2.1 _ (by omega), c8.2.2.1 _ (by omega), this, fc F6 (by omega)]
  · have := c8.1 i hi
    rw [Nat.zero_add] at this
    rw [c9.2.2.1 _ (by omega), this, fc F7 (by omega)]
  · have := c9.1 i hi
    rw [Nat.zero_add] at this
    rw [this, fc F8 (by omega)]
/-- a page holds what changes -/
def pgR (s : aS) (v : aV) (f : Nat → Int32) : Prop := cV s v (fun j => f (5 + j)) (fun j => f (17 + j)) (fun j => f (29 + j)) (fun j => f (41 + j)) (fun j => f (47 + j)) (fun j => f (1 + j)) (f 0)
theorem cc_writePage (ho : z_oC o) (hR : cR s v σ o) {a : Nat} (ha : z_kd a = (11, 71)) (hf : a < o ∨ o + 9 < a) : z_Cv 1 zm_City_writePage [.inr o, .inr a] σ (fun u => pgR s v (u.1 a) ∧ z_fr (fun q => q = a) σ u) := by
  refine z_Cv_of (by decide) (Nat.le_of_ble_eq_true rfl) (fun Γ hd he => ?_)
  show z_J Γ zm_City_writePage 0 [some (.inr o), some (.inr a), none] [] σ
  refine zb_City_writePage_0 ho ha (by omega) (k1 := 0) (z_ixn (by omega)) (i1 := 0) (j1 := 1) (l1 := 4) rfl rfl rfl (by decide) (by decide) ?_
  obtain ⟨σ0, hσ0⟩ : ∃ z, z = z_pI σ a 0 (σ.1 o 12) := ⟨_, rfl⟩
  rw [← hσ0]
  have F0 : z_fr (fun q => q = a) σ σ0 := by rw [hσ0]; exact z_fr.rf.pI rfl
  have g0 : σ0.1 a 0 = σ.1 o 12 := by rw [hσ0, z_pI_at]
  clear hσ0
  refine z_gen (fun σ1 h1 => ?_)
  have F1 : z_fr (fun q => q = a) σ σ1 := by rw [h1]; exact F0.pA rfl
  have c1 := z_cp h1
  clear h1
  refine zb_City_writePage_20 ho ha (by omega) (i1 := 0) (j1 := 5) (l1 := 12) rfl (by decide) rfl (by decide) (by decide) (z_gen (fun σ2 h2 => ?_))
  have F2 : z_fr (fun q => q = a) σ σ2 := by rw [h2]; exact F1.pA rfl
  have c2 := z_cp h2
  clear h2
  refine zb_City_writePage_35 ho ha (by omega) (i1 := 0) (j1 := 17) (l1 := 12) rfl (by decide) rfl (by decide) (by decide) (z_gen (fun σ3 h3 => ?_))
  have F3 : z_fr (fun q => q = a) σ σ3 := by rw [h3]; exact F2.pA rfl
  have c3 := z_cp h3
  clear h3
  refine zb_City_writePage_50 ho ha (by omega) (i1 := 0) (j1 := 29) (l1 := 12) rfl (by decide) rfl (by decide) (by decide) (z_gen (fun σ4 h4 => ?_))
  have F4 : z_fr (fun q => q = a) σ σ4 := by rw [h4]; exact F3.pA rfl
  have c4 := z_cp h4
  clear h4
  refine zb_City_writePage_65 ho ha (by omega) (i1 := 0) (j1 := 41) (l1 := 6) rfl (by decide) rfl (by decide) (by decide) (z_gen (fun σ5 h5 => ?_))
  have F5 : z_fr (fun q => q = a) σ σ5 := by rw [h5]; exact F4.pA rfl
  have c5 := z_cp h5
  clear h5
  refine zb_City_writePage_80 ho ha (by omega) (i1 := 0) (j1 := 47) (l1 := 24) rfl (by decide) rfl (by decide) (by decide) (z_gen (fun σ6 h6 => ?_))
  have F6 : z_fr (fun q => q = a) σ σ6 := by rw [h6]; exact F5.pA rfl
  have c6 := z_cp h6
  clear h6
  have fc : ∀ {τ : zS} {i : Nat}, z_fr (fun q => q = a) σ τ → i ≤ 9 → τ.1 (o + i) = σ.1 (o + i) := fun hF hi => (hF _ (by omega)).1
  refine zb_City_writePage_95 ?_
  rw [he]
  refine ⟨rfl, hR.2.2.congr hR.1 (fun b hb => ?_) (fun b hb => ?_) (fun b hb => ?_) (fun b hb => ?_) (fun b hb => ?_) (fun b hb => ?_) ?_, F6⟩
  · have := c2.1 b hb
    rw [Nat.zero_add] at this
    show σ6.1 a (5 + b) = _
    rw [c6.2.1 _ (by omega), c5.2.1 _ (by omega), c4.2.1 _ (by omega), c3.2.1 _ (by omega), this, fc F1 (by omega)]
  · have := c3.1 b hb
    rw [Nat.zero_add] at this
    show σ6.1 a (17 + b) = _
    rw [c6.2.1 _ (by omega), c5.2.1 _ (by omega), c4.2.1 _ (by omega), this, fc F2 (by omega)]
  · have := c4.1 b hb
    rw [Nat.zero_add] at this
    show σ6.1 a (29 + b) = _
    rw [c6.2.1 _ (by omega), c5.2.1 _ (by omega), this, fc F3 (by omega)]
  · have := c5.1 b hb
    rw [Nat.zero_add] at this
    show σ6.1 a (41 + b) = _
    rw [c6.2.1 _ (by omega), this, fc F4 (by omega)]
  · have := c6.1 b hb
    rw [Nat.zero_add] at this
    show σ6.1 a (47 + b) = _
    rw [this, fc F5 (by omega)]
  · have := c1.1 b hb
    rw [Nat.zero_add] at this
    show σ6.1 a (1 + b) = _
    rw [c6.2.1 _ (by omega), c5.2.1 _ (by omega), c4.2.1 _ (by omega), c3.2.1 _ (by omega), c2.2.1 _ (by omega), this, fc F0 (by omega)]
  · rw [c6.2.1 _ (by omega), c5.2.1 _ (by omega), c4.2.1 _ (by omega), c3.2.1 _ (by omega), c2.2.1 _ (by omega), c1.2.1 _ (by omega), g0]
/-- a page is read into a city that has the same books, columns, readers -/
theorem cc_readPage (ho : z_oC o) {w : aV} (hI : aI s w) (hS : cS s σ o) {a : Nat} (ha : z_kd a = (11, 71)) (hf : a < o ∨ o + 9 < a) (hP : pgR s w (σ.1 a)) : z_Cv 1 zm_City_readPage [.inr o, .inr a] σ (fun u => cR s w u o ∧ z_fr (z_F09 o) σ u) := by
  refine z_Cv_of (by decide) (Nat.le_of_ble_eq_true rfl) (fun Γ hd he => ?_)
  show z_J Γ zm_City_readPage 0 [some (.inr o), some (.inr a), none] [] σ
  refine zb_City_readPage_0 ho ha (by omega) (k1 := 0) (z_ixn (by omega)) (i1 := 1) (j1 := 0) (l1 := 4) rfl rfl rfl (by decide) (by decide) ?_
  obtain ⟨σ0, hσ0⟩ : ∃ z, z = z_pI σ o 12 (σ.1 a 0) := ⟨_, rfl⟩
  rw [← hσ0]
  have F0 : z_fr (z_F09 o) σ σ0 := by rw [hσ0]; exact z_fr.rf.pI (by show o ≤ _ ∧ _ ≤ o + 9; omega)
  have g12 : σ0.1 o 12 = σ.1 a 0 := by rw [hσ0, z_pI_at]
  have gk : ∀ k, k ≠ 12 → σ0.1 o k = σ.1 o k := fun k hk => by rw [hσ0, z_pI_ne2 hk]
  have gq : ∀ q, q ≠ o → σ0.1 q = σ.1 q := fun q hq => by rw [hσ0, z_pI_ne hq]
  clear hσ0
  refine z_gen (fun σ1 h1 => ?_)
  have F1 : z_fr (z_F09 o) σ σ1 := by rw [h1]; exact F0.pA (by show o ≤ _ ∧ _ ≤ o + 9; omega)
  have c1 := z_cp h1
  clear h1
  refine zb_City_readPage_20 ho ha (by omega) (i1 := 5) (j1 := 0) (l1 := 12) (by decide) rfl rfl (by decide) (by decide) (z_gen (fun σ2 h2 => ?_))
  have F2 : z_fr (z_F09 o) σ σ2 := by rw [h2]; exact F1.pA (by show o ≤ _ ∧ _ ≤ o + 9; omega)
  have c2 := z_cp h2
  clear h2
  refine zb_City_readPage_35 ho ha (by omega) (i1 := 17) (j1 := 0) (l1 := 12) (by decide) rfl rfl (by decide) (by decide) (z_gen (fun σ3 h3 => ?_))
  have F3 : z_fr (z_F09 o) σ σ3 := by rw [h3]; exact F2.pA (by show o ≤ _ ∧ _ ≤ o + 9; omega)
  have c3 := z_cp h3
  clear h3
  refine zb_City_readPage_50 ho ha (by omega) (i1 := 29) (j1 := 0) (l1 := 12) (by decide) rfl rfl (by decide) (by decide) (z_gen (fun σ4 h4 => ?_))
  have F4 : z_fr (z_F09 o) σ σ4 := by rw [h4]; exact F3.pA (by show o ≤ _ ∧ _ ≤ o + 9; omega)
  have c4 := z_cp h4
  clear h4
  refine zb_City_readPage_65 ho ha (by omega) (i1 := 41) (j1 := 0) (l1 := 6) (by decide) rfl rfl (by decide) (by decide) (z_gen (fun σ5 h5 => ?_))
  have F5 : z_fr (z_F09 o) σ σ5 := by rw [h5]; exact F4.pA (by show o ≤ _ ∧ _ ≤ o + 9; omega)
  have c5 := z_cp h5
  clear h5
  refine zb_City_readPage_80 ho ha (by omega) (i1 := 47) (j1 := 0) (l1 := 24) (by decide) rfl rfl (by decide) (by decide) (z_gen (fun σ6 h6 => ?_))
  have F6 : z_fr (z_F09 o) σ σ6 := by rw [h6]; exact F5.pA (by show o ≤ _ ∧ _ ≤ o + 9; omega)
  have c6 := z_cp h6
  clear h6
  have fa : ∀ {τ : zS}, z_fr (z_F09 o) σ τ → τ.1 a = σ.1 a := fun hF => (hF _ (by show ¬ (o ≤ _ ∧ _ ≤ o + 9); omega)).1
  have fo : σ6.1 o = σ0.1 o := by rw [c6.2.2.1 _ (by omega), c5.2.2.1 _ (by omega), c4.2.2.1 _ (by omega), c3.2.2.1 _ (by omega), c2.2.2.1 _ (by omega), c1.2.2.1 _ (by omega)]
  have fr : ∀ j, (j = 1 ∨ j = 2 ∨ j = 8) → σ6.1 (o + j) = σ.1 (o + j) := fun j hj => by rw [c6.2.2.1 _ (by omega), c5.2.2.1 _ (by omega), c4.2.2.1 _ (by omega), c3.2.2.1 _ (by omega), c2.2.2.1 _ (by omega), c1.2.2.1 _ (by omega), gq _ (by omega)]
  refine zb_City_readPage_95 ?_
  rw [he]
  refine ⟨rfl, ⟨hI, ?_, hP.congr hI (fun b hb => ?_) (fun b hb => ?_) (fun b hb => ?_) (fun b hb => ?_) (fun b hb => ?_) (fun b hb => ?_) ?_⟩, F6⟩
  · unfold cS
    rw [fo, gk 0 (by decide), gk 6 (by decide), gk 9 (by decide), fr 1 (by omega), fr 2 (by omega), fr 8 (by omega)]
    exact hS
  · have := c2.1 b hb
    rw [Nat.zero_add] at this
    rw [c6.2.2.1 _ (by omega), c5.2.2.1 _ (by omega), c4.2.2.1 _ (by omega), c3.2.2.1 _ (by omega), this, fa F1]
  · have := c3.1 b hb
    rw [Nat.zero_add] at this
    rw [c6.2.2.1 _ (by omega), c5.2.2.1 _ (by omega), c4.2.2.1 _ (by omega), this, fa F2]
  · have := c4.1 b hb
    rw [Nat.zero_add] at this
    rw [c6.2.2.1 _ (by omega), c5.2.2.1 _ (by omega), this, fa F3]
  · have := c5.1 b hb
    rw [Nat.zero_add] at this
    rw [c6.2.2.1 _ (by omega), this, fa F4]
  · have := c6.1 b hb
    rw [Nat.zero_add] at this
    rw [this, fa F5]
  · have := c1.1 b hb
    rw [Nat.zero_add] at this
    rw [c6.2.2.1 _ (by omega), c5.2.2.1 _ (by omega), c4.2.2.1 _ (by omega), c3.2.2.1 _ (by omega), c2.2.2.1 _ (by omega), this, fa F0]
  · rw [fo, g12]
end
