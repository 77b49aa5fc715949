/-! the model: an act is read -/
theorem g_bad {X : Nat → Nat} {L p : Nat} (hok : ∀ j, j < p → g_okk X j = true) (hp : p ≤ min L 60) (hs : p < min L 60 → g_ok (g_st X p) (X p) = false) (hf : g_fin (g_st X p) = false) (hL : L ≠ 0) : sc_b (g_okk X) (decide (L = 0) || g_fin (g_st X L)) L = some p := by
  by_cases q : p < min L 60
  · refine sc_b_at hok (by omega) ?_
    unfold g_okk
    rw [hs q, Bool.and_false]
  · by_cases q2 : 60 < L
    · have e : p = 60 := by omega
      refine sc_b_at hok (by omega) ?_
      unfold g_okk
      rw [decide_eq_false (fun z => z e)]
      rfl
    · have e : p = L := by omega
      subst e
      rw [sc_b_end hok, decide_eq_false hL, hf]
      rfl
theorem g_next {X : Nat → Nat} {j : Nat} (hok : ∀ i, i < j → g_okk X i = true) (hj : j < 60) (hg : g_ok (g_st X j) (X j) = true) : ∀ i, i < j + 1 → g_okk X i = true := by
  intro i hi
  by_cases e : i = j
  · subst e
    unfold g_okk
    rw [hg, decide_eq_true (by omega)]
    rfl
  · exact hok i (by omega)
/-- in the midst of an act -/
def gP (X : Nat → Nat) (j : Nat) (D : List gA) (a : gA) (g : Bool) : Prop := (∀ i, i < j → g_okk X i = true) ∧ g_st X j = (D, some a, g)
section
variable {X : Nat → Nat} {L j : Nat} {D : List gA} {a : gA} {g : Bool}
theorem gP.one (h : gP X j D a g) (hp : g_po a.1 a.2.length = 1) (hj : j < 60) (hc : 97 ≤ X j ∧ X j < 109) : gP X (j + 1) D (a.1, a.2 ++ [X j - 97]) false := by
  refine ⟨g_next h.1 hj ?_, ?_⟩
  · rw [h.2]
    simp only [g_ok, hp, if_true]
    exact decide_eq_true hc
  · rw [g_st, h.2]
    simp only [g_go, hp, if_true]
theorem gP.two (h : gP X j D a g) (hp : g_po a.1 a.2.length = 2) (hj : j < 60) (hc : 48 ≤ X j ∧ X j < 58) : gP X (j + 1) D (a.1, a.2 ++ [X j - 48]) false := by
  refine ⟨g_next h.1 hj ?_, ?_⟩
  · rw [h.2]
    simp [g_ok, hp]
    exact hc
  · rw [g_st, h.2]
    simp [g_go, hp]
theorem gP.thr (h : gP X j D a g) (hp : g_po a.1 a.2.length = 3) (hj : j < 60) (hc : 48 ≤ X j ∧ X j < 58) : gP X (j + 1) D (a.1, a.2 ++ [X j - 48]) true := by
  refine ⟨g_next h.1 hj ?_, ?_⟩
  · rw [h.2]
    simp [g_ok, hp]
    exact hc
  · rw [g_st, h.2]
    simp [g_go, hp]
theorem gP.gro {k : Nat} {ps : List Nat} {y : Nat} (h : gP X j D (k, ps ++ [y]) true) (hp : g_po k (ps.length + 1) = 0) (hj : j < 60) (hc : 48 ≤ X j ∧ X j < 58) : gP X (j + 1) D (k, ps ++ [10 * y + (X j - 48)]) false := by
  have e1 : (ps ++ [y]).length = ps.length + 1 := by simp
  refine ⟨g_next h.1 hj ?_, ?_⟩
  · rw [h.2]
    simp [g_ok, e1, hp]
    omega
  · rw [g_st, h.2]
    have e2 : (ps ++ [y]).getD ((ps ++ [y]).length - 1) 0 = y := by rw [l_app_getD, e1, if_neg (by omega), if_pos (by omega)]
    have e3 : ¬ X j = 59 := by omega
    simp only [g_go, e1, hp, e3]
    rw [if_neg (by decide), if_neg (by decide), if_neg (by decide), if_neg (by simp)]
    rw [e1] at e2
    rw [e2]
    simp
    omega
theorem gP.bad (h : gP X j D a g) (hp : ¬ g_po a.1 a.2.length = 0) (hj : j ≤ min L 60) (hL : L ≠ 0) (hc : j < min L 60 → g_ok (D, some a, g) (X j) = false) : sc_b (g_okk X) (decide (L = 0) || g_fin (g_st X L)) L = some j := by
  refine g_bad h.1 hj (fun q => by rw [h.2]; exact hc q) ?_ hL
  rw [h.2]
  exact decide_eq_false hp
/-- nothing but ; can follow -/
theorem gP.stop (h : gP X j D a g) (hp : g_po a.1 a.2.length = 0) (hc : g = true → ¬ (48 ≤ X j ∧ X j < 58)) (h59 : X j ≠ 59) : g_okk X j = false := by
  unfold g_okk
  rw [h.2]
  have : g_ok (D, some a, g) (X j) = false := by
    simp only [g_ok, hp]
    rw [if_neg (by decide), if_neg (by decide), decide_eq_false h59, Bool.false_or]
    cases g with
    | false => rfl
    | true => rw [decide_eq_false (hc rfl)]; rfl
  rw [this, Bool.and_false]
end
theorem d_num2 {M : Nat} {X : Nat → Nat} {j : Nat} (h : j < M ∧ 48 ≤ X j ∧ X j < 58) : d_num M X 2 (j, none) = if j + 1 < M ∧ 48 ≤ X (j + 1) ∧ X (j + 1) < 58 then (10 * (X j - 48) + (X (j + 1) - 48), (j + 2, none)) else (X j - 48, (j + 1, none)) := by
  have e1 : d_one M X 48 10 (j, none) = (X j - 48, (j + 1, none)) := by
    unfold d_one
    rw [if_pos rfl, if_pos ⟨h.1, h.2.1, by have := h.2.2; omega⟩]
  show d_dig M X 1 (d_one M X 48 10 (j, none)).1 (d_one M X 48 10 (j, none)).2 = _
  rw [e1]
  show d_dig M X 1 (X j - 48) (j + 1, none) = _
  rw [d_dig]
  by_cases q : j + 1 < M ∧ 48 ≤ X (j + 1) ∧ X (j + 1) < 58
  · rw [if_pos ⟨rfl, q⟩, if_pos q]
    rfl
  · rw [if_neg (fun z => q z.2), if_neg q]
theorem d_num2n {M : Nat} {X : Nat → Nat} {j : Nat} (h : ¬ (j < M ∧ 48 ≤ X j ∧ X j < 58)) : d_num M X 2 (j, none) = (0, (j, some j)) := by
  have e1 : d_one M X 48 10 (j, none) = (0, (j, some j)) := by
    unfold d_one
    rw [if_pos rfl, if_neg (fun z => h ⟨z.1, z.2.1, by have := z.2.2; omega⟩)]
    rfl
  show d_dig M X 1 (d_one M X 48 10 (j, none)).1 (d_one M X 48 10 (j, none)).2 = _
  rw [e1]
  show d_dig M X 1 0 (j, some j) = _
  rw [d_dig, if_neg (fun z => absurd z.1 (by simp))]
theorem d_onet {M : Nat} {X : Nat → Nat} {j f m : Nat} (h : j < M ∧ f ≤ X j ∧ X j < f + m) : d_one M X f m (j, none) = (X j - f, (j + 1, none)) := by
  unfold d_one
  rw [if_pos rfl, if_pos h]
theorem d_onef {M : Nat} {X : Nat → Nat} {j f m : Nat} (h : ¬ (j < M ∧ f ≤ X j ∧ X j < f + m)) : d_one M X f m (j, none) = (0, (j, some j)) := by
  unfold d_one
  rw [if_pos rfl, if_neg h]
  rfl
theorem l_app1 {l : List Nat} {y : Nat} {σ : zS} {k : Nat} (h : ∀ t, t < l.length → σ.1 79 (k + t) = nI (l.getD t 0)) : ∀ t, t < (l ++ [y]).length → (z_pI σ 79 (k + l.length) (nI y)).1 79 (k + t) = nI ((l ++ [y]).getD t 0) := by
  intro t ht
  simp only [List.length_append, List.length_cons, List.length_nil] at ht
  rw [l_app_getD]
  by_cases e : t = l.length
  · subst e
    rw [z_pI_at, if_neg (by omega), if_pos rfl]
  · rw [z_pI_ne2 (by omega), if_pos (by omega)]
    exact h t (by omega)
section
variable {σ τ : zS}
/-- what reading an act leaves -/
def gO (X : Nat → Nat) (L n i : Nat) (D : List gA) (τ : zS) (u : zS) : Prop := ∃ τ' q', u = p_s τ' q' ∧ zT (fun o => o = 79) τ τ' ∧ (∀ k, k < 4 * n → τ'.1 79 k = τ.1 79 k) ∧ ((∃ a p, q' = (a, some p) ∧ a ≤ 80 ∧ p ≤ 80 ∧ sc_b (g_okk X) (decide (L = 0) || g_fin (g_st X L)) L = some p) ∨ (∃ j a g, q' = (j, none) ∧ i < j ∧ j ≤ min L 60 ∧ gP X j D a g ∧ g_po a.1 a.2.length = 0 ∧ τ'.1 79 (4 * n) = nI a.1 ∧ (∀ t, t < a.2.length → τ'.1 79 (4 * n + 1 + t) = nI (a.2.getD t 0)) ∧ (j < min L 60 → X j ≠ 59 → g_okk X j = false)))
theorem mc_readAct {X : Nat → Nat} {L n i : Nat} {D : List gA} {g0 : Bool} {qa : Bool} {e : Nat → Int32} (hL : L ≤ 80) (hL0 : L ≠ 0) (hC : rd_C (min L 60) X qa e τ) (hr12 : τ.2 63 12 = 68) (hok : ∀ j, j < i → g_okk X j = true) (hi : i ≤ min L 60) (hst : g_st X i = (D, none, g0)) (hn : n ≤ 20) : z_Cv 5 zm_Model_readAct [.inr 63, .inl (nI (4 * n))] (p_s τ (i, none)) (gO X L n i D τ) := by
  refine z_Cv_of (by decide) (Nat.le_of_ble_eq_true rfl) (fun Γ hd he => ?_)
  show z_J Γ zm_Model_readAct 0 [some (.inr 63), some (.inl (nI (4 * n))), none] [] (p_s τ (i, none))
  have hM80 : min L 60 ≤ 60 := by omega
  have hqn : ∀ a, a ≤ min L 60 → d_ok (min L 60) (a, none) := fun a ha => ⟨ha, fun p hp => by cases hp⟩
  have CT : ∀ τ', zT (fun o => o = 79) τ τ' → rd_C (min L 60) X qa e τ' := fun τ' hT => hC.kT hT (by decide) (by decide) (by rw [hr12]; decide)
  -- behind a fault
  have bad160 : ∀ (a p : Nat) (τ' : zS), zT (fun o => o = 79) τ τ' → (∀ k, k < 4 * n → τ'.1 79 k = τ.1 79 k) → a ≤ 80 → p ≤ 80 → sc_b (g_okk X) (decide (L = 0) || g_fin (g_st X L)) L = some p → z_J Γ zm_Model_readAct 160 [none, none, none] [] (p_s τ' (a, some p)) := by
    intro a p τ' hT hk ha hp hb
    refine zb_Model_readAct_160 ?_
    rw [he]
    exact ⟨rfl, τ', (a, some p), rfl, hT, hk, Or.inl ⟨a, p, rfl, ha, hp, hb⟩⟩
  have w79 : ∀ (τ' : zS) (k : Nat) (y : Int32), zT (fun o => o = 79) τ τ' → (∀ k, k < 4 * n → τ'.1 79 k = τ.1 79 k) → 4 * n ≤ k → zT (fun o => o = 79) τ (z_pI τ' 79 k y) ∧ ∀ k', k' < 4 * n → (z_pI τ' 79 k y).1 79 k' = τ.1 79 k' := fun τ' k y hT hk hle => ⟨hT.pI rfl, fun k' hk' => by rw [z_pI_ne2 (by omega)]; exact hk k' hk'⟩
  have bad141 : ∀ (x2 : Int32) (a p : Nat) (τ' : zS), zT (fun o => o = 79) τ τ' → (∀ k, k < 4 * n → τ'.1 79 k = τ.1 79 k) → a ≤ 80 → p ≤ 80 → sc_b (g_okk X) (decide (L = 0) || g_fin (g_st X L)) L = some p → z_J Γ zm_Model_readAct 141 [some (.inr 63), some (.inl (nI (4 * n))), some (.inl x2)] [] (p_s τ' (a, some p)) := by
    intro x2 a p τ' hT hk ha hp hb
    refine zb_Model_readAct_141 (fun _ => bad160 a p τ' hT hk ha hp hb) (fun _ => ?_)
    refine zb_Model_readAct_147 (mf_number (by omega) _) (by omega) (fun r u hr => ?_)
    obtain ⟨rfl, rfl⟩ := hr
    refine zb_Model_readAct_159 (k1 := 4 * n + 3) ⟨nI_add _ _, by omega⟩ ?_
    rw [p_s_pI _ _ (by decide)]
    obtain ⟨w1, w2⟩ := w79 τ' (4 * n + 3) (nI 0) hT hk (by omega)
    exact bad160 a p _ w1 w2 ha hp hb
  have bad125 : ∀ (x2 : Int32) (a p : Nat) (τ' : zS), zT (fun o => o = 79) τ τ' → (∀ k, k < 4 * n → τ'.1 79 k = τ.1 79 k) → a ≤ 80 → p ≤ 80 → sc_b (g_okk X) (decide (L = 0) || g_fin (g_st X L)) L = some p → z_J Γ zm_Model_readAct 125 [some (.inr 63), some (.inl (nI (4 * n))), some (.inl x2)] [] (p_s τ' (a, some p)) := by
    intro x2 a p τ' hT hk ha hp hb
    refine zb_Model_readAct_125 (mf_oneOf (by omega) _ _) (by omega) (fun r u hr => ?_)
    obtain ⟨rfl, rfl⟩ := hr
    refine zb_Model_readAct_140 (k1 := 4 * n + 2) ⟨nI_add _ _, by omega⟩ ?_
    rw [p_s_pI _ _ (by decide)]
    obtain ⟨w1, w2⟩ := w79 τ' (4 * n + 2) (nI 0) hT hk (by omega)
    exact bad141 x2 a p _ w1 w2 ha hp hb
  have bad106 : ∀ (x2 y : Int32) (a p : Nat) (τ' : zS), zT (fun o => o = 79) τ τ' → (∀ k, k < 4 * n → τ'.1 79 k = τ.1 79 k) → a ≤ 80 → p ≤ 80 → sc_b (g_okk X) (decide (L = 0) || g_fin (g_st X L)) L = some p → z_J Γ zm_Model_readAct 106 [some (.inr 63), some (.inl (nI (4 * n))), some (.inl x2)] [.inl y, .inl (nI (4 * n) + nI 1), .inr 79] (p_s τ' (a, some p)) := by
    intro x2 y a p τ' hT hk ha hp hb
    obtain ⟨w1, w2⟩ := w79 τ' (4 * n + 1) y hT hk (by omega)
    refine zb_Model_readAct_106 (k1 := 4 * n + 1) ⟨nI_add _ _, by omega⟩ (fun _ => ?_) (fun _ => ?_)
    · rw [p_s_pI _ _ (by decide)]
      exact bad125 x2 a p _ w1 w2 ha hp hb
    · rw [p_s_pI _ _ (by decide)]
      refine zb_Model_readAct_113 (fun _ => bad125 x2 a p _ w1 w2 ha hp hb) (fun _ => ?_)
      exact zb_Model_readAct_119 (fun _ => bad141 x2 a p _ w1 w2 ha hp hb) (fun _ => bad125 x2 a p _ w1 w2 ha hp hb)
  have bad43 : ∀ (x2 : Int32) (a p : Nat), a < 80 → p ≤ 80 → sc_b (g_okk X) (decide (L = 0) || g_fin (g_st X L)) L = some p → z_J Γ zm_Model_readAct 43 [some (.inr 63), some (.inl (nI (4 * n))), some (.inl x2)] [] (p_s τ (a, some p)) := by
    intro x2 a p ha hp hb
    obtain ⟨w1, w2⟩ := w79 τ (4 * n) x2 zT.rf (fun _ _ => rfl) (by omega)
    refine zb_Model_readAct_43 (k1 := 4 * n) (z_ixn (by omega)) (fun _ => ?_) (fun _ => ?_)
    · rw [p_s_at1, p_s_pI _ _ (by decide)]
      refine zb_Model_readAct_81 (fun _ => ?_) (fun _ => ?_)
      · refine zb_Model_readAct_98 (mf_oneOf (by omega) _ _) (by omega) (fun r u hr => ?_)
        obtain ⟨rfl, rfl⟩ := hr
        exact bad106 x2 _ (a + 1) p _ w1 w2 (by omega) hp hb
      · refine zb_Model_readAct_87 (mf_oneOf (by omega) _ _) (by omega) (fun r u hr => ?_)
        obtain ⟨rfl, rfl⟩ := hr
        exact zb_Model_readAct_95 (bad106 x2 _ (a + 1) p _ w1 w2 (by omega) hp hb)
    · rw [p_s_at1, p_s_pI _ _ (by decide)]
      refine zb_Model_readAct_73 (mf_number (by omega) _) (by omega) (fun r u hr => ?_)
      obtain ⟨rfl, rfl⟩ := hr
      exact zb_Model_readAct_78 (bad106 x2 _ (a + 1) p _ w1 w2 (by omega) hp hb)
  -- an act is whole
  have good : ∀ (j : Nat) (a : gA) (g : Bool) (τ' : zS), zT (fun o => o = 79) τ τ' → (∀ k, k < 4 * n → τ'.1 79 k = τ.1 79 k) → i < j → j ≤ min L 60 → gP X j D a g → g_po a.1 a.2.length = 0 → τ'.1 79 (4 * n) = nI a.1 → (∀ t, t < a.2.length → τ'.1 79 (4 * n + 1 + t) = nI (a.2.getD t 0)) → (j < min L 60 → g = true → ¬ (48 ≤ X j ∧ X j < 58)) → z_J Γ zm_Model_readAct 160 [none, none, none] [] (p_s τ' (j, none)) := by
    intro j a g τ' hT hk hij hj hP hp h0 ht hg
    refine zb_Model_readAct_160 ?_
    rw [he]
    exact ⟨rfl, τ', (j, none), rfl, hT, hk, Or.inr ⟨j, a, g, rfl, hij, hj, hP, hp, h0, ht, fun q q2 => hP.stop hp (hg q) q2⟩⟩
  have no_ok1 : ∀ {a : gA} {g : Bool} {c : Nat}, g_po a.1 a.2.length = 1 → ¬ (97 ≤ c ∧ c < 109) → g_ok (D, some a, g) c = false := fun hp hc => by
    simp only [g_ok, hp, if_true]
    exact decide_eq_false hc
  have no_ok23 : ∀ {a : gA} {g : Bool} {c : Nat}, (g_po a.1 a.2.length = 2 ∨ g_po a.1 a.2.length = 3) → ¬ (48 ≤ c ∧ c < 58) → g_ok (D, some a, g) c = false := fun hp hc => by
    have h1 : ¬ g_po _ _ = 1 := fun z => by rw [z] at hp; omega
    simp only [g_ok]
    rw [if_neg h1, if_pos hp]
    exact decide_eq_false hc
  -- the last number of a lending
  have at141 : ∀ (j : Nat) (a : gA) (g : Bool) (τ' : zS), zT (fun o => o = 79) τ τ' → (∀ k, k < 4 * n → τ'.1 79 k = τ.1 79 k) → i < j → j ≤ min L 60 → gP X j D a g → a.1 < 256 → τ'.1 79 (4 * n) = nI a.1 → (∀ t, t < a.2.length → τ'.1 79 (4 * n + 1 + t) = nI (a.2.getD t 0)) → ((a.1 ≠ 111 ∧ g_po a.1 a.2.length = 0) ∨ (a.1 = 111 ∧ a.2.length = 2)) → (j < min L 60 → g = true → ¬ (48 ≤ X j ∧ X j < 58)) → z_J Γ zm_Model_readAct 141 [some (.inr 63), some (.inl (nI (4 * n))), some (.inl (nI a.1))] [] (p_s τ' (j, none)) := by
    intro j a g τ' hT hk hij hj hP h256 h0 ht hor hg
    refine zb_Model_readAct_141 (fun q => ?_) (fun q => ?_)
    · rw [zn_eq (by omega) (by omega)] at q
      rcases hor with ⟨-, hp⟩ | ⟨e, -⟩
      · exact good j a g τ' hT hk hij hj hP hp h0 ht hg
      · exact absurd e q
    · rw [zn_eq (by omega) (by omega)] at q
      obtain ⟨-, hl⟩ : a.1 = 111 ∧ a.2.length = 2 := by
        rcases hor with ⟨e, -⟩ | e
        · exact absurd q e
        · exact e
      have hp3 : g_po a.1 a.2.length = 3 := by rw [q, hl]; decide
      refine zb_Model_readAct_147 (mc_number (CT τ' hT) (hqn j hj) (by decide) (by decide)) (by omega) (fun r u hr => ?_)
      by_cases hd : j < min L 60 ∧ 48 ≤ X j ∧ X j < 58
      · rw [d_num2 hd] at hr
        have P1 := hP.thr hp3 (by omega) hd.2
        have hp0 : g_po a.1 (a.2.length + 1) = 0 := by rw [q, hl]; decide
        by_cases hd2 : j + 1 < min L 60 ∧ 48 ≤ X (j + 1) ∧ X (j + 1) < 58
        · rw [if_pos hd2] at hr
          obtain ⟨rfl, rfl⟩ := hr
          refine zb_Model_readAct_159 (k1 := 4 * n + 3) ⟨nI_add _ _, by omega⟩ ?_
          rw [p_s_pI _ _ (by decide)]
          have P2 := P1.gro hp0 (by omega) hd2.2
          obtain ⟨w1, w2⟩ := w79 τ' (4 * n + 3) (nI (10 * (X j - 48) + (X (j + 1) - 48))) hT hk (by omega)
          refine good (j + 2) _ false _ w1 w2 (by omega) (by omega) P2 (by simp; exact hp0) (by rw [z_pI_ne2 (by omega)]; exact h0) ?_ (fun _ z => absurd z (by decide))
          have := l_app1 (y := 10 * (X j - 48) + (X (j + 1) - 48)) ht
          rw [hl] at this
          exact this
        · rw [if_neg hd2] at hr
          obtain ⟨rfl, rfl⟩ := hr
          refine zb_Model_readAct_159 (k1 := 4 * n + 3) ⟨nI_add _ _, by omega⟩ ?_
          rw [p_s_pI _ _ (by decide)]
          obtain ⟨w1, w2⟩ := w79 τ' (4 * n + 3) (nI (X j - 48)) hT hk (by omega)
          refine good (j + 1) _ true _ w1 w2 (by omega) (by omega) P1 (by simp; exact hp0) (by rw [z_pI_ne2 (by omega)]; exact h0) ?_ (fun z1 _ z2 => hd2 ⟨z1, z2⟩)
          have := l_app1 (y := X j - 48) ht
          rw [hl] at this
          exact this
      · rw [d_num2n hd] at hr
        obtain ⟨rfl, rfl⟩ := hr
        refine zb_Model_readAct_159 (k1 := 4 * n + 3) ⟨nI_add _ _, by omega⟩ ?_
        rw [p_s_pI _ _ (by decide)]
        obtain ⟨w1, w2⟩ := w79 τ' (4 * n + 3) (nI 0) hT hk (by omega)
        exact bad160 j j _ w1 w2 (by omega) (by omega) (hP.bad (by omega) hj hL0 (fun z => no_ok23 (Or.inr hp3) (fun z2 => hd ⟨z, z2⟩)))
  -- the second part, a digit
  have at125 : ∀ (j : Nat) (a : gA) (g : Bool) (τ' : zS), zT (fun o => o = 79) τ τ' → (∀ k, k < 4 * n → τ'.1 79 k = τ.1 79 k) → i < j → j ≤ min L 60 → gP X j D a g → (a.1 = 108 ∨ a.1 = 111 ∨ a.1 = 115) → a.2.length = 1 → τ'.1 79 (4 * n) = nI a.1 → (∀ t, t < a.2.length → τ'.1 79 (4 * n + 1 + t) = nI (a.2.getD t 0)) → z_J Γ zm_Model_readAct 125 [some (.inr 63), some (.inl (nI (4 * n))), some (.inl (nI a.1))] [] (p_s τ' (j, none)) := by
    intro j a g τ' hT hk hij hj hP hka hl h0 ht
    have hp2 : g_po a.1 a.2.length = 2 := by
      rw [hl]
      rcases hka with z | z | z <;> rw [z] <;> decide
    refine zb_Model_readAct_125 (mc_oneOf (CT τ' hT) (hqn j hj) (f := 48) (m := 10) (by decide) (by decide)) (by omega) (fun r u hr => ?_)
    by_cases hd : j < min L 60 ∧ 48 ≤ X j ∧ X j < 48 + 10
    · rw [d_onet hd] at hr
      obtain ⟨rfl, rfl⟩ := hr
      refine zb_Model_readAct_140 (k1 := 4 * n + 2) ⟨nI_add _ _, by omega⟩ ?_
      rw [p_s_pI _ _ (by decide)]
      have P1 := hP.two hp2 (by omega) (by omega)
      obtain ⟨w1, w2⟩ := w79 τ' (4 * n + 2) (nI (X j - 48)) hT hk (by omega)
      refine at141 (j + 1) (a.1, a.2 ++ [X j - 48]) false _ w1 w2 (by omega) (by omega) P1 (by show a.1 < 256; omega) (by rw [z_pI_ne2 (by omega)]; exact h0) ?_ ?_ (fun _ z => absurd z (by decide))
      · have := l_app1 (y := X j - 48) ht
        rw [hl] at this
        exact this
      · by_cases z : a.1 = 111
        · exact Or.inr ⟨z, by simp; exact hl⟩
        · refine Or.inl ⟨z, ?_⟩
          simp only [List.length_append, List.length_cons, List.length_nil, hl]
          rcases hka with z2 | z2 | z2 <;> rw [z2] at z ⊢ <;> first | decide | exact absurd rfl z
    · rw [d_onef hd] at hr
      obtain ⟨rfl, rfl⟩ := hr
      refine zb_Model_readAct_140 (k1 := 4 * n + 2) ⟨nI_add _ _, by omega⟩ ?_
      rw [p_s_pI _ _ (by decide)]
      obtain ⟨w1, w2⟩ := w79 τ' (4 * n + 2) (nI 0) hT hk (by omega)
      exact bad141 _ j j _ w1 w2 (by omega) (by omega) (hP.bad (by omega) hj hL0 (fun z => no_ok23 (Or.inl hp2) (fun z2 => hd ⟨z, z2.1, by omega⟩)))
  -- behind the first part
  have at106 : ∀ (j y : Nat) (k : Nat) (g : Bool) (τ' : zS), zT (fun o => o = 79) τ τ' → (∀ k, k < 4 * n → τ'.1 79 k = τ.1 79 k) → i < j → j ≤ min L 60 → gP X j D (k, [y]) g → g_kd k → τ'.1 79 (4 * n) = nI k → (j < min L 60 → g = true → ¬ (48 ≤ X j ∧ X j < 58)) → z_J Γ zm_Model_readAct 106 [some (.inr 63), some (.inl (nI (4 * n))), some (.inl (nI k))] [.inl (nI y), .inl (nI (4 * n) + nI 1), .inr 79] (p_s τ' (j, none)) := by
    intro j y k g τ' hT hk hij hj hP hkd h0 hg
    have h256 : k < 256 := by rcases hkd with z | z | z | z | z <;> omega
    obtain ⟨w1, w2⟩ := w79 τ' (4 * n + 1) (nI y) hT hk (by omega)
    have h0' : (z_pI τ' 79 (4 * n + 1) (nI y)).1 79 (4 * n) = nI k := by rw [z_pI_ne2 (by omega)]; exact h0
    have ht' : ∀ t, t < [y].length → (z_pI τ' 79 (4 * n + 1) (nI y)).1 79 (4 * n + 1 + t) = nI ([y].getD t 0) := fun t ht => by
      have : t = 0 := by simp at ht; exact ht
      subst this
      exact z_pI_at _ _ _ _
    refine zb_Model_readAct_106 (k1 := 4 * n + 1) ⟨nI_add _ _, by omega⟩ (fun q => ?_) (fun q => ?_)
    · rw [zn_eq (by omega) (by omega)] at q
      rw [p_s_pI _ _ (by decide)]
      exact at125 j (k, [y]) g _ w1 w2 hij hj hP (Or.inl q) rfl h0' ht'
    · rw [zn_eq (by omega) (by omega)] at q
      rw [p_s_pI _ _ (by decide)]
      refine zb_Model_readAct_113 (fun q2 => ?_) (fun q2 => ?_)
      · rw [zn_eq (by omega) (by omega)] at q2
        exact at125 j (k, [y]) g _ w1 w2 hij hj hP (Or.inr (Or.inl q2)) rfl h0' ht'
      · rw [zn_eq (by omega) (by omega)] at q2
        refine zb_Model_readAct_119 (fun q3 => ?_) (fun q3 => ?_)
        · rw [zn_eq (by omega) (by omega)] at q3
          refine at141 j (k, [y]) g _ w1 w2 hij hj hP h256 h0' ht' (Or.inl ⟨q2, ?_⟩) hg
          rcases hkd with z | z | z | z | z
          · exact absurd z q
          · exact absurd z q2
          · show g_po k 1 = 0; rw [z]; decide
          · exact absurd z q3
          · show g_po k 1 = 0; rw [z]; decide
        · rw [zn_eq (by omega) (by omega)] at q3
          exact at125 j (k, [y]) g _ w1 w2 hij hj hP (Or.inr (Or.inr q3)) rfl h0' ht'
  -- an act begins
  have begin43 : ∀ k, i < min L 60 → X i = k → g_kd k → z_J Γ zm_Model_readAct 43 [some (.inr 63), some (.inl (nI (4 * n))), some (.inl (nI k))] [] (p_s τ (i, none)) := by
    intro k hiM hXk hkd
    have h256 : k < 256 := by rcases hkd with z | z | z | z | z <;> omega
    have P0 : gP X (i + 1) D (k, []) g0 := by
      refine ⟨g_next hok (by omega) ?_, ?_⟩
      · rw [hst, hXk]
        exact decide_eq_true hkd
      · rw [g_st, hst, hXk]
        rfl
    obtain ⟨w1, w2⟩ := w79 τ (4 * n) (nI k) zT.rf (fun _ _ => rfl) (by omega)
    have h0' : (z_pI τ 79 (4 * n) (nI k)).1 79 (4 * n) = nI k := z_pI_at _ _ _ _
    have hi1 : i + 1 ≤ min L 60 := by omega
    refine zb_Model_readAct_43 (k1 := 4 * n) (z_ixn (by omega)) (fun q => ?_) (fun q => ?_)
    · rw [zn_eq (by omega) (by omega)] at q
      rw [p_s_at1, p_s_pI _ _ (by decide)]
      refine zb_Model_readAct_81 (fun q2 => ?_) (fun q2 => ?_)
      · rw [zn_eq (by omega) (by omega)] at q2
        have hp1 : g_po k 0 = 1 := by
          rcases hkd with z | z | z | z | z
          · rw [z]; decide
          · rw [z]; decide
          · rw [z]; decide
          · exact absurd z q2
          · exact absurd z q
        refine zb_Model_readAct_98 (mc_oneOf (CT _ w1) (hqn (i + 1) hi1) (f := 97) (m := 12) (by decide) (by decide)) (by omega) (fun r u hr => ?_)
        by_cases hd : i + 1 < min L 60 ∧ 97 ≤ X (i + 1) ∧ X (i + 1) < 97 + 12
        · rw [d_onet hd] at hr
          obtain ⟨rfl, rfl⟩ := hr
          exact at106 (i + 2) _ k false _ w1 w2 (by omega) (by omega) (P0.one hp1 (by omega) (by omega)) hkd h0' (fun _ z => absurd z (by decide))
        · rw [d_onef hd] at hr
          obtain ⟨rfl, rfl⟩ := hr
          exact bad106 _ _ (i + 1) (i + 1) _ w1 w2 (by omega) (by omega) (P0.bad (by show ¬ g_po k 0 = 0; omega) hi1 hL0 (fun z => no_ok1 hp1 (fun z2 => hd ⟨z, z2.1, by omega⟩)))
      · rw [zn_eq (by omega) (by omega)] at q2
        have hp2 : g_po k 0 = 2 := by rw [q2]; decide
        refine zb_Model_readAct_87 (mc_oneOf (CT _ w1) (hqn (i + 1) hi1) (f := 48) (m := 10) (by decide) (by decide)) (by omega) (fun r u hr => ?_)
        by_cases hd : i + 1 < min L 60 ∧ 48 ≤ X (i + 1) ∧ X (i + 1) < 48 + 10
        · rw [d_onet hd] at hr
          obtain ⟨rfl, rfl⟩ := hr
          exact zb_Model_readAct_95 (at106 (i + 2) _ k false _ w1 w2 (by omega) (by omega) (P0.two hp2 (by omega) (by omega)) hkd h0' (fun _ z => absurd z (by decide)))
        · rw [d_onef hd] at hr
          obtain ⟨rfl, rfl⟩ := hr
          exact zb_Model_readAct_95 (bad106 _ _ (i + 1) (i + 1) _ w1 w2 (by omega) (by omega) (P0.bad (by show ¬ g_po k 0 = 0; omega) hi1 hL0 (fun z => no_ok23 (Or.inl hp2) (fun z2 => hd ⟨z, z2.1, by omega⟩))))
    · rw [zn_eq (by omega) (by omega)] at q
      rw [p_s_at1, p_s_pI _ _ (by decide)]
      have hp3 : g_po k 0 = 3 := by rw [q]; decide
      have hp0 : g_po k 1 = 0 := by rw [q]; decide
      refine zb_Model_readAct_73 (mc_number (CT _ w1) (hqn (i + 1) hi1) (by decide) (by decide)) (by omega) (fun r u hr => ?_)
      by_cases hd : i + 1 < min L 60 ∧ 48 ≤ X (i + 1) ∧ X (i + 1) < 58
      · rw [d_num2 hd] at hr
        have P1 := P0.thr hp3 (by omega) hd.2
        by_cases hd2 : i + 1 + 1 < min L 60 ∧ 48 ≤ X (i + 1 + 1) ∧ X (i + 1 + 1) < 58
        · rw [if_pos hd2] at hr
          obtain ⟨rfl, rfl⟩ := hr
          exact zb_Model_readAct_78 (at106 (i + 1 + 2) _ k false _ w1 w2 (by omega) (by omega) (gP.gro (ps := []) P1 hp0 (by omega) hd2.2) hkd h0' (fun _ z => absurd z (by decide)))
        · rw [if_neg hd2] at hr
          obtain ⟨rfl, rfl⟩ := hr
          exact zb_Model_readAct_78 (at106 (i + 1 + 1) _ k true _ w1 w2 (by omega) (by omega) P1 hkd h0' (fun z1 _ z2 => hd2 ⟨z1, z2⟩))
      · rw [d_num2n hd] at hr
        obtain ⟨rfl, rfl⟩ := hr
        exact zb_Model_readAct_78 (bad106 _ _ (i + 1) (i + 1) _ w1 w2 (by omega) (by omega) (P0.bad (by show ¬ g_po k 0 = 0; omega) hi1 hL0 (fun z => no_ok23 (Or.inr hp3) (fun z2 => hd ⟨z, z2⟩))))
  refine zb_Model_readAct_0 (mc_here hC (hqn i hi)) (by omega) (fun r u hr => ?_)
  obtain ⟨rfl, rfl⟩ := hr
  have hT256 : ∀ i, i < min L 60 → X i < 256 := fun i hi => hC.T256 hi
  have hhe : ∀ c, c < 256 → (d_he (min L 60) X i = nI c ↔ i < min L 60 ∧ X i = c) := fun c hc => d_he_ne hT256 (by omega)
  have go : ∀ c, c < 256 → g_kd c → d_he (min L 60) X i = nI c → z_J Γ zm_Model_readAct 43 [some (.inr 63), some (.inl (nI (4 * n))), some (.inl (d_he (min L 60) X i))] [] (p_s τ (i, none)) := fun c hc hk z => by
    obtain ⟨z1, z2⟩ := (hhe c hc).mp z
    rw [z]
    exact begin43 c z1 z2 hk
  refine zb_Model_readAct_4 (fun z => go 108 (by decide) (Or.inl rfl) z) (fun n1 => ?_)
  refine zb_Model_readAct_11 (fun z => go 111 (by decide) (Or.inr (Or.inl rfl)) z) (fun n2 => ?_)
  refine zb_Model_readAct_17 (fun z => go 114 (by decide) (Or.inr (Or.inr (Or.inl rfl))) z) (fun n3 => ?_)
  refine zb_Model_readAct_23 (fun z => go 115 (by decide) (Or.inr (Or.inr (Or.inr (Or.inl rfl)))) z) (fun n4 => ?_)
  refine zb_Model_readAct_29 (fun z => go 100 (by decide) (Or.inr (Or.inr (Or.inr (Or.inr rfl)))) z) (fun n5 => ?_)
  rw [hhe _ (by decide)] at n1 n2 n3 n4 n5
  refine zb_Model_readAct_35 (dc := 1) (P := fun u => u = p_s τ (i, some i)) (by rw [p_s_at]; exact mn_fault (by intro p' h'; simp at h')) (by omega) (fun u hu => ?_)
  subst hu
  refine bad43 _ i i (by omega) (by omega) (g_bad hok hi (fun z => ?_) ?_ hL0)
  · rw [hst]
    refine decide_eq_false (fun hk => ?_)
    rcases hk with k | k | k | k | k
    · exact n1 ⟨z, k⟩
    · exact n2 ⟨z, k⟩
    · exact n3 ⟨z, k⟩
    · exact n4 ⟨z, k⟩
    · exact n5 ⟨z, k⟩
  · rw [hst]
    rfl
end
