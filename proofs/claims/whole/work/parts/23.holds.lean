/-! what a book bears, whether a column holds -/
def l_env (s : aS) (dy c : Nat) (l : List Nat) (k : Nat) : Nat → Int32 := fun j =>
  match j with
  | 0 => nI (s_t s (l.getD k 0))
  | 1 => nI (s_w s (l.getD k 0))
  | 2 => nI c
  | 3 => nI k
  | 4 => nI l.length
  | _ => nI dy - nI dy / nI 10 * nI 10
def l_br (E : (Nat → Int32) → Int32) (s : aS) (dy c : Nat) (l : List Nat) (k : Nat) : Int32 := z_max (nI 0) (z_min (E (l_env s dy c l k)) (nI 999))
/-- the weight of the books above the place k - 1 -/
def l_ab (s : aS) (l : List Nat) (k : Nat) : Nat := ((l.drop k).map (s_w s)).sum
def l_ho (E : (Nat → Int32) → Int32) (s : aS) (dy c : Nat) (l : List Nat) : Bool := (List.range l.length).all (fun k => decide (nI (l_ab s l (k + 1)) ≤ l_br E s dy c l k))
theorem l_ho_iff {E : (Nat → Int32) → Int32} {s : aS} {dy c : Nat} {l : List Nat} : l_ho E s dy c l = true ↔ ∀ k, k < l.length → nI (l_ab s l (k + 1)) ≤ l_br E s dy c l k := by
  unfold l_ho
  rw [List.all_eq_true]
  constructor
  · intro h k hk
    exact of_decide_eq_true (h k (List.mem_range.mpr hk))
  · intro h k hk
    exact decide_eq_true (h k (List.mem_range.mp hk))
theorem z_max_ge (x y : Int32) : x ≤ z_max x y := by
  unfold z_max
  split
  · exact Int32.le_of_lt (by assumption)
  · exact Int32.le_refl _
theorem l_br_ge (E : (Nat → Int32) → Int32) (s : aS) (dy c : Nat) (l : List Nat) (k : Nat) : nI 0 ≤ l_br E s dy c l k := z_max_ge _ _
theorem l_br_nat (E : (Nat → Int32) → Int32) (s : aS) (dy c : Nat) (l : List Nat) (k : Nat) : ∃ n, n ≤ 999 ∧ l_br E s dy c l k = nI n := by
  have h0 := l_br_ge E s dy c l k
  have key : ∀ X : Int32, z_max (nI 0) (z_min X (nI 999)) ≤ nI 999 := by
    intro X
    unfold z_max z_min
    by_cases h : nI 999 < X
    · rw [if_pos h]
      decide
    · rw [if_neg h]
      split
      · exact Int32.not_lt.mp h
      · decide
  have h1 : l_br E s dy c l k ≤ nI 999 := key _
  have e0 : nI 0 = 0 := rfl
  rw [e0] at h0
  exact nI_of2 (M := nI 999) (by decide) (Int32.not_lt.mpr h0) h1
theorem l_ab_step {s : aS} {l : List Nat} {k : Nat} (h : k < l.length) : l_ab s l k = s_w s (l.getD k 0) + l_ab s l (k + 1) := by
  unfold l_ab
  rw [List.drop_eq_getElem_cons h, List.map_cons, List.sum_cons, List.getD_eq_getElem?_getD, List.getElem?_eq_getElem h]
  rfl
section
variable {s : aS} {dy : Nat} {σ : zS} {o c : Nat} {l : List Nat} {E : (Nat → Int32) → Int32} {r : Nat}
theorem l_ab_le (hR : cC s dy σ o c l) : ∀ j, j ≤ l.length → l_ab s l (l.length - j) ≤ 9 * j
  | 0, _ => by simp [l_ab]
  | j + 1, h => by
    have h1 := l_ab_le hR j (by omega)
    have e : l.length - j = l.length - (j + 1) + 1 := by omega
    rw [e] at h1
    rw [l_ab_step (by omega)]
    have h2 := hR.w9 (hR.mem (k := l.length - (j + 1)) (by omega))
    omega
theorem l_ab_36 (hR : cC s dy σ o c l) (k : Nat) : l_ab s l k ≤ 36 := by
  have h4 := hR.l4
  rcases Nat.lt_or_ge k l.length with q | q
  · have h := l_ab_le hR (l.length - k) (by omega)
    have e : l.length - (l.length - k) = k := by omega
    rw [e] at h
    omega
  · unfold l_ab
    rw [List.drop_eq_nil_of_le q]
    simp
theorem lc_bearsAt (ho : z_oC o) (hr : z_oR r) (hR : cC s dy σ o c l) (hE : rR E σ r) {k : Nat} (hk : k < l.length) : z_Ci 2 zm_City_bearsAt [.inr o, .inl (nI c), .inl (nI k), .inr r] σ (fun x u => x = l_br E s dy c l k ∧ z_fr (fun q => q = r + 2) σ u) := by
  refine z_Ci_of (by decide) (Nat.le_of_ble_eq_true rfl) (fun Γ hd he => ?_)
  show z_J Γ zm_City_bearsAt 0 [some (.inr o), some (.inl (nI c)), some (.inl (nI k)), some (.inr r), none, none] [] σ
  have h6 := hR.c6
  have h4 := hR.l4
  have hn := hR.n
  have hb := hR.mem hk
  refine zb_City_bearsAt_0 ho hr (lc_bookAt ho hR hk) (by omega) (fun x σ1 h => ?_)
  obtain ⟨rfl, rfl⟩ := h
  have hw := rc_worth hr hE (l_env s dy c l k)
  refine zb_City_bearsAt_6 ho hr (k1 := l.getD k 0) (k2 := l.getD k 0) (k3 := c) (P := fun x u => x = E (l_env s dy c l k) ∧ z_fr (fun q => q = r + 2) σ1 u) (dc := 1) (z_ixn (by omega)) (z_ixn (by omega)) (z_ixn (by omega)) ?_ (by omega) (fun x u h => ?_)
  · rw [hR.ft hb, hR.fw hb, hR.fM, hR.fy]
    exact hw
  · obtain ⟨rfl, hF⟩ := h
    refine zb_City_bearsAt_41 (wc_between _ _ _ u) (by omega) (fun x σ2 h => ?_)
    obtain ⟨rfl, rfl⟩ := h
    refine zb_City_bearsAt_52 ?_
    rw [he]
    exact ⟨_, rfl, rfl, hF⟩
theorem zn_m1 (n : Nat) : nI n + (-1) = nI n - nI 1 := by
  have e : -(nI 1) = (-1 : Int32) := by decide
  rw [Int32.sub_eq_add_neg, e]
theorem lc_holdsUp (ho : z_oC o) (hr : z_oR r) (hR : cC s dy σ o c l) (hE : rR E σ r) : z_Ci 3 zm_City_holdsUp [.inr o, .inl (nI c), .inr r] σ (fun x u => x = z_tf (l_ho E s dy c l) ∧ z_fr (fun q => q = r + 2) σ u) := by
  refine z_Ci_of (by decide) (Nat.le_of_ble_eq_true rfl) (fun Γ hd he => ?_)
  show z_J Γ zm_City_holdsUp 0 [some (.inr o), some (.inl (nI c)), some (.inr r), none, none] [] σ
  have h6 := hR.c6
  have h4 := hR.l4
  have hn := hR.n
  refine zb_City_holdsUp_0 ho hr (z_ixn (by omega)) ?_
  rw [hR.fM]
  have e0 : nI 0 = nI (l_ab s l (l.length - 0)) := by simp [l_ab]
  rw [e0]
  refine zj_forS (b := l.length) (fun j => [some (.inr o), some (.inl (nI c)), some (.inr r), some (.inl (nI (l_ab s l (l.length - j)))), some (.inl (nI (l.length - j) - nI 1))])
    (fun j u => z_fr (fun q => q = r + 2) σ u ∧ ∀ k, l.length - j ≤ k → k < l.length → nI (l_ab s l (k + 1)) ≤ l_br E s dy c l k) (fun j u hj hI kk => ?_) (fun u hI => ?_) 0 (Nat.zero_le _) σ ⟨z_fr.rf, fun k h1 h2 => by omega⟩
  · obtain ⟨hF, hall⟩ := hI
    obtain ⟨k, hk, ek⟩ : ∃ k, k < l.length ∧ l.length - j = k + 1 := ⟨l.length - j - 1, by omega, by omega⟩
    have ek2 : l.length - (j + 1) = k := by omega
    simp only [ek2] at kk
    rw [ek] at hall ⊢
    have hro : r + 2 ≠ o ∧ r + 2 ≠ o + 1 ∧ r + 2 ≠ o + 2 ∧ r + 2 ≠ o + 6 ∧ r + 2 ≠ o + 7 := by rcases ho with rfl | rfl <;> rcases hr with rfl | rfl <;> decide
    have hRu : cC s dy u o c l := hR.keep (hF o (fun e => hro.1 e.symm)).1 (hF _ (fun e => hro.2.1 e.symm)).1 (hF _ (fun e => hro.2.2.1 e.symm)).1 (hF _ (fun e => hro.2.2.2.1 e.symm)).1 (hF _ (fun e => hro.2.2.2.2 e.symm)).1
    have hEu : rR E u r := hE.keep (hF r (by omega)).1 (hF (r + 1) (by omega)).1
    have hab := l_ab_36 hR (k + 1)
    have m1 : nI (k + 1) - nI 1 = nI k := zn_pred (by omega)
    rw [m1]
    -- what follows the test
    have next : ∀ u', z_fr (fun q => q = r + 2) σ u' → nI (l_ab s l (k + 1)) ≤ l_br E s dy c l k → z_J Γ zm_City_holdsUp 35 [some (.inr o), some (.inl (nI c)), some (.inr r), some (.inl (nI (l_ab s l (k + 1)))), some (.inl (nI k))] [] u' := by
      intro u' hF' hle
      have hRu' : cC s dy u' o c l := hR.keep (hF' o (fun e => hro.1 e.symm)).1 (hF' _ (fun e => hro.2.1 e.symm)).1 (hF' _ (fun e => hro.2.2.1 e.symm)).1 (hF' _ (fun e => hro.2.2.2.1 e.symm)).1 (hF' _ (fun e => hro.2.2.2.2 e.symm)).1
      refine zb_City_holdsUp_35 ho hr (lc_bookAt ho hRu' hk) (by omega) (fun x σ1 h => ?_)
      obtain ⟨rfl, rfl⟩ := h
      have hb := hR.mem hk
      refine zb_City_holdsUp_47 ho hr (z_ixn (by omega)) ?_
      rw [hRu'.fw hb, nI_add, zn_m1, Nat.add_comm, ← l_ab_step hk]
      refine kk _ ⟨hF', fun k2 h1 h2 => ?_⟩
      by_cases e : k2 = k
      · subst e
        exact hle
      · exact hall k2 (by omega) h2
    refine zb_City_holdsUp_12 ho hr (fun h => absurd h (nI_pos (by omega))) (fun _ => ?_)
    refine zb_City_holdsUp_17 ho hr (fun h => ?_) (fun h => ?_)
    · refine next u hF ?_
      have e0 : (0 : Int32) = nI 0 := rfl
      rw [e0, zn_le (by omega) (by omega)] at h
      have : l_ab s l (k + 1) = 0 := by omega
      rw [this]
      exact l_br_ge _ _ _ _ _ _
    · refine zb_City_holdsUp_21 ho hr (lc_bearsAt ho hr hRu hEu hk) (by omega) (fun x σ1 h => ?_)
      obtain ⟨rfl, hF2⟩ := h
      refine zb_City_holdsUp_30 ho hr (fun h => next σ1 (hF.tr hF2) h) (fun h => ?_)
      refine zb_City_holdsUp_33 ?_
      rw [he]
      refine ⟨_, rfl, ?_, hF.tr hF2⟩
      have : l_ho E s dy c l = false := by
        rw [← Bool.not_eq_true, l_ho_iff]
        exact fun q => h (q k hk)
      rw [this]
      rfl
  · obtain ⟨hF, hall⟩ := hI
    refine zb_City_holdsUp_12 ho hr (fun _ => ?_) (fun h => ?_)
    · refine zb_City_holdsUp_56 ?_
      rw [he]
      refine ⟨_, rfl, ?_, hF⟩
      have : l_ho E s dy c l = true := l_ho_iff.mpr (fun k hk => hall k (by omega) hk)
      rw [this]
      rfl
    · have e0 : l.length - l.length = 0 := by omega
      rw [e0] at h
      exact absurd (by decide) h
theorem lc_topOf (ho : z_oC o) (hR : cC s dy σ o c l) : z_Ci 1 zm_City_topOf [.inr o, .inl (nI c)] σ (z_is (if l.length = 0 then -1 else nI (l.getD (l.length - 1) 0)) σ) := by
  refine z_Ci_of (by decide) (Nat.le_of_ble_eq_true rfl) (fun Γ hd he => ?_)
  show z_J Γ zm_City_topOf 0 [some (.inr o), some (.inl (nI c))] [] σ
  have h6 := hR.c6
  have h4 := hR.l4
  have e0 : (0 : Int32) = nI 0 := rfl
  refine zb_City_topOf_0 ho (z_ixn (by omega)) (fun h => ?_) (fun h => ?_)
  · rw [hR.fM, e0, zn_eq (by omega) (by omega)] at h
    have hb := lc_bookAt ho hR (k := l.length - 1) (by omega)
    refine zb_City_topOf_13 ho (k1 := c) (P := z_is (nI (l.getD (l.length - 1) 0)) σ) (dc := 0) (z_ixn (by omega)) (by rw [hR.fM, zn_pred (by omega)]; exact hb) (by omega) (fun x σ1 hh => ?_)
    obtain ⟨rfl, rfl⟩ := hh
    refine zb_City_topOf_26 ?_
    rw [he, if_neg h]
    exact ⟨_, rfl, rfl, rfl⟩
  · rw [hR.fM, e0, zn_eq (by omega) (by omega)] at h
    refine zb_City_topOf_9 (zb_City_topOf_26 ?_)
    rw [he, if_pos h]
    exact ⟨_, rfl, rfl, rfl⟩
end
section
variable {s : aS} {v : aV} {σ : zS} {o : Nat}
theorem zn_0le {x : Int32} (h : ¬ x < 0) {n : Nat} (hn : n < 2147483648) (h2 : ¬ nI n ≤ x) : ∃ j, j < n ∧ x = nI j := by
  rcases pk_ix x (n := n) hn with q | q | q
  · exact absurd q h
  · exact absurd q h2
  · exact q
/-- an argument that is a number of one of n things -/
def z_isn (x : Int32) (n : Nat) : Bool := decide (0 ≤ x) && decide (x < nI n)
theorem z_isn_t {x : Int32} {n : Nat} (hn : n < 2147483648) (h : z_isn x n = true) : ∃ j, j < n ∧ x = nI j := by
  unfold z_isn at h
  simp only [Bool.and_eq_true, decide_eq_true_eq] at h
  exact zn_0le (Int32.not_lt.mpr h.1) hn (Int32.not_le.mpr h.2)
theorem z_isn_n {j n : Nat} (hn : n < 2147483648) (h : j < n) : z_isn (nI j) n = true := by
  unfold z_isn
  simp only [Bool.and_eq_true, decide_eq_true_eq]
  exact ⟨nI_pos' (by omega), nI_lt h hn⟩
theorem cc_isBook (ho : z_oC o) (hn : s_n s ≤ 12) (hf : σ.1 o 0 = nI (s_n s)) (x : Int32) : z_Ci 0 zm_City_isBook [.inr o, .inl x] σ (z_is (z_tf (z_isn x (s_n s))) σ) := by
  refine z_Ci_of (by decide) (Nat.le_of_ble_eq_true rfl) (fun Γ hd he => ?_)
  show z_J Γ zm_City_isBook 0 [some (.inr o), some (.inl x)] [] σ
  refine zb_City_isBook_0 ho (fun h => ?_) (fun h => ?_)
  · refine zb_City_isBook_16 (zb_City_isBook_17 ?_ (Or.inl (by decide)))
    rw [he]
    refine ⟨_, rfl, ?_, rfl⟩
    have : z_isn x (s_n s) = false := by simp [z_isn, Int32.not_le.mpr h]
    rw [this]; rfl
  · refine zb_City_isBook_4 ho (fun h2 => ?_) (fun h2 => ?_)
    · refine zb_City_isBook_16 (zb_City_isBook_17 ?_ (Or.inl (by decide)))
      rw [he]
      rw [hf] at h2
      refine ⟨_, rfl, ?_, rfl⟩
      have : z_isn x (s_n s) = false := by simp [z_isn, Int32.not_lt.mpr h2]
      rw [this]; rfl
    · refine zb_City_isBook_12 (zb_City_isBook_17 ?_ (Or.inr (by decide)))
      rw [he]
      rw [hf] at h2
      refine ⟨_, rfl, ?_, rfl⟩
      have : z_isn x (s_n s) = true := by simp [z_isn, Int32.not_lt.mp h, Int32.not_le.mp h2]
      rw [this]; rfl
theorem cc_isColumn (ho : z_oC o) (hf : σ.1 o 6 = nI (s_c s)) (x : Int32) : z_Ci 0 zm_City_isColumn [.inr o, .inl x] σ (z_is (z_tf (z_isn x (s_c s))) σ) := by
  refine z_Ci_of (by decide) (Nat.le_of_ble_eq_true rfl) (fun Γ hd he => ?_)
  show z_J Γ zm_City_isColumn 0 [some (.inr o), some (.inl x)] [] σ
  refine zb_City_isColumn_0 ho (fun h => ?_) (fun h => ?_)
  · refine zb_City_isColumn_16 (zb_City_isColumn_17 ?_ (Or.inl (by decide)))
    rw [he]
    refine ⟨_, rfl, ?_, rfl⟩
    have : z_isn x (s_c s) = false := by simp [z_isn, Int32.not_le.mpr h]
    rw [this]; rfl
  · refine zb_City_isColumn_4 ho (fun h2 => ?_) (fun h2 => ?_)
    · refine zb_City_isColumn_16 (zb_City_isColumn_17 ?_ (Or.inl (by decide)))
      rw [he]
      rw [hf] at h2
      refine ⟨_, rfl, ?_, rfl⟩
      have : z_isn x (s_c s) = false := by simp [z_isn, Int32.not_lt.mpr h2]
      rw [this]; rfl
    · refine zb_City_isColumn_12 (zb_City_isColumn_17 ?_ (Or.inr (by decide)))
      rw [he]
      rw [hf] at h2
      refine ⟨_, rfl, ?_, rfl⟩
      have : z_isn x (s_c s) = true := by simp [z_isn, Int32.not_lt.mp h, Int32.not_le.mp h2]
      rw [this]; rfl
theorem cc_isReader (ho : z_oC o) (hf : σ.1 o 9 = nI (s_r s)) (x : Int32) : z_Ci 0 zm_City_isReader [.inr o, .inl x] σ (z_is (z_tf (z_isn x (s_r s))) σ) := by
  refine z_Ci_of (by decide) (Nat.le_of_ble_eq_true rfl) (fun Γ hd he => ?_)
  show z_J Γ zm_City_isReader 0 [some (.inr o), some (.inl x)] [] σ
  refine zb_City_isReader_0 ho (fun h => ?_) (fun h => ?_)
  · refine zb_City_isReader_16 (zb_City_isReader_17 ?_ (Or.inl (by decide)))
    rw [he]
    refine ⟨_, rfl, ?_, rfl⟩
    have : z_isn x (s_r s) = false := by simp [z_isn, Int32.not_le.mpr h]
    rw [this]; rfl
  · refine zb_City_isReader_4 ho (fun h2 => ?_) (fun h2 => ?_)
    · refine zb_City_isReader_16 (zb_City_isReader_17 ?_ (Or.inl (by decide)))
      rw [he]
      rw [hf] at h2
      refine ⟨_, rfl, ?_, rfl⟩
      have : z_isn x (s_r s) = false := by simp [z_isn, Int32.not_lt.mpr h2]
      rw [this]; rfl
    · refine zb_City_isReader_12 (zb_City_isReader_17 ?_ (Or.inr (by decide)))
      rw [he]
      rw [hf] at h2
      refine ⟨_, rfl, ?_, rfl⟩
      have : z_isn x (s_r s) = true := by simp [z_isn, Int32.not_lt.mp h, Int32.not_le.mp h2]
      rw [this]; rfl
end
