theorem zn_bc0 : ∀ i, i < 64 → ∀ j, j < 64 → z_bc (nI (i * 64 + j)) = nI (m_thk (fun _ => 1) (i * 64 + j) 12) := by decide +kernel
theorem zn_bc (m : Nat) (h : m < 4096) : z_bc (nI m) = nI (m_thk (fun _ => 1) m 12) := by
  have h1 := zn_bc0 (m / 64) (by omega) (m % 64) (by omega)
  rwa [show m / 64 * 64 + m % 64 = m by omega] at h1
theorem m_thk_ext {t : Nat → Nat} {m n : Nat} (hm : m < 2 ^ n) : ∀ k, m_thk t m (n + k) = m_thk t m n
  | 0 => rfl
  | k + 1 => by
    have ih := m_thk_ext (t := t) hm k
    show m_thk t m (n + k + 1) = _
    have hb : m.testBit (n + k) = false := Nat.testBit_lt_two_pow (Nat.lt_of_lt_of_le hm (Nat.pow_le_pow_right (by decide) (by omega)))
    rw [m_thk, ih, hb]
    simp
theorem l_one_sum : ∀ l : List Nat, (l.map (fun _ => 1)).sum = l.length
  | [] => rfl
  | a :: l => by rw [List.map_cons, List.sum_cons, List.length_cons, l_one_sum l]; omega
/-- how many books a set of bits has -/
theorem zn_bcl {l : List Nat} {n : Nat} (hn : n ≤ 12) (hN : l.Nodup) (hl : ∀ b, b ∈ l → b < n) : z_bc (nI (l_bits l n)) = nI l.length := by
  have h1 := l_bits_lt l n
  have h2 : 2 ^ n ≤ 2 ^ 12 := Nat.pow_le_pow_right (by decide) hn
  have e : n + (12 - n) = 12 := by omega
  have h3 := m_thk_ext (t := fun _ => 1) h1 (12 - n)
  rw [e] at h3
  rw [zn_bc _ (by omega), h3, m_thk_l hN hl, l_h_sum, l_one_sum]
def mS (s : aS) (σ : zS) : Prop := σ.1 63 1 = nI (s_n s) ∧ σ.1 63 4 = nI (s_c s) ∧ σ.1 63 5 = nI (s_r s) ∧ (∀ b, b < s_n s → σ.1 65 b = nI (s_t s b)) ∧ (∀ b, b < s_n s → σ.1 66 b = nI (s_w s b)) ∧ ∀ r, r < s_r s → σ.1 67 r = nI (s_l s r)
def mV (s : aS) (v : aV) (f : Nat → Int32) : Prop := (∀ b, b < s_n s → f b = nI (v_w v b)) ∧ (∀ b, b < s_n s → (v_w v b = 1 ∨ v_w v b = 2) → f (12 + b) = nI (v_h v b)) ∧ (∀ b, b < s_n s → v_w v b = 1 → f (24 + b) = nI ((v_p v (v_h v b)).idxOf b)) ∧ (∀ b, b < s_n s → v_w v b = 2 → f (36 + b) = nI (v_d v b)) ∧ (∀ r, r < s_r s → f (49 + r) = nI (v_f v r)) ∧ f 48 = nI (v_y v)
/-- the model's row a is s, v -/
def mR (s : aS) (v : aV) (σ : zS) (a : Nat) : Prop := aI s v ∧ mS s σ ∧ mV s v (σ.1 a)
section
variable {s : aS} {v w : aV} {σ u : zS} {a : Nat}
theorem mR.n (h : mR s v σ a) : s_n s ≤ 12 := h.1.1.1
theorem mR.c1 (h : mR s v σ a) : 1 ≤ s_c s := h.1.1.2.1
theorem mR.c6 (h : mR s v σ a) : s_c s ≤ 6 := h.1.1.2.2.1
theorem mR.r4 (h : mR s v σ a) : s_r s ≤ 4 := h.1.1.2.2.2
theorem mR.w3 (h : mR s v σ a) (b : Nat) : v_w v b ≤ 3 := h.1.2.1 b
theorem mR.Bk (h : mR s v σ a) : mBk s σ := ⟨h.n, h.2.1.1, fun b hb => ⟨h.2.1.2.2.2.1 b hb, h.2.1.2.2.2.2.1 b hb, (h.1.2.2.2.2.2.2.2.1 b hb).2.1, (h.1.2.2.2.2.2.2.2.1 b hb).2.2⟩⟩
theorem mR.nb (h : mR s v σ a) : s_n s ≤ 12 ∧ σ.1 63 1 = nI (s_n s) := ⟨h.n, h.2.1.1⟩
theorem mR.fw (h : mR s v σ a) {b : Nat} (hb : b < s_n s) : σ.1 a b = nI (v_w v b) := h.2.2.1 b hb
theorem mR.fh (h : mR s v σ a) {b : Nat} (hb : b < s_n s) (hw : v_w v b = 1 ∨ v_w v b = 2) : σ.1 a (12 + b) = nI (v_h v b) := h.2.2.2.1 b hb hw
theorem mR.fp (h : mR s v σ a) {b : Nat} (hb : b < s_n s) (hw : v_w v b = 1) : σ.1 a (24 + b) = nI ((v_p v (v_h v b)).idxOf b) := h.2.2.2.2.1 b hb hw
theorem mR.fd (h : mR s v σ a) {b : Nat} (hb : b < s_n s) (hw : v_w v b = 2) : σ.1 a (36 + b) = nI (v_d v b) := h.2.2.2.2.2.1 b hb hw
theorem mR.ff (h : mR s v σ a) {r : Nat} (hr : r < s_r s) : σ.1 a (49 + r) = nI (v_f v r) := h.2.2.2.2.2.2.1 r hr
theorem mR.fy (h : mR s v σ a) : σ.1 a 48 = nI (v_y v) := h.2.2.2.2.2.2.2
theorem mR.I (h : mR s v σ a) {c : Nat} (hc : c < s_c s) : mI s (σ.1 a) c (v_p v c) := by
  have h6 := h.c6
  refine ⟨fun b hb => ((h.1.mm hc b).mp hb).1, fun b hb => ?_⟩
  have h3 := h.w3 b
  rw [h.1.mm hc b, h.fw hb, zn_eq (by omega) (by omega)]
  constructor
  · rintro ⟨h1, h2⟩
    have hh := h.1.2.2.2.2.1 b hb h1
    rw [h.fh hb (Or.inl h1), zn_eq (by omega) (by omega)] at h2
    exact ⟨hb, h1, h2⟩
  · rintro ⟨-, h1, h2⟩
    refine ⟨h1, ?_⟩
    rw [h.fh hb (Or.inl h1), h2]
theorem mR.C (h : mR s v σ a) {c : Nat} (hc : c < s_c s) : mC s (σ.1 a) c (v_p v c) := by
  refine ⟨h.1.nd hc, h.1.l4 hc, h.I hc, fun b hb => ?_⟩
  obtain ⟨h1, h2, h3⟩ := (h.1.mm hc b).mp hb
  rw [h.fp h1 h2, h3]
theorem mR.keep {R : Nat → Prop} (h : mR s v σ a) (hF : mF R σ u) (h65 : ¬ R 65) (h66 : ¬ R 66) (h67 : ¬ R 67) (hRa : ¬ R a) (ha : a ≠ 63) (ha4 : a ≠ 74) : mR s v u a := by
  refine ⟨h.1, ?_, ?_⟩
  · unfold mS
    rw [hF.2.1 1 (by omega) (by decide), hF.2.1 4 (by omega) (by decide), hF.2.1 5 (by omega) (by decide), (hF.1 65 (by decide) (by decide) h65).1, (hF.1 66 (by decide) (by decide) h66).1, (hF.1 67 (by decide) (by decide) h67).1]
    exact h.2.1
  · rw [(hF.1 a ha ha4 hRa).1]
    exact h.2.2
theorem z_fr.mF {F : Nat → Prop} (h : z_fr F σ u) (h63 : ¬ F 63) : mF F σ u := ⟨fun q _ _ hF => h q hF, fun k _ _ => by rw [(h 63 h63).1], fun k _ => by rw [(h 63 h63).2]⟩
theorem zn_isn (x : Int32) {n : Nat} (hn : n < 1073741824) : (decide (nI 0 ≤ x) && decide (x ≤ nI n - nI 1)) = z_isn x n := by
  unfold z_isn
  rw [Bool.eq_iff_iff]
  simp only [Bool.and_eq_true, decide_eq_true_eq]
  have e0 : nI 0 = 0 := rfl
  rw [e0, Int32.le_iff_toInt_le (x := x), Int32.lt_iff_toInt_lt, pk_sub_toInt hn (by decide), nI_toInt (by omega)]
  constructor
  · rintro ⟨h1, h2⟩
    exact ⟨h1, by omega⟩
  · rintro ⟨h1, h2⟩
    exact ⟨h1, by omega⟩
theorem mc_isBook (hn : s_n s ≤ 12) (hf : σ.1 63 1 = nI (s_n s)) (x : Int32) : z_Ci 1 zm_Model_isBook [.inr 63, .inl x] σ (z_is (z_tf (z_isn x (s_n s))) σ) := by
  refine z_Ci_of (by decide) (Nat.le_of_ble_eq_true rfl) (fun Γ hd he => ?_)
  show z_J Γ zm_Model_isBook 0 [some (.inr 63), some (.inl x)] [] σ
  refine zb_Model_isBook_0 (mc_in _ _ _ _) (by omega) (fun r u h => ?_)
  obtain ⟨rfl, rfl⟩ := h
  rw [hf, zn_isn x (by omega)]
  refine zb_Model_isBook_11 ?_ (z_tf01 _)
  rw [he]
  exact ⟨_, rfl, rfl, rfl⟩
theorem mc_isColumn (hn : s_c s ≤ 6) (hf : σ.1 63 4 = nI (s_c s)) (x : Int32) : z_Ci 1 zm_Model_isColumn [.inr 63, .inl x] σ (z_is (z_tf (z_isn x (s_c s))) σ) := by
  refine z_Ci_of (by decide) (Nat.le_of_ble_eq_true rfl) (fun Γ hd he => ?_)
  show z_J Γ zm_Model_isColumn 0 [some (.inr 63), some (.inl x)] [] σ
  refine zb_Model_isColumn_0 (mc_in _ _ _ _) (by omega) (fun r u h => ?_)
  obtain ⟨rfl, rfl⟩ := h
  rw [hf, zn_isn x (by omega)]
  refine zb_Model_isColumn_11 ?_ (z_tf01 _)
  rw [he]
  exact ⟨_, rfl, rfl, rfl⟩
theorem mc_isReader (hn : s_r s ≤ 4) (hf : σ.1 63 5 = nI (s_r s)) (x : Int32) : z_Ci 1 zm_Model_isReader [.inr 63, .inl x] σ (z_is (z_tf (z_isn x (s_r s))) σ) := by
  refine z_Ci_of (by decide) (Nat.le_of_ble_eq_true rfl) (fun Γ hd he => ?_)
  show z_J Γ zm_Model_isReader 0 [some (.inr 63), some (.inl x)] [] σ
  refine zb_Model_isReader_0 (mc_in _ _ _ _) (by omega) (fun r u h => ?_)
  obtain ⟨rfl, rfl⟩ := h
  rw [hf, zn_isn x (by omega)]
  refine zb_Model_isReader_11 ?_ (z_tf01 _)
  rw [he]
  exact ⟨_, rfl, rfl, rfl⟩
theorem mc_isHeldBut {K : Nat} {T : Nat → Nat} (hM : mRu K T σ) (hB : mBk s σ) (ha : z_kd a = (11, 53)) (hne : a ≠ 75 ∧ a ≠ 74 ∧ a ≠ 63) {c dy : Nat} {l : List Nat} (hC : mC s (σ.1 a) c l) (hy : σ.1 a 48 = nI dy) (h75 : σ.2 63 20 ≠ 75) {m : Nat} (hm : m < 2147483648) : z_Ci 342 zm_Model_isHeldBut [.inr 63, .inr a, .inl (nI c), .inl (nI m)] σ (fun r u => r = z_tf (l_ho (tE K T) s dy c (l_bt l m)) ∧ mF (fun q => q = 75) σ u) := by
  refine z_Ci_of (by decide) (Nat.le_of_ble_eq_true rfl) (fun Γ hd he => ?_)
  show z_J Γ zm_Model_isHeldBut 0 [some (.inr 63), some (.inr a), some (.inl (nI c)), some (.inl (nI m))] [] σ
  refine zb_Model_isHeldBut_0 ha (mc_readPile ⟨hB.1, hB.2.1⟩ ha hne.1 hC hm) (by omega) (fun r u h => ?_)
  obtain ⟨rfl, hP, hF⟩ := h
  have hF' : mF (fun q => q = 75) σ u := hF.mF (by decide)
  have hMu := hM.keep hF' h75
  have hBu := hB.keep hF' (by decide) (by decide)
  have hyu : u.1 a 48 = nI dy := by rw [(hF a hne.1).1]; exact hy
  have hlen : (l_bt l m).length ≤ 4 := Nat.le_trans (List.length_filter_le _ _) hC.2.1
  have hqn : ∀ k, k < (l_bt l m).length → (l_bt l m).getD k 0 < s_n s := fun k hk => by
    have hmem : (l_bt l m).getD k 0 ∈ l_bt l m := by
      rw [List.getD_eq_getElem?_getD, List.getElem?_eq_getElem hk]
      exact List.getElem_mem hk
    exact hC.2.2.1.1 _ (List.mem_filter.mp hmem).1
  refine zb_Model_isHeldBut_9 ha (k1 := 48) (P := fun r u2 => r = z_tf (l_ho (tE K T) s dy c (l_bt l m)) ∧ mF (fun _ => False) u u2) (dc := 341) (z_ixn (by omega)) (by rw [hyu]; exact mc_doesPileHold hMu hBu hP hlen hqn c dy) (by omega) (fun r u2 h => ?_)
  obtain ⟨rfl, hF2⟩ := h
  refine zb_Model_isHeldBut_16 ?_ (z_tf01 _)
  rw [he]
  exact ⟨_, rfl, rfl, hF'.tr (hF2.mono (fun _ h => h.elim))⟩
theorem mc_isHeld {K : Nat} {T : Nat → Nat} (hM : mRu K T σ) (hB : mBk s σ) (ha : z_kd a = (11, 53)) (hne : a ≠ 75 ∧ a ≠ 74 ∧ a ≠ 63) {c dy : Nat} {l : List Nat} (hC : mC s (σ.1 a) c l) (hy : σ.1 a 48 = nI dy) (h75 : σ.2 63 20 ≠ 75) : z_Ci 343 zm_Model_isHeld [.inr 63, .inr a, .inl (nI c)] σ (fun r u => r = z_tf (l_ho (tE K T) s dy c l) ∧ mF (fun q => q = 75) σ u) := by
  refine z_Ci_of (by decide) (Nat.le_of_ble_eq_true rfl) (fun Γ hd he => ?_)
  show z_J Γ zm_Model_isHeld 0 [some (.inr 63), some (.inr a), some (.inl (nI c))] [] σ
  refine zb_Model_isHeld_0 ha (mc_isHeldBut hM hB ha hne hC hy h75 (m := 0) (by decide)) (by omega) (fun r u h => ?_)
  obtain ⟨rfl, hF⟩ := h
  refine zb_Model_isHeld_7 ?_ (z_tf01 _)
  rw [he, l_bt0]
  exact ⟨_, rfl, rfl, hF⟩
theorem mc_highest (hB : s_n s ≤ 12 ∧ σ.1 63 1 = nI (s_n s)) (ha : z_kd a = (11, 53)) (hne : a ≠ 75) {c : Nat} {l : List Nat} (hC : mC s (σ.1 a) c l) : z_Ci 2 zm_Model_highest [.inr 63, .inr a, .inl (nI c)] σ (fun r u => r = (if l.length = 0 then -1 else nI (l.getD (l.length - 1) 0)) ∧ z_fr (fun q => q = 75) σ u) := by
  refine z_Ci_of (by decide) (Nat.le_of_ble_eq_true rfl) (fun Γ hd he => ?_)
  show z_J Γ zm_Model_highest 0 [some (.inr 63), some (.inr a), some (.inl (nI c)), none] [] σ
  have hr := mc_readPile hB ha hne hC (m := 0) (by decide)
  rw [l_bt0] at hr
  have h4 := hC.2.1
  refine zb_Model_highest_0 ha hr (by omega) (fun r u h => ?_)
  obtain ⟨rfl, hP, hF⟩ := h
  have e0 : (0 : Int32) = nI 0 := rfl
  refine zb_Model_highest_7 (fun h => ?_) (fun h => ?_)
  · rw [e0, zn_eq (by omega) (by omega)] at h
    refine zb_Model_highest_16 (k1 := l.length - 1) ⟨zn_pred (by omega), by omega⟩ (zb_Model_highest_24 ?_)
    rw [he, hP _ (by omega), if_neg h]
    exact ⟨_, rfl, rfl, hF⟩
  · rw [e0, zn_eq (by omega) (by omega)] at h
    refine zb_Model_highest_12 (zb_Model_highest_24 ?_)
    rw [he, if_pos h]
    exact ⟨_, rfl, rfl, hF⟩
/-- what laying b on top of c would say: 0, or why not -/
def a_top0 (E : (Nat → Int32) → Int32) (s : aS) (v : aV) (b c : Nat) : Int32 := if (v_p v c).length = 4 then -3 else if l_ho E s (v_y v) c (v_p v c ++ [b]) = true then nI 0 else -4
theorem mc_refusesTop {K : Nat} {T : Nat → Nat} (hM : mRu K T σ) (h75 : σ.2 63 20 ≠ 75) (hR : mR s v σ a) (ha : z_kd a = (11, 53)) (hne : a ≠ 75 ∧ a ≠ 74 ∧ a ≠ 63) {b c : Nat} (hb : b < s_n s) (hc : c < s_c s) : z_Ci 342 zm_Model_refusesTop [.inr 63, .inr a, .inl (nI b), .inl (nI c)] σ (fun r u => r = a_top0 (tE K T) s v b c ∧ mF (fun q => q = 75) σ u) := by
  have hC := hR.C hc
  have h4 := hC.2.1
  refine z_Ci_of (by decide) (Nat.le_of_ble_eq_true rfl) (fun Γ hd he => ?_)
  show z_J Γ zm_Model_refusesTop 0 [some (.inr 63), some (.inr a), some (.inl (nI b)), some (.inl (nI c)), none] [] σ
  have hr := mc_readPile hR.nb ha hne.1 hC (m := 0) (by decide)
  rw [l_bt0] at hr
  refine zb_Model_refusesTop_0 ha hr (by omega) (fun r u h => ?_)
  obtain ⟨rfl, hP, hF⟩ := h
  have hF' : mF (fun q => q = 75) σ u := hF.mF (by decide)
  refine zb_Model_refusesTop_7 ha (fun h => ?_) (fun h => ?_)
  · rw [zn_eq (by omega) (by omega)] at h
    have hF2 : z_fr (fun q => q = 75) σ (z_pI u 75 (v_p v c).length (nI b)) := hF.pI rfl
    have hF2' : mF (fun q => q = 75) σ (z_pI u 75 (v_p v c).length (nI b)) := hF2.mF (by decide)
    have hMu := hM.keep hF2' h75
    have hBu := hR.Bk.keep hF2' (by decide) (by decide)
    have hP2 : mP (v_p v c ++ [b]) (z_pI u 75 (v_p v c).length (nI b)) := by
      intro k hk
      simp only [List.length_append, List.length_cons, List.length_nil] at hk
      by_cases e : k = (v_p v c).length
      · subst e
        rw [z_pI_at]
        simp
      · rw [z_pI_ne2 e]
        have hk' : k < (v_p v c).length := by omega
        have := hP k hk'
        simp only [List.getD_eq_getElem?_getD, List.getElem?_append_left hk'] at this ⊢
        exact this
    have hqn : ∀ k, k < (v_p v c ++ [b]).length → (v_p v c ++ [b]).getD k 0 < s_n s := by
      intro k hk
      have hmem : (v_p v c ++ [b]).getD k 0 ∈ v_p v c ++ [b] := by
        rw [List.getD_eq_getElem?_getD, List.getElem?_eq_getElem hk]
        exact List.getElem_mem hk
      rcases List.mem_append.mp hmem with q | q
      · exact hC.2.2.1.1 _ q
      · rw [List.mem_singleton.mp q]
        exact hb
    have hl4 : (v_p v c ++ [b]).length ≤ 4 := by simp; omega
    have hd := mc_doesPileHold hMu hBu hP2 hl4 hqn c (v_y v)
    refine zb_Model_refusesTop_18 ha (k1 := (v_p v c).length) (k2 := 48) (P := fun r u2 => r = z_tf (l_ho (tE K T) s (v_y v) c (v_p v c ++ [b])) ∧ mF (fun _ => False) (z_pI u 75 (v_p v c).length (nI b)) u2) (dc := 341) (z_ixn (by omega)) (z_ixn (by omega)) ?_ (by omega) (fun r u2 h2 => ?_)
    · rw [nI_add, (hF2 a hne.1).1, hR.fy]
      simp only [List.length_append, List.length_cons, List.length_nil] at hd
      exact hd
    · obtain ⟨rfl, hF3⟩ := h2
      have hF4 := hF2'.tr (hF3.mono (fun _ h => h.elim))
      refine zb_Model_refusesTop_39 (fun h2 => ?_) (fun h2 => ?_)
      · rw [z_tf_eq0] at h2
        refine zb_Model_refusesTop_46 (zb_Model_refusesTop_48 ?_)
        rw [he, a_top0, if_neg h, if_neg (by rw [h2]; decide)]
        exact ⟨_, rfl, rfl, hF4⟩
      · rw [z_tf_eq0, Bool.not_eq_false] at h2
        refine zb_Model_refusesTop_42 (zb_Model_refusesTop_48 ?_)
        rw [he, a_top0, if_neg h, if_pos h2]
        exact ⟨_, rfl, rfl, hF4⟩
  · rw [zn_eq (by omega) (by omega)] at h
    refine zb_Model_refusesTop_15 ?_
    rw [he, a_top0, if_pos h]
    exact ⟨_, rfl, rfl, hF'⟩
/-- why a laying is refused, or 0 -/
def a_lay0 (E : (Nat → Int32) → Int32) (s : aS) (v : aV) (x y : Int32) : Int32 := if z_isn x (s_n s) = true ∧ z_isn y (s_c s) = true then (if v_w v x.toNatClampNeg = 0 then a_top0 E s v x.toNatClampNeg y.toNatClampNeg else -2) else -1
theorem mc_refusesLay {K : Nat} {T : Nat → Nat} (hM : mRu K T σ) (h75 : σ.2 63 20 ≠ 75) (hR : mR s v σ a) (ha : z_kd a = (11, 53)) (hne : a ≠ 75 ∧ a ≠ 74 ∧ a ≠ 63) (x y : Int32) : z_Ci 343 zm_Model_refusesLay [.inr 63, .inr a, .inl x, .inl y] σ (fun r u => r = a_lay0 (tE K T) s v x y ∧ mF (fun q => q = 75) σ u) := by
  have hn := hR.n
  have h6 := hR.c6
  refine z_Ci_of (by decide) (Nat.le_of_ble_eq_true rfl) (fun Γ hd he => ?_)
  show z_J Γ zm_Model_refusesLay 0 [some (.inr 63), some (.inr a), some (.inl x), some (.inl y)] [] σ
  have no : ¬ (z_isn x (s_n s) = true ∧ z_isn y (s_c s) = true) → z_J Γ zm_Model_refusesLay 16 [none, none, none, none] [] σ := fun h => by
    refine zb_Model_refusesLay_16 ?_
    rw [he, a_lay0, if_neg h]
    exact ⟨_, rfl, rfl, mF.rf⟩
  refine zb_Model_refusesLay_0 ha (mc_isBook hn hR.2.1.1 x) (by omega) (fun r u h => ?_)
  obtain ⟨rfl, rfl⟩ := h
  refine zb_Model_refusesLay_5 ha (fun h => no (fun q => ?_)) (fun h => ?_)
  · rw [z_tf_eq0] at h
    rw [h] at q
    exact absurd q.1 (by decide)
  rw [z_tf_eq0, Bool.not_eq_false] at h
  refine zb_Model_refusesLay_8 ha (mc_isColumn h6 hR.2.1.2.1 y) (by omega) (fun r u h2 => ?_)
  obtain ⟨rfl, rfl⟩ := h2
  refine zb_Model_refusesLay_13 ha (fun h2 => ?_) (fun h2 => no (fun q => ?_))
  · rw [z_tf_eq0, Bool.not_eq_false] at h2
    obtain ⟨b, hb, rfl⟩ := z_isn_t (by omega) h
    obtain ⟨c, hc, rfl⟩ := z_isn_t (by omega) h2
    have ea : a_lay0 (tE K T) s v (nI b) (nI c) = if v_w v b = 0 then a_top0 (tE K T) s v b c else -2 := by
      unfold a_lay0
      rw [if_pos ⟨h, h2⟩, nI_clamp (by omega), nI_clamp (by omega)]
    rw [ea] at he
    have h3 := hR.w3 b
    have e0 : (0 : Int32) = nI 0 := rfl
    refine zb_Model_refusesLay_18 ha (z_ixn (by omega)) (fun hw => ?_) (fun hw => ?_)
    · rw [hR.fw hb, e0, zn_eq (by omega) (by omega)] at hw
      refine zb_Model_refusesLay_34 (zb_Model_refusesLay_36 ?_)
      rw [he, if_neg hw]
      exact ⟨_, rfl, rfl, mF.rf⟩
    · rw [hR.fw hb, e0, zn_eq (by omega) (by omega)] at hw
      refine zb_Model_refusesLay_24 ha (mc_refusesTop hM h75 hR ha hne hb hc) (by omega) (fun r u2 hr => ?_)
      obtain ⟨rfl, hF⟩ := hr
      refine zb_Model_refusesLay_31 (zb_Model_refusesLay_36 ?_)
      rw [he, if_pos hw]
      exact ⟨_, rfl, rfl, hF⟩
  · rw [z_tf_eq0] at h2
    rw [h2] at q
    exact absurd q.2 (by decide)
end
