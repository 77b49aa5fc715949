/-! the model's reading of a text: a state with the place and what was wrong -/
def w_I (w : Option Nat) : Int32 := match w with
  | none => -1
  | some p => nI p
def p_s (σ : zS) (q : Nat × Option Nat) : zS := z_pI (z_pI σ 63 15 (nI q.1)) 63 16 (w_I q.2)
theorem p_s_at (σ : zS) (q : Nat × Option Nat) : (p_s σ q).1 63 15 = nI q.1 := by
  unfold p_s
  rw [z_pI_ne2 (by decide), z_pI_at]
theorem p_s_wr (σ : zS) (q : Nat × Option Nat) : (p_s σ q).1 63 16 = w_I q.2 := by
  unfold p_s
  rw [z_pI_at]
theorem p_s_k (σ : zS) (q : Nat × Option Nat) {k : Nat} (h1 : k ≠ 15) (h2 : k ≠ 16) : (p_s σ q).1 63 k = σ.1 63 k := by
  unfold p_s
  rw [z_pI_ne2 h2, z_pI_ne2 h1]
theorem p_s_o (σ : zS) (q : Nat × Option Nat) {o : Nat} (h : o ≠ 63) : (p_s σ q).1 o = σ.1 o := by
  unfold p_s
  rw [z_pI_ne h, z_pI_ne h]
theorem p_s_2 (σ : zS) (q : Nat × Option Nat) : (p_s σ q).2 = σ.2 := rfl
theorem p_s_15 (σ : zS) (a b : Nat) (w : Option Nat) : z_pI (p_s σ (a, w)) 63 15 (nI b) = p_s σ (b, w) := by
  unfold p_s z_pI
  refine Prod.ext ?_ rfl
  funext o k
  simp only [z_up]
  by_cases h : o = 63
  · simp only [h, if_true]
    by_cases h1 : k = 15
    · subst h1; simp
    · by_cases h2 : k = 16
      · subst h2; simp
      · simp [h1, h2]
  · simp [h]
theorem p_s_16 (σ : zS) (a : Nat) (w w' : Option Nat) : z_pI (p_s σ (a, w)) 63 16 (w_I w') = p_s σ (a, w') := by
  unfold p_s z_pI
  refine Prod.ext ?_ rfl
  funext o k
  simp only [z_up]
  by_cases h : o = 63
  · simp only [h, if_true]
    by_cases h1 : k = 16
    · subst h1; simp
    · simp [h1]
  · simp [h]
/-- what is read: L signs, T; whether letters have worths, which -/
def rd_C (L : Nat) (T : Nat → Nat) (q : Bool) (e : Nat → Int32) (σ : zS) : Prop :=
  ∃ nm len top : Nat, z_kd (σ.2 63 12) = (9, nm) ∧ nm < 2147483648 ∧ σ.1 63 13 = nI len ∧ σ.1 63 14 = nI top ∧ len < 2147483648 ∧ top < 2147483648 ∧ L = min len top ∧ L ≤ nm ∧ L ≤ 80 ∧ (∀ i, i < L → T i < 256 ∧ σ.1 (σ.2 63 12) i = (nI (T i)).toInt8.toInt32) ∧ (σ.1 63 23 = 0 ↔ q = false) ∧ ∀ k, k < 6 → σ.1 74 k = e k
def d_ok (L : Nat) (q : Nat × Option Nat) : Prop := q.1 ≤ L ∧ ∀ p, q.2 = some p → p ≤ L
theorem w_I_n {w : Option Nat} {L : Nat} (h : ∀ p, w = some p → p ≤ L) (hL : L ≤ 80) : w_I w = -1 ↔ w = none := by
  cases w with
  | none => simp [w_I]
  | some p =>
    have := h p rfl
    simp only [w_I, reduceCtorEq, iff_false]
    exact zn_neg1 (by omega)
def d_he (L : Nat) (T : Nat → Nat) (a : Nat) : Int32 := if a < L then nI (T a) else -1
def d_pas (L : Nat) (T : Nat → Nat) (c : Nat) (q : Nat × Option Nat) : Bool × (Nat × Option Nat) := if q.2 = none ∧ q.1 < L ∧ T q.1 = c then (true, (q.1 + 1, none)) else (false, q)
def d_flt (q : Nat × Option Nat) : Nat × Option Nat := if q.2 = none then (q.1, some q.1) else q
def d_one (L : Nat) (T : Nat → Nat) (f m : Nat) (q : Nat × Option Nat) : Nat × (Nat × Option Nat) := if q.2 = none then (if q.1 < L ∧ f ≤ T q.1 ∧ T q.1 < f + m then (T q.1 - f, (q.1 + 1, none)) else (0, d_flt q)) else (0, q)
/-- .. more digits, at most k -/
def d_dig (L : Nat) (T : Nat → Nat) : Nat → Nat → (Nat × Option Nat) → Nat × (Nat × Option Nat)
  | 0, v, q => (v, q)
  | k + 1, v, q => if q.2 = none ∧ q.1 < L ∧ 48 ≤ T q.1 ∧ T q.1 < 58 then d_dig L T k (10 * v + (T q.1 - 48)) (q.1 + 1, none) else (v, q)
abbrev d_num (L : Nat) (T : Nat → Nat) (k : Nat) (q : Nat × Option Nat) : Nat × (Nat × Option Nat) := d_dig L T (k - 1) (d_one L T 48 10 q).1 (d_one L T 48 10 q).2
theorem zn_byte : ∀ n, n < 256 → (nI n).toInt8.toInt32 &&& nI 255 = nI n := by decide +kernel
theorem zn_byte7 : ∀ n, n < 128 → (nI n).toInt8.toInt32 = nI n := by decide +kernel
theorem mc_in (x y z : Int32) (σ : zS) : z_Ci 0 zm_Model_in [.inl x, .inl y, .inl z] σ (z_is (z_tf (decide (y ≤ x) && decide (x ≤ z))) σ) := by
  refine z_Ci_of (by decide) (Nat.le_of_ble_eq_true rfl) (fun Γ hd he => ?_)
  show z_J Γ zm_Model_in 0 [some (.inl x), some (.inl y), some (.inl z)] [] σ
  refine zb_Model_in_0 (fun h => ?_) (fun h => ?_)
  · refine zb_Model_in_14 (zb_Model_in_15 ?_ (Or.inl (by decide)))
    rw [he]
    refine ⟨_, rfl, ?_, rfl⟩
    simp [Int32.not_le.mpr h, z_tf]
  · refine zb_Model_in_5 (fun h2 => ?_) (fun h2 => ?_)
    · refine zb_Model_in_14 (zb_Model_in_15 ?_ (Or.inl (by decide)))
      rw [he]
      refine ⟨_, rfl, ?_, rfl⟩
      simp [Int32.not_le.mpr h2, z_tf]
    · refine zb_Model_in_10 (zb_Model_in_15 ?_ (Or.inr (by decide)))
      rw [he]
      refine ⟨_, rfl, ?_, rfl⟩
      simp [Int32.not_lt.mp h, Int32.not_lt.mp h2, z_tf]
section
variable {L : Nat} {T : Nat → Nat} {qa : Bool} {e : Nat → Int32} {σ : zS}
theorem rd_C.L80 (h : rd_C L T qa e σ) : L ≤ 80 := by
  obtain ⟨nm, len, top, h1, h2, h3, h4, h5, h6, h7, h8, h9, h10⟩ := h
  exact h9
theorem rd_C.T256 (h : rd_C L T qa e σ) {i : Nat} (hi : i < L) : T i < 256 := by
  obtain ⟨nm, len, top, h1, h2, h3, h4, h5, h6, h7, h8, h9, h10, h11⟩ := h
  exact (h10 i hi).1
theorem mc_fine (hC : rd_C L T qa e σ) {q : Nat × Option Nat} (hq : d_ok L q) : z_Ci 0 zm_Model_fine [.inr 63] (p_s σ q) (z_is (z_tf (decide (q.2 = none))) (p_s σ q)) := by
  have h80 := hC.L80
  refine z_Ci_of (by decide) (Nat.le_of_ble_eq_true rfl) (fun Γ hd he => ?_)
  show z_J Γ zm_Model_fine 0 [some (.inr 63)] [] (p_s σ q)
  refine zb_Model_fine_0 (fun h => ?_) (fun h => ?_)
  · rw [p_s_wr, w_I_n hq.2 h80] at h
    refine zb_Model_fine_12 (zb_Model_fine_13 ?_ (Or.inl (by decide)))
    rw [he]
    refine ⟨_, rfl, ?_, rfl⟩
    simp [h, z_tf]
  · rw [p_s_wr, w_I_n hq.2 h80] at h
    refine zb_Model_fine_8 (zb_Model_fine_13 ?_ (Or.inr (by decide)))
    rw [he]
    refine ⟨_, rfl, ?_, rfl⟩
    simp [h, z_tf]
theorem mc_here (hC : rd_C L T qa e σ) {q : Nat × Option Nat} (hq : d_ok L q) : z_Ci 0 zm_Model_here [.inr 63] (p_s σ q) (z_is (d_he L T q.1) (p_s σ q)) := by
  obtain ⟨nm, len, top, h1, h2, h3, h4, h5, h6, h7, h8, h9, h10, h11⟩ := hC
  refine z_Ci_of (by decide) (Nat.le_of_ble_eq_true rfl) (fun Γ hd he => ?_)
  show z_J Γ zm_Model_here 0 [some (.inr 63)] [] (p_s σ q)
  have hq1 := hq.1
  have no : ¬ q.1 < L → z_J Γ zm_Model_here 38 [none] [] (p_s σ q) := fun h => by
    refine zb_Model_here_38 (zb_Model_here_39 ?_)
    rw [he]
    exact ⟨_, rfl, by rw [d_he, if_neg h], rfl⟩
  refine zb_Model_here_0 (fun h => no ?_) (fun h => ?_)
  · rw [p_s_k _ _ (by decide) (by decide), p_s_at, h3, zn_le h5 (by omega)] at h
    omega
  · rw [p_s_k _ _ (by decide) (by decide), p_s_at, h3, zn_le h5 (by omega)] at h
    refine zb_Model_here_11 (fun h' => no ?_) (fun h' => ?_)
    · rw [p_s_k _ _ (by decide) (by decide), p_s_at, h4, zn_le h6 (by omega)] at h'
      omega
    · rw [p_s_k _ _ (by decide) (by decide), p_s_at, h4, zn_le h6 (by omega)] at h'
      have hl : q.1 < L := by omega
      have hne : σ.2 63 12 ≠ 63 := fun e => by
        rw [e] at h1
        have h9 : (z_kd 63).1 = 9 := congrArg Prod.fst h1
        exact absurd h9 (by decide)
      refine zb_Model_here_22 (nm1 := nm) (k1 := q.1) h2 (by rw [p_s_2]; exact h1) ⟨p_s_at _ _, by omega⟩ (zb_Model_here_39 ?_)
      rw [he, p_s_2, p_s_o _ _ hne, (h10 _ hl).2, zn_byte _ (h10 _ hl).1]
      exact ⟨_, rfl, by rw [d_he, if_pos hl], rfl⟩
theorem d_he_ne (h : ∀ i, i < L → T i < 256) {a c : Nat} (hc : c < 2147483648) : d_he L T a = nI c ↔ a < L ∧ T a = c := by
  unfold d_he
  by_cases ha : a < L
  · have := h a ha
    rw [if_pos ha, zn_eq (by omega) hc]
    simp [ha]
  · rw [if_neg ha]
    simp only [ha, false_and, iff_false]
    exact fun q => zn_neg1 hc q.symm
theorem mc_fault (hC : rd_C L T qa e σ) {q : Nat × Option Nat} (hq : d_ok L q) : z_Cv 1 zm_Model_fault [.inr 63, .inl (nI q.1)] (p_s σ q) (fun u => u = p_s σ (d_flt q)) := by
  refine z_Cv_of (by decide) (Nat.le_of_ble_eq_true rfl) (fun Γ hd he => ?_)
  show z_J Γ zm_Model_fault 0 [some (.inr 63), some (.inl (nI q.1))] [] (p_s σ q)
  refine zb_Model_fault_0 (mc_fine hC hq) (by omega) (fun r u h => ?_)
  obtain ⟨rfl, rfl⟩ := h
  refine zb_Model_fault_4 (fun h => ?_) (fun h => ?_)
  · rw [z_tf_eq0, decide_eq_false_iff_not] at h
    refine zb_Model_fault_12 ?_
    rw [he, d_flt, if_neg h]
    exact ⟨rfl, rfl⟩
  · rw [z_tf_eq0, decide_eq_false_iff_not, Decidable.not_not] at h
    refine zb_Model_fault_7 (zb_Model_fault_12 ?_)
    rw [he, d_flt, if_pos h]
    obtain ⟨a, w⟩ := q
    exact ⟨rfl, p_s_16 σ a w (some a)⟩
theorem mc_passes (hC : rd_C L T qa e σ) {q : Nat × Option Nat} (hq : d_ok L q) {c : Nat} (hc : c < 256) : z_Ci 1 zm_Model_passes [.inr 63, .inl (nI c)] (p_s σ q) (fun r u => r = z_tf (d_pas L T c q).1 ∧ u = p_s σ (d_pas L T c q).2) := by
  refine z_Ci_of (by decide) (Nat.le_of_ble_eq_true rfl) (fun Γ hd he => ?_)
  show z_J Γ zm_Model_passes 0 [some (.inr 63), some (.inl (nI c))] [] (p_s σ q)
  have no : ¬ (q.2 = none ∧ q.1 < L ∧ T q.1 = c) → z_J Γ zm_Model_passes 15 [none, none] [] (p_s σ q) := fun h => by
    refine zb_Model_passes_15 ?_
    rw [he, d_pas, if_neg h]
    exact ⟨_, rfl, rfl, rfl⟩
  refine zb_Model_passes_0 (mc_fine hC hq) (by omega) (fun r u h => ?_)
  obtain ⟨rfl, rfl⟩ := h
  refine zb_Model_passes_4 (fun h => no (fun q => ?_)) (fun h => ?_)
  · rw [z_tf_eq0, decide_eq_false_iff_not] at h
    exact h q.1
  rw [z_tf_eq0, decide_eq_false_iff_not, Decidable.not_not] at h
  refine zb_Model_passes_7 (mc_here hC hq) (by omega) (fun r u h2 => ?_)
  obtain ⟨rfl, rfl⟩ := h2
  refine zb_Model_passes_11 (fun h2 => ?_) (fun h2 => no (fun q => ?_))
  · rw [d_he_ne (fun i hi => hC.T256 hi) (by omega)] at h2
    refine zb_Model_passes_17 ?_
    rw [he, d_pas, if_pos ⟨h, h2⟩, p_s_at, nI_add]
    obtain ⟨a, w⟩ := q
    have h : w = none := h
    subst h
    exact ⟨_, rfl, rfl, p_s_15 σ a (a + 1) none⟩
  · rw [d_he_ne (fun i hi => hC.T256 hi) (by omega)] at h2
    exact h2 q.2
theorem d_flt_ok {q : Nat × Option Nat} (hq : d_ok L q) : d_ok L (d_flt q) := by
  unfold d_flt
  split
  · exact ⟨hq.1, fun p hp => by cases hp; exact hq.1⟩
  · exact hq
theorem d_pas_ok {q : Nat × Option Nat} (hq : d_ok L q) (c : Nat) : d_ok L (d_pas L T c q).2 := by
  unfold d_pas
  split
  · rename_i h
    exact ⟨h.2.1, fun p hp => by cases hp⟩
  · exact hq
theorem d_one_ok {q : Nat × Option Nat} (hq : d_ok L q) (f m : Nat) : d_ok L (d_one L T f m q).2 := by
  unfold d_one
  split
  · split
    · rename_i h
      exact ⟨h.1, fun p hp => by cases hp⟩
    · exact d_flt_ok hq
  · exact hq
theorem d_dig_ok : ∀ (k v : Nat) {q : Nat × Option Nat}, d_ok L q → d_ok L (d_dig L T k v q).2
  | 0, v, q, hq => hq
  | k + 1, v, q, hq => by
    rw [d_dig]
    split
    · rename_i h
      exact d_dig_ok k _ ⟨h.2.1, fun p hp => by cases hp⟩
    · exact hq
def d_nd (L : Nat) (T : Nat → Nat) (c : Nat) (q : Nat × Option Nat) : Nat × Option Nat := if (d_pas L T c q).1 = true then (d_pas L T c q).2 else d_flt (d_pas L T c q).2
theorem d_nd_ok {q : Nat × Option Nat} (hq : d_ok L q) (c : Nat) : d_ok L (d_nd L T c q) := by
  unfold d_nd
  split
  · exact d_pas_ok hq c
  · exact d_flt_ok (d_pas_ok hq c)
theorem mc_need (hC : rd_C L T qa e σ) {q : Nat × Option Nat} (hq : d_ok L q) {c : Nat} (hc : c < 256) : z_Cv 2 zm_Model_need [.inr 63, .inl (nI c)] (p_s σ q) (fun u => u = p_s σ (d_nd L T c q)) := by
  refine z_Cv_of (by decide) (Nat.le_of_ble_eq_true rfl) (fun Γ hd he => ?_)
  show z_J Γ zm_Model_need 0 [some (.inr 63), some (.inl (nI c))] [] (p_s σ q)
  refine zb_Model_need_0 (mc_passes hC hq hc) (by omega) (fun r u h => ?_)
  obtain ⟨rfl, rfl⟩ := h
  refine zb_Model_need_5 (fun h => ?_) (fun h => ?_)
  · rw [z_tf_eq0, Bool.not_eq_false] at h
    refine zb_Model_need_16 ?_
    rw [he, d_nd, if_pos h]
    exact ⟨rfl, rfl⟩
  · rw [z_tf_eq0] at h
    refine zb_Model_need_8 (P := fun u => u = p_s σ (d_flt (d_pas L T c q).2)) (dc := 1) (by rw [p_s_at]; exact mc_fault hC (d_pas_ok hq c)) (by omega) (fun u hu => ?_)
    refine zb_Model_need_16 ?_
    rw [he, d_nd, if_neg (by rw [h]; decide), hu]
    exact ⟨rfl, rfl⟩
theorem d_he_in (h : ∀ i, i < L → T i < 256) {a f m : Nat} (hf : f + m < 2147483648) (hm : 0 < m) : (decide (nI f ≤ d_he L T a) && decide (d_he L T a ≤ nI (f + m - 1))) = decide (a < L ∧ f ≤ T a ∧ T a < f + m) := by
  unfold d_he
  by_cases ha : a < L
  · have := h a ha
    rw [if_pos ha, Bool.eq_iff_iff]
    simp only [Bool.and_eq_true, decide_eq_true_eq]
    rw [zn_le (by omega) (by omega), zn_le (by omega) (by omega)]
    omega
  · rw [if_neg ha]
    have : ¬ nI f ≤ (-1 : Int32) := by
      rw [Int32.le_iff_toInt_le, nI_toInt (by omega)]
      have : (-1 : Int32).toInt = -1 := by decide
      omega
    simp [this, ha]
theorem mc_oneOf (hC : rd_C L T qa e σ) {q : Nat × Option Nat} (hq : d_ok L q) {f m : Nat} (hm : 0 < m) (hfm : f + m ≤ 128) : z_Ci 2 zm_Model_oneOf [.inr 63, .inl (nI f), .inl (nI m)] (p_s σ q) (fun r u => r = nI (d_one L T f m q).1 ∧ u = p_s σ (d_one L T f m q).2) := by
  have hT := fun i (hi : i < L) => hC.T256 hi
  refine z_Ci_of (by decide) (Nat.le_of_ble_eq_true rfl) (fun Γ hd he => ?_)
  show z_J Γ zm_Model_oneOf 0 [some (.inr 63), some (.inl (nI f)), some (.inl (nI m))] [] (p_s σ q)
  refine zb_Model_oneOf_0 (mc_fine hC hq) (by omega) (fun r u h => ?_)
  obtain ⟨rfl, rfl⟩ := h
  refine zb_Model_oneOf_4 (fun h => ?_) (fun h => ?_)
  · rw [z_tf_eq0, decide_eq_false_iff_not, Decidable.not_not] at h
    refine zb_Model_oneOf_9 (mc_here hC hq) (by omega) (fun r u h2 => ?_)
    obtain ⟨rfl, rfl⟩ := h2
    refine zb_Model_oneOf_13 (mc_in _ _ _ _) (by omega) (fun r u h2 => ?_)
    obtain ⟨rfl, rfl⟩ := h2
    rw [nI_add, zn_pred (by omega), d_he_in hT (by omega) hm]
    refine zb_Model_oneOf_22 (fun h2 => ?_) (fun h2 => ?_)
    · rw [z_tf_eq0, decide_eq_false_iff_not, Decidable.not_not] at h2
      obtain ⟨nm, len, top, g1, g2, g3, g4, g5, g6, g7, g8, g9, g10, g11⟩ := hC
      have hne : σ.2 63 12 ≠ 63 := fun e => by
        rw [e] at g1
        have h9 : (z_kd 63).1 = 9 := congrArg Prod.fst g1
        exact absurd h9 (by decide)
      obtain ⟨a, w⟩ := q
      have h : w = none := h
      subst h
      have h2' : a < L ∧ f ≤ T a ∧ T a < f + m := h2
      refine zb_Model_oneOf_35 (nm1 := nm) (k1 := a) g2 g1 ⟨?_, by omega⟩ ?_
      · rw [z_pI_at, p_s_at, nI_add, zn_pred (by omega)]
        rfl
      · rw [he, p_s_at, nI_add, p_s_15, p_s_2, p_s_o _ _ hne, (g10 a h2'.1).2, zn_byte7 _ (by omega), pk_sub h2'.2.1]
        have ed : d_one L T f m (a, none) = (T a - f, (a + 1, none)) := by
          unfold d_one
          rw [if_pos rfl, if_pos h2']
        rw [ed]
        exact ⟨_, rfl, rfl, rfl⟩
    · rw [z_tf_eq0, decide_eq_false_iff_not] at h2
      have ed : d_one L T f m q = (0, d_flt q) := by
        unfold d_one
        rw [if_pos h, if_neg h2]
      refine zb_Model_oneOf_25 (P := fun u => u = p_s σ (d_flt q)) (dc := 1) (by rw [p_s_at]; exact mc_fault hC hq) (by omega) (fun u hu => ?_)
      refine zb_Model_oneOf_33 ?_
      rw [he, ed, hu]
      exact ⟨_, rfl, rfl, rfl⟩
  · rw [z_tf_eq0, decide_eq_false_iff_not] at h
    refine zb_Model_oneOf_7 ?_
    have ed : d_one L T f m q = (0, q) := by
      unfold d_one
      rw [if_neg h]
    rw [he, ed]
    exact ⟨_, rfl, rfl, rfl⟩
theorem mc_number (hC : rd_C L T qa e σ) {q : Nat × Option Nat} (hq : d_ok L q) {k : Nat} (hk : 1 ≤ k) (hk2 : k ≤ 3) : z_Ci 3 zm_Model_number [.inr 63, .inl (nI k)] (p_s σ q) (fun r u => r = nI (d_num L T k q).1 ∧ u = p_s σ (d_num L T k q).2) := by
  have hT := fun i (hi : i < L) => hC.T256 hi
  refine z_Ci_of (by decide) (Nat.le_of_ble_eq_true rfl) (fun Γ hd he => ?_)
  show z_J Γ zm_Model_number 0 [some (.inr 63), some (.inl (nI k)), none, none] [] (p_s σ q)
  refine zb_Model_number_0 (mc_oneOf hC hq (by omega) (by omega)) (by omega) (fun r u h => ?_)
  obtain ⟨rfl, rfl⟩ := h
  refine zb_Model_number_8 ?_
  -- the loop
  have loop : ∀ j i v p, i + j = k → 1 ≤ i → d_ok L p → d_dig L T j v p = d_num L T k q → z_J Γ zm_Model_number 11 [some (.inr 63), some (.inl (nI k)), some (.inl (nI v)), some (.inl (nI i))] [] (p_s σ p) := by
    intro j
    induction j with
    | zero =>
      intro i v p hi h1 hp hed
      refine zb_Model_number_11 (fun _ => ?_) (fun h => absurd (nI_le (show k ≤ i by omega) (by omega)) h)
      refine zb_Model_number_57 ?_
      rw [he, ← hed]
      exact ⟨_, rfl, rfl, rfl⟩
    | succ j ih =>
      intro i v p hi h1 hp hed
      have stop : ¬ (p.2 = none ∧ p.1 < L ∧ 48 ≤ T p.1 ∧ T p.1 < 58) → z_J Γ zm_Model_number 57 [none, none, some (.inl (nI v)), none] [] (p_s σ p) := fun h => by
        refine zb_Model_number_57 ?_
        rw [he, ← hed, d_dig, if_neg h]
        exact ⟨_, rfl, rfl, rfl⟩
      refine zb_Model_number_11 (fun h => absurd h (nI_ge (by omega) (by omega))) (fun _ => ?_)
      refine zb_Model_number_16 (mc_fine hC hp) (by omega) (fun r u h => ?_)
      obtain ⟨rfl, rfl⟩ := h
      refine zb_Model_number_20 (fun h => stop (fun q => ?_)) (fun h => ?_)
      · rw [z_tf_eq0, decide_eq_false_iff_not] at h
        exact h q.1
      rw [z_tf_eq0, decide_eq_false_iff_not, Decidable.not_not] at h
      refine zb_Model_number_23 (mc_here hC hp) (by omega) (fun r u h2 => ?_)
      obtain ⟨rfl, rfl⟩ := h2
      refine zb_Model_number_27 (mc_in _ _ _ _) (by omega) (fun r u h2 => ?_)
      obtain ⟨rfl, rfl⟩ := h2
      have hin := d_he_in hT (a := p.1) (f := 48) (m := 10) (by omega) (by omega)
      have e57 : nI (48 + 10 - 1) = nI 57 := rfl
      rw [e57] at hin
      rw [hin]
      refine zb_Model_number_34 (fun h2 => stop (fun q => ?_)) (fun h2 => ?_)
      · rw [z_tf_eq0, decide_eq_false_iff_not] at h2
        exact h2 q.2
      rw [z_tf_eq0, decide_eq_false_iff_not, Decidable.not_not] at h2
      have ed : d_one L T 48 10 p = (T p.1 - 48, (p.1 + 1, none)) := by
        unfold d_one
        rw [if_pos h, if_pos h2]
      have hone := mc_oneOf hC hp (f := 48) (m := 10) (by omega) (by omega)
      rw [ed] at hone
      refine zb_Model_number_37 hone (by omega) (fun r u h3 => ?_)
      obtain ⟨rfl, rfl⟩ := h3
      refine zb_Model_number_49 ?_
      rw [pk_mul, nI_add, nI_add]
      refine ih (i + 1) _ _ (by omega) (by omega) ⟨h2.1, fun p hp => by cases hp⟩ ?_
      rw [← hed, d_dig, if_pos ⟨h, h2⟩]
  exact loop (k - 1) 1 _ _ (by omega) (by omega) (d_one_ok hq _ _) rfl
def d_let (c : Nat) : Option Nat := if c = 116 then some 0 else if c = 119 then some 1 else if c = 99 then some 2 else if c = 107 then some 3 else if c = 110 then some 4 else if c = 100 then some 5 else none
theorem mc_letterOf {c : Nat} (hc : c < 256) (σ : zS) : z_Ci 0 zm_Model_letterOf [.inl (nI c)] σ (z_is (w_I (d_let c)) σ) := by
  refine z_Ci_of (by decide) (Nat.le_of_ble_eq_true rfl) (fun Γ hd he => ?_)
  show z_J Γ zm_Model_letterOf 0 [some (.inl (nI c))] [] σ
  have fin : ∀ x, x = w_I (d_let c) → z_J Γ zm_Model_letterOf 61 [none] [.inl x] σ := fun x hx => by
    refine zb_Model_letterOf_61 ?_
    rw [he]
    exact ⟨_, rfl, hx, rfl⟩
  refine zb_Model_letterOf_0 (fun h1 => ?_) (fun h => zb_Model_letterOf_6 (fin _ ?_))
  · refine zb_Model_letterOf_10 (fun h2 => ?_) (fun h => zb_Model_letterOf_16 (fin _ ?_))
    · refine zb_Model_letterOf_20 (fun h3 => ?_) (fun h => zb_Model_letterOf_26 (fin _ ?_))
      · refine zb_Model_letterOf_30 (fun h4 => ?_) (fun h => zb_Model_letterOf_36 (fin _ ?_))
        · refine zb_Model_letterOf_40 (fun h5 => ?_) (fun h => zb_Model_letterOf_46 (fin _ ?_))
          · refine zb_Model_letterOf_50 (fun h6 => ?_) (fun h => zb_Model_letterOf_56 (fin _ ?_))
            · refine zb_Model_letterOf_60 (fin _ ?_)
              rw [zn_eq (by omega) (by omega)] at h1 h2 h3 h4 h5 h6
              simp [d_let, h1, h2, h3, h4, h5, h6, w_I]
            · rw [zn_eq (by omega) (by omega)] at h
              subst h
              rfl
          · rw [zn_eq (by omega) (by omega)] at h
            subst h
            rfl
        · rw [zn_eq (by omega) (by omega)] at h
          subst h
          rfl
      · rw [zn_eq (by omega) (by omega)] at h
        subst h
        rfl
    · rw [zn_eq (by omega) (by omega)] at h
      subst h
      rfl
  · rw [zn_eq (by omega) (by omega)] at h
    subst h
    rfl
end
