/-! the model's columns -/
def mBk (s : aS) (σ : zS) : Prop := s_n s ≤ 12 ∧ σ.1 63 1 = nI (s_n s) ∧ ∀ b, b < s_n s → σ.1 65 b = nI (s_t s b) ∧ σ.1 66 b = nI (s_w s b) ∧ s_t s b ≤ 9 ∧ s_w s b ≤ 9
/-- the books of a column, in no order -/
def mI (s : aS) (f : Nat → Int32) (c : Nat) (l : List Nat) : Prop := (∀ b, b ∈ l → b < s_n s) ∧ ∀ b, b < s_n s → ((f b = nI 1 ∧ f (12 + b) = nI c) ↔ b ∈ l)
/-- .. in their order -/
def mC (s : aS) (f : Nat → Int32) (c : Nat) (l : List Nat) : Prop := l.Nodup ∧ l.length ≤ 4 ∧ mI s f c l ∧ ∀ b, b ∈ l → f (24 + b) = nI (l.idxOf b)
def l_bits (l : List Nat) : Nat → Nat
  | 0 => 0
  | b + 1 => if b ∈ l then l_bits l b ||| 2 ^ b else l_bits l b
def m_thk (t : Nat → Nat) (m : Nat) : Nat → Nat
  | 0 => 0
  | b + 1 => m_thk t m b + (if m.testBit b = true then t b else 0)
theorem l_bits_bit (l : List Nat) : ∀ n b, (l_bits l n).testBit b = decide (b < n ∧ b ∈ l)
  | 0, b => by simp [l_bits]
  | n + 1, b => by
    have ih := l_bits_bit l n b
    rw [l_bits]
    split
    · rename_i h
      rw [Nat.testBit_or, ih, Nat.testBit_two_pow]
      by_cases e : n = b
      · subst e
        simp [h]
      · have : b < n + 1 ↔ b < n := by omega
        simp [e, this]
    · rename_i h
      rw [ih]
      by_cases e : b = n
      · subst e
        simp [h]
      · have : b < n + 1 ↔ b < n := by omega
        simp [this]
theorem l_bits_lt (l : List Nat) : ∀ n, l_bits l n < 2 ^ n
  | 0 => by simp [l_bits]
  | n + 1 => by
    have ih := l_bits_lt l n
    have h2 : 2 ^ n < 2 ^ (n + 1) := Nat.pow_lt_pow_right (by decide) (by omega)
    rw [l_bits]
    split
    · exact Nat.or_lt_two_pow (by omega) h2
    · omega
theorem z_min_comm (x y : Int32) : z_min x y = z_min y x := by
  unfold z_min
  by_cases h : y < x
  · rw [if_pos h, if_neg (Int32.not_lt.mpr (Int32.le_of_lt h))]
  · rw [if_neg h]
    by_cases h2 : x < y
    · rw [if_pos h2]
    · rw [if_neg h2]
      exact Int32.le_antisymm (Int32.not_lt.mp h) (Int32.not_lt.mp h2)
theorem l_h_sum (t : Nat → Nat) (l : List Nat) : l_h t l = (l.map t).sum := by
  have key : ∀ i, i ≤ l.length → l_hwi t l 0 i = ((l.take i).map t).sum := by
    intro i
    induction i with
    | zero => intro _; simp [l_hwi]
    | succ i ih =>
      intro hi
      have hi' : i < l.length := by omega
      rw [l_hwi, ih (by omega), List.take_add_one, List.getElem?_eq_getElem hi', List.map_append, List.sum_append]
      congr 1
      simp [List.getElem?_eq_getElem hi']
  have h := key l.length (Nat.le_refl _)
  rw [List.take_length] at h
  exact h
theorem m_thk_sum (t : Nat → Nat) (m : Nat) : ∀ n, m_thk t m n = (((List.range n).filter (fun b => m.testBit b)).map t).sum
  | 0 => by simp [m_thk]
  | n + 1 => by
    rw [m_thk, m_thk_sum t m n, List.range_succ, List.filter_append, List.map_append, List.sum_append]
    by_cases h : m.testBit n = true
    · simp [h]
    · simp [h]
theorem m_thk_l {t : Nat → Nat} {l : List Nat} {n : Nat} (hn : l.Nodup) (hl : ∀ b, b ∈ l → b < n) : m_thk t (l_bits l n) n = l_h t l := by
  rw [m_thk_sum, l_h_sum]
  have hp : ((List.range n).filter (fun b => (l_bits l n).testBit b)).Perm l := by
    rw [List.perm_ext_iff_of_nodup (List.nodup_range.filter _) hn]
    intro b
    rw [List.mem_filter, List.mem_range, l_bits_bit]
    constructor
    · rintro ⟨h1, h2⟩
      exact (of_decide_eq_true h2).2
    · intro h
      exact ⟨hl b h, decide_eq_true ⟨hl b h, h⟩⟩
  exact (hp.map t).sum_nat
section
variable {s : aS} {σ : zS} {a : Nat}
theorem mc_has (m k : Nat) (hm : m < 2147483648) (hk : k < 32) (σ : zS) : z_Ci 0 zm_Model_has [.inl (nI m), .inl (nI k)] σ (z_is (z_tf (m.testBit k)) σ) := by
  refine z_Ci_of (by decide) (Nat.le_of_ble_eq_true rfl) (fun Γ hd he => ?_)
  show z_J Γ zm_Model_has 0 [some (.inl (nI m)), some (.inl (nI k))] [] σ
  refine zb_Model_has_0 (fun h => ?_) (fun h => ?_)
  · rw [zn_bit1 hm hk, Bool.not_eq_true] at h
    refine zb_Model_has_13 (zb_Model_has_14 ?_ (Or.inl (by decide)))
    rw [he, h]
    exact ⟨_, rfl, rfl, rfl⟩
  · rw [zn_bit1 hm hk] at h
    refine zb_Model_has_9 (zb_Model_has_14 ?_ (Or.inr (by decide)))
    rw [he, h]
    exact ⟨_, rfl, rfl, rfl⟩
theorem mc_inColumn (hB : s_n s ≤ 12 ∧ σ.1 63 1 = nI (s_n s)) (ha : z_kd a = (11, 53)) {c : Nat} {l : List Nat} (hI : mI s (σ.1 a) c l) : z_Ci 0 zm_Model_inColumn [.inr 63, .inr a, .inl (nI c)] σ (z_is (nI (l_bits l (s_n s))) σ) := by
  obtain ⟨hn, hf⟩ := hB
  refine z_Ci_of (by decide) (Nat.le_of_ble_eq_true rfl) (fun Γ hd he => ?_)
  show z_J Γ zm_Model_inColumn 0 [some (.inr 63), some (.inr a), some (.inl (nI c)), none, none] [] σ
  refine zb_Model_inColumn_0 ha ?_
  refine zj_for (b := s_n s) (fun i => [some (.inr 63), some (.inr a), some (.inl (nI c)), some (.inl (nI (l_bits l i))), some (.inl (nI i))]) (fun _ => σ) (fun i hi k => ?_) ?_ 0 (Nat.zero_le _)
  · refine zb_Model_inColumn_5 ha (fun h => ?_) (fun _ => ?_)
    · rw [hf] at h
      exact absurd h (nI_ge hi (by omega))
    have no : i ∉ l → z_J Γ zm_Model_inColumn 41 [some (.inr 63), some (.inr a), some (.inl (nI c)), none, some (.inl (nI i))] [.inl (nI (l_bits l i))] σ := fun h => by
      refine zb_Model_inColumn_41 ha (zb_Model_inColumn_42 ha ?_)
      rw [zn_or, Nat.or_zero, nI_add]
      simp only [l_bits, h, if_false] at k
      exact k
    refine zb_Model_inColumn_14 ha (z_ixn (by omega)) (fun h => no (fun q => h ((hI.2 i hi).mpr q).1)) (fun h => ?_)
    refine zb_Model_inColumn_23 ha (k1 := 12 + i) ⟨nI_add _ _, by omega⟩ (fun h2 => no (fun q => h2 ((hI.2 i hi).mpr q).2)) (fun h2 => ?_)
    have hm := (hI.2 i hi).mp ⟨h, h2⟩
    refine zb_Model_inColumn_34 ha (zb_Model_inColumn_42 ha ?_)
    rw [zn_shl (by omega), zn_or, nI_add]
    simp only [l_bits, hm, if_true] at k
    exact k
  · refine zb_Model_inColumn_5 ha (fun _ => ?_) (fun h => ?_)
    · refine zb_Model_inColumn_50 ?_
      rw [he]
      exact ⟨_, rfl, rfl, rfl⟩
    · rw [hf] at h
      exact absurd (Int32.le_refl _) h
theorem mc_thickOf (hB : mBk s σ) {m : Nat} (hm : m < 2147483648) : z_Ci 1 zm_Model_thickOf [.inr 63, .inl (nI m)] σ (z_is (nI (m_thk (s_t s) m (s_n s))) σ) := by
  obtain ⟨hn, hf, hb⟩ := hB
  refine z_Ci_of (by decide) (Nat.le_of_ble_eq_true rfl) (fun Γ hd he => ?_)
  show z_J Γ zm_Model_thickOf 0 [some (.inr 63), some (.inl (nI m)), none, none] [] σ
  refine zb_Model_thickOf_0 ?_
  refine zj_for (b := s_n s) (fun i => [some (.inr 63), some (.inl (nI m)), some (.inl (nI (m_thk (s_t s) m i))), some (.inl (nI i))]) (fun _ => σ) (fun i hi k => ?_) ?_ 0 (Nat.zero_le _)
  · refine zb_Model_thickOf_4 (fun h => ?_) (fun _ => ?_)
    · rw [hf] at h
      exact absurd h (nI_ge hi (by omega))
    refine zb_Model_thickOf_12 (mc_has m i hm (by omega) σ) (by omega) (fun r σ1 h => ?_)
    obtain ⟨rfl, rfl⟩ := h
    refine zb_Model_thickOf_18 (fun h => ?_) (fun h => ?_)
    · rw [z_tf_eq0] at h
      refine zb_Model_thickOf_30 (zb_Model_thickOf_31 ?_)
      rw [nI_add, nI_add]
      simp only [m_thk, h, Bool.false_eq_true, if_false] at k
      exact k
    · rw [z_tf_eq0, Bool.not_eq_false] at h
      refine zb_Model_thickOf_21 (k1 := i) (z_ixn (by omega)) (zb_Model_thickOf_31 ?_)
      rw [(hb i hi).1, nI_add, nI_add]
      simp only [m_thk, h, if_true] at k
      exact k
  · refine zb_Model_thickOf_4 (fun _ => ?_) (fun h => ?_)
    · refine zb_Model_thickOf_39 ?_
      rw [he]
      exact ⟨_, rfl, rfl, rfl⟩
    · rw [hf] at h
      exact absurd (Int32.le_refl _) h
theorem l_bits_31 {l : List Nat} {n : Nat} (hn : n ≤ 12) : l_bits l n < 2147483648 := by
  have h := l_bits_lt l n
  have h2 : 2 ^ n ≤ 2 ^ 12 := Nat.pow_le_pow_right (by decide) hn
  omega
theorem mc_heightOf (hB : mBk s σ) (ha : z_kd a = (11, 53)) {c : Nat} {l : List Nat} (hN : l.Nodup) (hI : mI s (σ.1 a) c l) : z_Ci 2 zm_Model_heightOf [.inr 63, .inr a, .inl (nI c)] σ (z_is (nI (l_h (s_t s) l)) σ) := by
  refine z_Ci_of (by decide) (Nat.le_of_ble_eq_true rfl) (fun Γ hd he => ?_)
  show z_J Γ zm_Model_heightOf 0 [some (.inr 63), some (.inr a), some (.inl (nI c))] [] σ
  refine zb_Model_heightOf_0 ha (mc_inColumn ⟨hB.1, hB.2.1⟩ ha hI) (by omega) (fun r σ1 h => ?_)
  obtain ⟨rfl, rfl⟩ := h
  refine zb_Model_heightOf_7 (mc_thickOf hB (l_bits_31 hB.1)) (by omega) (fun r σ2 h => ?_)
  obtain ⟨rfl, rfl⟩ := h
  refine zb_Model_heightOf_10 ?_
  rw [he, m_thk_l hN hI.1]
  exact ⟨_, rfl, rfl, rfl⟩
/-- the least of heights -/
def m_lhi (t : Nat → Nat) (P : Nat → List Nat) : Nat → Nat
  | 0 => 1000000
  | c + 1 => if l_h t (P c) < m_lhi t P c then l_h t (P c) else m_lhi t P c
theorem m_lhi_le (t : Nat → Nat) (P : Nat → List Nat) : ∀ c, m_lhi t P c ≤ 1000000
  | 0 => Nat.le_refl _
  | c + 1 => by
    have := m_lhi_le t P c
    rw [m_lhi]
    split <;> omega
theorem mc_leastHeight (hB : mBk s σ) (hc6 : s_c s ≤ 6) (hc : σ.1 63 4 = nI (s_c s)) (ha : z_kd a = (11, 53)) {P : Nat → List Nat} (hP : ∀ c, c < s_c s → (P c).Nodup ∧ mI s (σ.1 a) c (P c) ∧ l_h (s_t s) (P c) < 1000000) : z_Ci 3 zm_Model_leastHeight [.inr 63, .inr a] σ (z_is (nI (m_lhi (s_t s) P (s_c s))) σ) := by
  refine z_Ci_of (by decide) (Nat.le_of_ble_eq_true rfl) (fun Γ hd he => ?_)
  show z_J Γ zm_Model_leastHeight 0 [some (.inr 63), some (.inr a), none, none] [] σ
  refine zb_Model_leastHeight_0 ha ?_
  have e1 : (1000000 : Int32) = nI 1000000 := rfl
  rw [e1]
  refine zj_for (b := s_c s) (fun i => [some (.inr 63), some (.inr a), some (.inl (nI (m_lhi (s_t s) P i))), some (.inl (nI i))]) (fun _ => σ) (fun i hi k => ?_) ?_ 0 (Nat.zero_le _)
  · refine zb_Model_leastHeight_5 ha (fun h => ?_) (fun _ => ?_)
    · rw [hc] at h
      exact absurd h (nI_ge hi (by omega))
    refine zb_Model_leastHeight_13 ha (mc_heightOf hB ha (hP i hi).1 (hP i hi).2.1) (by omega) (fun r σ1 h => ?_)
    obtain ⟨rfl, rfl⟩ := h
    have h1 := m_lhi_le (s_t s) P i
    have h2 := (hP i hi).2.2
    refine zb_Model_leastHeight_20 ha (by omega) ?_
    rw [zn_min (by omega) (by omega), nI_add]
    exact k
  · refine zb_Model_leastHeight_5 ha (fun _ => ?_) (fun h => ?_)
    · refine zb_Model_leastHeight_30 ?_
      rw [he]
      exact ⟨_, rfl, rfl, rfl⟩
    · rw [hc] at h
      exact absurd (Int32.le_refl _) h
theorem mc_whereBits (hB : s_n s ≤ 12 ∧ σ.1 63 1 = nI (s_n s)) (ha : z_kd a = (11, 53)) {v : aV} (hw : ∀ b, b < s_n s → v_w v b ≤ 3 ∧ σ.1 a b = nI (v_w v b)) {w : Nat} (hw2 : w < 2147483648) : z_Ci 0 zm_Model_whereBits [.inr 63, .inr a, .inl (nI w)] σ (z_is (nI (a_bw v w (s_n s))) σ) := by
  obtain ⟨hn, hf⟩ := hB
  refine z_Ci_of (by decide) (Nat.le_of_ble_eq_true rfl) (fun Γ hd he => ?_)
  show z_J Γ zm_Model_whereBits 0 [some (.inr 63), some (.inr a), some (.inl (nI w)), none, none] [] σ
  refine zb_Model_whereBits_0 ha ?_
  refine zj_for (b := s_n s) (fun i => [some (.inr 63), some (.inr a), some (.inl (nI w)), some (.inl (nI (a_bw v w i))), some (.inl (nI i))]) (fun _ => σ) (fun i hi k => ?_) ?_ 0 (Nat.zero_le _)
  · refine zb_Model_whereBits_5 ha (fun h => ?_) (fun _ => ?_)
    · rw [hf] at h
      exact absurd h (nI_ge hi (by omega))
    have h3 := (hw i hi).1
    refine zb_Model_whereBits_14 ha (z_ixn (by omega)) (fun h => ?_) (fun h => ?_)
    · rw [(hw i hi).2, zn_eq (by omega) hw2] at h
      refine zb_Model_whereBits_30 ha (zb_Model_whereBits_31 ha ?_)
      rw [zn_or, Nat.or_zero, nI_add]
      simp only [a_bw, h, if_false] at k
      exact k
    · rw [(hw i hi).2, zn_eq (by omega) hw2] at h
      refine zb_Model_whereBits_23 ha (zb_Model_whereBits_31 ha ?_)
      rw [zn_shl (by omega), zn_or, nI_add]
      simp only [a_bw, h, if_true] at k
      exact k
  · refine zb_Model_whereBits_5 ha (fun _ => ?_) (fun h => ?_)
    · refine zb_Model_whereBits_39 ?_
      rw [he]
      exact ⟨_, rfl, rfl, rfl⟩
    · rw [hf] at h
      exact absurd (Int32.le_refl _) h
theorem mc_lentTo (hB : s_n s ≤ 12 ∧ σ.1 63 1 = nI (s_n s)) (ha : z_kd a = (11, 53)) {v : aV} (hw : ∀ b, b < s_n s → v_w v b ≤ 3 ∧ σ.1 a b = nI (v_w v b) ∧ (v_w v b = 2 → v_h v b < 4 ∧ σ.1 a (12 + b) = nI (v_h v b))) {r : Nat} (hr : r < 2147483648) : z_Ci 0 zm_Model_lentTo [.inr 63, .inr a, .inl (nI r)] σ (z_is (nI (a_lo v r (s_n s))) σ) := by
  obtain ⟨hn, hf⟩ := hB
  refine z_Ci_of (by decide) (Nat.le_of_ble_eq_true rfl) (fun Γ hd he => ?_)
  show z_J Γ zm_Model_lentTo 0 [some (.inr 63), some (.inr a), some (.inl (nI r)), none, none] [] σ
  refine zb_Model_lentTo_0 ha ?_
  refine zj_for (b := s_n s) (fun i => [some (.inr 63), some (.inr a), some (.inl (nI r)), some (.inl (nI (a_lo v r i))), some (.inl (nI i))]) (fun _ => σ) (fun i hi k => ?_) ?_ 0 (Nat.zero_le _)
  · refine zb_Model_lentTo_5 ha (fun h => ?_) (fun _ => ?_)
    · rw [hf] at h
      exact absurd h (nI_ge hi (by omega))
    obtain ⟨h3, h1, h2⟩ := hw i hi
    have no : ¬ (v_w v i = 2 ∧ v_h v i = r) → z_J Γ zm_Model_lentTo 41 [some (.inr 63), some (.inr a), some (.inl (nI r)), none, some (.inl (nI i))] [.inl (nI (a_lo v r i))] σ := fun h => by
      refine zb_Model_lentTo_41 ha (zb_Model_lentTo_42 ha ?_)
      rw [zn_or, Nat.or_zero, nI_add]
      simp only [a_lo, h, if_false] at k
      exact k
    refine zb_Model_lentTo_14 ha (z_ixn (by omega)) (fun h => no (fun q => ?_)) (fun h => ?_)
    · rw [h1, zn_eq (by omega) (by omega)] at h
      exact h q.1
    rw [h1, zn_eq (by omega) (by omega)] at h
    obtain ⟨hh, h4⟩ := h2 h
    refine zb_Model_lentTo_23 ha (k1 := 12 + i) ⟨nI_add _ _, by omega⟩ (fun h5 => no (fun q => ?_)) (fun h5 => ?_)
    · rw [h4, zn_eq (by omega) hr] at h5
      exact h5 q.2
    rw [h4, zn_eq (by omega) hr] at h5
    refine zb_Model_lentTo_34 ha (zb_Model_lentTo_42 ha ?_)
    rw [zn_shl (by omega), zn_or, nI_add]
    simp only [a_lo, h, h5, and_self, if_true] at k
    exact k
  · refine zb_Model_lentTo_5 ha (fun _ => ?_) (fun h => ?_)
    · refine zb_Model_lentTo_50 ?_
      rw [he]
      exact ⟨_, rfl, rfl, rfl⟩
    · rw [hf] at h
      exact absurd (Int32.le_refl _) h
end
