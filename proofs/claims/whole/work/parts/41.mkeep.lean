/-! signs, ends, what is seen, kept, counted, undone -/
def x_sg (a : Int32) (k : Nat) : Nat := a.toBitVec.toNat / 2 ^ (8 * k) % 256
theorem x_sg_lt (a : Int32) (k : Nat) : x_sg a k < 256 := Nat.mod_lt _ (by decide)
theorem zn_bmod {a b : Int} (h : a % 256 = b % 256) : a.bmod 256 = b.bmod 256 := by
  have e : ∀ z : Int, z.bmod 256 = if z % 256 < 128 then z % 256 else z % 256 - 256 := by
    intro z
    rw [Int.bmod_def]
    rfl
  rw [e a, e b, h]
theorem x_sg_m (a : Int32) {k : Nat} (hk : k < 4) : (a >>> ((nI 8 * nI k) &&& 31)).toInt8.toInt32 = (nI (x_sg a k)).toInt8.toInt32 := by
  have hs : (((nI 8 * nI k) &&& 31).toBitVec.smod 32).toNat = 8 * k := by
    have : ∀ k, k < 4 → (((nI 8 * nI k) &&& 31).toBitVec.smod 32).toNat = 8 * k := by decide +kernel
    exact this k hk
  have h1 := pk_shr a _ _ hs
  have h2 : (a >>> ((nI 8 * nI k) &&& 31)).toInt8 = (nI (x_sg a k)).toInt8 := by
    apply Int8.toInt_inj.mp
    rw [Int32.toInt_toInt8, Int32.toInt_toInt8, h1, nI_toInt (by have := x_sg_lt a k; omega)]
    apply zn_bmod
    have h3 : a.toInt = (a.toBitVec.toNat : Int) ∨ a.toInt = (a.toBitVec.toNat : Int) - 4294967296 := by
      have : a.toInt = a.toBitVec.toInt := rfl
      rw [this, BitVec.toInt_eq_toNat_cond]
      by_cases q : 2 * a.toBitVec.toNat < 2 ^ 32
      · rw [if_pos q]
        exact Or.inl rfl
      · rw [if_neg q]
        exact Or.inr rfl
    rw [Int.shiftRight_eq_div_pow]
    unfold x_sg
    generalize a.toInt = z at *
    generalize a.toBitVec.toNat = m at *
    have hk4 : k = 0 ∨ k = 1 ∨ k = 2 ∨ k = 3 := by omega
    rcases hk4 with e | e | e | e <;> subst e <;> rcases h3 with h3 | h3 <;> subst h3 <;> simp only [Nat.mul_zero, Nat.mul_one, Nat.reduceMul, Nat.reducePow, Nat.pow_zero, Nat.div_one, Int.ediv_one] <;> omega
  rw [h2]
def to_sign (x : tX) (a : Int32) : Int32 × tX := if x_L x + 4 ≤ 80 then (nI (x_L x + 4), (x_s x, x_v x, x_H x, (x_K x, x_T x), (x_L x + 4, fun i => if x_L x ≤ i ∧ i < x_L x + 4 then x_sg a (3 - (i - x_L x)) else x_X x i), x_r x, x_e x, x_k x, x_m x)) else (-1, x)
def to_end (x : tX) (a : Int32) : Int32 × tX := if nI 0 ≤ a ∧ a ≤ nI (x_L x) then (nI 1, (x_s x, x_v x, x_H x, (x_K x, x_T x), (a.toNatClampNeg, x_X x), x_r x, x_e x, x_k x, x_m x)) else (nI 0, x)
abbrev x_see (x : tX) (e : Nat → Option Nat) : tX := (x_s x, x_v x, x_H x, (x_K x, x_T x), (x_L x, x_X x), x_r x, e, x_k x, x_m x)
def to_seen (x : tX) (a b : Int32) : Int32 × tX := if z_isn a (s_c (x_s x)) = true ∧ nI 0 ≤ b ∧ b ≤ nI 99 then (z_bc (nI (se_b (fun c => if c = a.toNatClampNeg then some b.toNatClampNeg else x_e x c) (s_c (x_s x)))), x_see x (fun c => if c = a.toNatClampNeg then some b.toNatClampNeg else x_e x c)) else (-1, x)
def to_forget (x : tX) : Int32 × tX := (z_bc (nI (se_b (x_e x) (s_c (x_s x)))), x_see x (fun _ => none))
def to_keep (x : tX) (a : Int32) : Int32 × tX := if nI 0 ≤ a ∧ a ≤ nI 1 then (nI 1, (x_s x, x_v x, x_H x, (x_K x, x_T x), (x_L x, x_X x), x_r x, x_e x, fun i => if i = a.toNatClampNeg then some (x_v x) else x_k x i, x_m x)) else (nI 0, x)
def to_again (x : tX) (a : Int32) : Int32 × tX := if nI 0 ≤ a ∧ a ≤ nI 1 then (match x_k x a.toNatClampNeg with
  | some w => (nI 1, x_act x w [] (x_r x))
  | none => (nI 0, x)) else (nI 0, x)
def to_undo (x : tX) : Int32 × tX := match x_H x with
  | [] => (-1, x)
  | w :: H => (nI (x_H x).dropLast.length, x_act x ((w :: H).getLast (by simp)) (x_H x).dropLast (x_r x))
def x_cnt (x : tX) (a : Int32) : Int32 := if a = nI 0 then nI (s_n (x_s x)) else if a = nI 1 then nI (s_c (x_s x)) else if a = nI 2 then nI (s_r (x_s x)) else if a = nI 3 then nI (v_y (x_v x)) else if a = nI 4 then nI (a_bw (x_v x) 0 (s_n (x_s x))) else if a = nI 5 then nI (a_bw (x_v x) 1 (s_n (x_s x))) else if a = nI 6 then nI (a_bw (x_v x) 2 (s_n (x_s x))) else if a = nI 7 then nI (a_bw (x_v x) 3 (s_n (x_s x))) else if a = nI 8 then nI (a_lh (x_s x) (x_v x)) else if a = nI 9 then nI (se_b (x_e x) (s_c (x_s x))) else if a = nI 10 then nI (x_H x).length else if a = nI 11 then nI (x_r x).length else if a = nI 12 then nI (x_L x) else -1
theorem se_b_bit (se : Nat → Option Nat) : ∀ n c, (se_b se n).testBit c = (decide (c < n) && (se c).isSome)
  | 0, c => by simp [se_b]
  | n + 1, c => by
    have ih := se_b_bit se n c
    rw [se_b]
    by_cases q : (se n).isSome = true
    · rw [if_pos q, Nat.testBit_or, ih, Nat.testBit_two_pow]
      by_cases e : n = c
      · subst e
        simp [q]
      · have : decide (c < n + 1) = decide (c < n) := by
          rw [Bool.eq_iff_iff, decide_eq_true_eq, decide_eq_true_eq]
          omega
        simp [e, this]
    · rw [if_neg q, ih]
      by_cases e : n = c
      · subst e
        simp [q]
      · have : decide (c < n + 1) = decide (c < n) := by
          rw [Bool.eq_iff_iff, decide_eq_true_eq, decide_eq_true_eq]
          omega
        simp [this]
theorem se_b_up (se : Nat → Option Nat) {n c h : Nat} (hc : c < n) : se_b (fun j => if j = c then some h else se j) n = se_b se n ||| 2 ^ c := by
  apply Nat.eq_of_testBit_eq
  intro j
  rw [Nat.testBit_or, se_b_bit, se_b_bit, Nat.testBit_two_pow]
  by_cases e : j = c
  · subst e
    simp [hc]
  · have e' : ¬ c = j := fun q => e q.symm
    simp [e, e']
theorem se_b_none : ∀ n, se_b (fun _ => none) n = 0
  | 0 => rfl
  | n + 1 => by rw [se_b, if_neg (by simp), se_b_none n]
theorem se_b_lt (se : Nat → Option Nat) : ∀ n, se_b se n < 2 ^ n
  | 0 => by simp [se_b]
  | n + 1 => by
    have ih := se_b_lt se n
    rw [se_b]
    by_cases q : (se n).isSome = true
    · rw [if_pos q]
      exact Nat.or_lt_two_pow (Nat.lt_trans ih (by rw [Nat.pow_succ]; omega)) (by rw [Nat.pow_succ]; omega)
    · rw [if_neg q, Nat.pow_succ]
      omega
section
variable {x : tX} {σ u : zS}
theorem mp_sign (h : mA x σ) (a : Int32) : z_Ci 1 zm_Model_sign [.inr 63, .inl a] σ (fun r u => r = (to_sign x a).1 ∧ mA (to_sign x a).2 u ∧ zU σ u) := by
  have h0 := m_t0 h
  obtain ⟨t1, t2, t3⟩ := h0.2.2.2.1
  refine z_Ci_of (by decide) (Nat.le_of_ble_eq_true rfl) (fun Γ hd he => ?_)
  show z_J Γ zm_Model_sign 0 [some (.inr 63), some (.inl a), none] [] σ
  refine zb_Model_sign_0 (fun k => ?_) (fun k => ?_)
  · rw [t2, nI_add, zn_le (by omega) (by omega)] at k
    refine zb_Model_sign_18 ?_
    refine zj_forS (b := 4) (fun i => [some (.inr 63), some (.inl a), some (.inl (if i ≤ 3 then nI (3 - i) else -1))])
      (fun i u => u.1 63 8 = nI (x_L x + i) ∧ (∀ j, j < i → u.1 68 (x_L x + j) = (nI (x_sg a (3 - j))).toInt8.toInt32) ∧ (∀ j, j < x_L x → u.1 68 j = (z_pI σ 63 11 (nI 0)).1 68 j) ∧ mX (fun q => q = 68) (fun k => k = 8) (z_pI σ 63 11 (nI 0)) u) (fun i u hi hI kk => ?_) (fun u hI => ?_) 0 (Nat.zero_le _) _ ⟨t2, fun j hj => absurd hj (by omega), fun _ _ => rfl, mX.rf⟩
    · obtain ⟨q1, q2, q3, q4⟩ := hI
      have ei : (if i ≤ 3 then nI (3 - i) else -1) = nI (3 - i) := if_pos (by omega)
      rw [ei]
      refine zb_Model_sign_20 (fun q => absurd q (Int32.not_lt.mpr (zn_ge0 (by omega)))) (fun _ => ?_)
      refine zb_Model_sign_24 (k1 := x_L x + i) ⟨q1, by omega⟩ ?_
      rw [pk_vb, x_sg_m a (by omega), q1, nI_add]
      have en : nI (3 - i) + (-1) = if i + 1 ≤ 3 then nI (3 - (i + 1)) else -1 := by
        by_cases e : i + 1 ≤ 3
        · rw [if_pos e, zn_m1, zn_pred (by omega)]
          rfl
        · rw [if_neg e, show 3 - i = 0 by omega]
          rfl
      rw [en]
      refine kk _ ⟨?_, fun j hj => ?_, fun j hj => ?_, (q4.pK rfl).pR rfl (by decide)⟩
      · rw [z_pI_ne (by decide), z_pI_at]
        rfl
      · by_cases e : j = i
        · subst e
          exact z_pI_at _ _ _ _
        · rw [z_pI_ne2 (by omega), z_pI_ne (by decide)]
          exact q2 j (by omega)
      · rw [z_pI_ne2 (by omega), z_pI_ne (by decide)]
        exact q3 j hj
    · obtain ⟨q1, q2, q3, q4⟩ := hI
      refine zb_Model_sign_20 (fun _ => ?_) (fun q => absurd (show ((if 4 ≤ 3 then nI (3 - 4) else -1) : Int32) < 0 by decide) q)
      refine zb_Model_sign_53 ?_
      rw [he, q1, to_sign, if_pos k]
      refine ⟨_, rfl, rfl, ⟨h0.1.keepX q4 (by decide) (by decide) (by decide) (by decide), h0.2.1.keepX q4 (by decide) (by decide), h0.2.2.1.keepX q4 (by decide) (by decide), ⟨k, q1, fun i hi => ?_⟩, h0.2.2.2.2.1.keepX q4 (by decide) (by decide), h0.2.2.2.2.2.1.keepX q4 (by decide) (by decide), h0.2.2.2.2.2.2.keepX q4 (by decide) (by decide)⟩, (mW.zU m_t0W).tr (q4.zU (by omega))⟩
      show (if x_L x ≤ i ∧ i < x_L x + 4 then x_sg a (3 - (i - x_L x)) else x_X x i) < 256 ∧ u.1 68 i = (nI (if x_L x ≤ i ∧ i < x_L x + 4 then x_sg a (3 - (i - x_L x)) else x_X x i)).toInt8.toInt32
      by_cases e : i < x_L x
      · rw [if_neg (by omega), q3 i e]
        exact t3 i e
      · have hi' : i < x_L x + 4 := hi
        rw [if_pos ⟨by omega, hi'⟩]
        refine ⟨x_sg_lt _ _, ?_⟩
        have := q2 (i - x_L x) (by omega)
        rwa [show x_L x + (i - x_L x) = i by omega] at this
  · rw [t2, nI_add, zn_le (by omega) (by omega)] at k
    refine zb_Model_sign_16 ?_
    rw [he, to_sign, if_neg k]
    exact ⟨_, rfl, rfl, h0, mW.zU m_t0W⟩
theorem mp_end (h : mA x σ) (a : Int32) : z_Ci 1 zm_Model_end [.inr 63, .inl a] σ (fun r u => r = (to_end x a).1 ∧ mA (to_end x a).2 u ∧ zU σ u) := by
  have h0 := m_t0 h
  obtain ⟨t1, t2, t3⟩ := h0.2.2.2.1
  refine z_Ci_of (by decide) (Nat.le_of_ble_eq_true rfl) (fun Γ hd he => ?_)
  show z_J Γ zm_Model_end 0 [some (.inr 63), some (.inl a)] [] σ
  refine zb_Model_end_0 (mc_in _ _ _ _) (by omega) (fun r u hr => ?_)
  obtain ⟨rfl, rfl⟩ := hr
  rw [t2]
  refine zb_Model_end_14 (fun k => ?_) (fun k => ?_)
  · rw [z_tf_eq0, Bool.not_eq_false, Bool.and_eq_true, decide_eq_true_eq, decide_eq_true_eq] at k
    obtain ⟨n, hn, rfl⟩ := z_0to (by omega) k
    refine zb_Model_end_19 ?_
    rw [he, to_end, if_pos k, nI_clamp (by omega)]
    have q4 : mX (fun _ => False) (fun k => k = 8) (z_pI σ 63 11 (nI 0)) (z_pI (z_pI σ 63 11 (nI 0)) 63 8 (nI n)) := mX.rf.pK rfl
    refine ⟨_, rfl, rfl, ⟨h0.1.keepX q4 (by decide) (by decide) (by decide) (by decide), h0.2.1.keepX q4 (by decide) (by decide), h0.2.2.1.keepX q4 (by decide) (by decide), ⟨by show n ≤ 80; omega, z_pI_at _ _ _ _, fun i hi => ?_⟩, h0.2.2.2.2.1.keepX q4 (by decide) (by decide), h0.2.2.2.2.2.1.keepX q4 (by decide) (by decide), h0.2.2.2.2.2.2.keepX q4 (by decide) (by decide)⟩, (mW.zU m_t0W).tr (q4.zU (fun _ h => h.elim))⟩
    rw [z_pI_ne (by decide)]
    exact t3 i (Nat.lt_of_lt_of_le hi hn)
  · rw [z_tf_eq0] at k
    refine zb_Model_end_17 ?_
    rw [he, to_end, if_neg (fun q => by simp [q.1, q.2] at k)]
    exact ⟨_, rfl, rfl, h0, mW.zU m_t0W⟩
theorem mp_seen (h : mA x σ) (a b : Int32) : z_Ci 2 zm_Model_seen [.inr 63, .inl a, .inl b] σ (fun r u => r = (to_seen x a b).1 ∧ mA (to_seen x a b).2 u ∧ zU σ u) := by
  have h0 := m_t0 h
  have h6 := h.1.c6
  refine z_Ci_of (by decide) (Nat.le_of_ble_eq_true rfl) (fun Γ hd he => ?_)
  show z_J Γ zm_Model_seen 0 [some (.inr 63), some (.inl a), some (.inl b)] [] σ
  have no : ¬ (z_isn a (s_c (x_s x)) = true ∧ nI 0 ≤ b ∧ b ≤ nI 99) → z_J Γ zm_Model_seen 23 [none, none, none] [] (z_pI σ 63 11 (nI 0)) := fun q => by
    refine zb_Model_seen_23 ?_
    rw [he, to_seen, if_neg q]
    exact ⟨_, rfl, rfl, h0, mW.zU m_t0W⟩
  refine zb_Model_seen_0 (mc_isColumn h6 h0.1.2.1.2.1 a) (by omega) (fun r u hr => ?_)
  obtain ⟨rfl, rfl⟩ := hr
  refine zb_Model_seen_10 (fun k => no (fun q => ?_)) (fun k => ?_)
  · rw [z_tf_eq0] at k
    rw [k] at q
    exact absurd q.1 (by decide)
  rw [z_tf_eq0, Bool.not_eq_false] at k
  refine zb_Model_seen_13 (mc_in _ _ _ _) (by omega) (fun r u hr => ?_)
  obtain ⟨rfl, rfl⟩ := hr
  refine zb_Model_seen_20 (fun k2 => ?_) (fun k2 => no (fun q => ?_))
  · rw [z_tf_eq0, Bool.not_eq_false, Bool.and_eq_true, decide_eq_true_eq, decide_eq_true_eq] at k2
    obtain ⟨c, hc, rfl⟩ := z_isn_t (by omega) k
    obtain ⟨n, hn, rfl⟩ := z_0to (by decide) k2
    refine zb_Model_seen_25 (by omega) (k1 := c) (z_ixn (by omega)) ?_
    rw [z_pI_at, z_pI_ne (show 63 ≠ 83 by decide), h0.2.2.2.2.2.1.1, zn_shl (by omega), zn_or, ← se_b_up (x_e x) (h := n) hc]
    rw [he, to_seen, if_pos ⟨k, k2⟩, nI_clamp (by omega), nI_clamp (by omega)]
    have q4 : mX (fun q => q = 83) (fun k => k = 41) (z_pI σ 63 11 (nI 0)) (z_pI (z_pI (z_pI σ 63 11 (nI 0)) 83 c (nI n)) 63 41 (nI (se_b (fun j => if j = c then some n else x_e x j) (s_c (x_s x))))) := mX.pK (mX.pR mX.rf rfl (by decide)) rfl
    refine ⟨_, rfl, rfl, ⟨h0.1.keepX q4 (by decide) (by decide) (by decide) (by decide), h0.2.1.keepX q4 (by decide) (by decide), h0.2.2.1.keepX q4 (by decide) (by decide), h0.2.2.2.1.keepX q4 (by decide) (by decide), h0.2.2.2.2.1.keepX q4 (by decide) (by decide), ⟨z_pI_at _ _ _ _, fun j hj t ht => ?_⟩, h0.2.2.2.2.2.2.keepX q4 (by decide) (by decide)⟩, (mW.zU m_t0W).tr (q4.zU (by omega))⟩
    rw [z_pI_ne (show 83 ≠ 63 by decide)]
    by_cases e : j = c
    · subst e
      change (if j = j then some n else x_e x j) = some t at ht
      rw [if_pos rfl, Option.some.injEq] at ht
      rw [z_pI_at, ht]
    · change (if j = c then some n else x_e x j) = some t at ht
      rw [if_neg e] at ht
      rw [z_pI_ne2 e]
      exact h0.2.2.2.2.2.1.2 j hj t ht
  · rw [z_tf_eq0] at k2
    simp [q.2.1, q.2.2] at k2
theorem mp_forget (h : mA x σ) : z_Ci 1 zm_Model_forget [.inr 63] σ (fun r u => r = (to_forget x).1 ∧ mA (to_forget x).2 u ∧ zU σ u) := by
  have h0 := m_t0 h
  refine z_Ci_of (by decide) (Nat.le_of_ble_eq_true rfl) (fun Γ hd he => ?_)
  show z_J Γ zm_Model_forget 0 [some (.inr 63), none] [] σ
  refine zb_Model_forget_0 (by omega) ?_
  rw [h0.2.2.2.2.2.1.1, he, to_forget]
  have q4 : mX (fun _ => False) (fun k => k = 41) (z_pI σ 63 11 (nI 0)) (z_pI (z_pI σ 63 11 (nI 0)) 63 41 (nI 0)) := mX.rf.pK rfl
  refine ⟨_, rfl, rfl, ⟨h0.1.keepX q4 (by decide) (by decide) (by decide) (by decide), h0.2.1.keepX q4 (by decide) (by decide), h0.2.2.1.keepX q4 (by decide) (by decide), h0.2.2.2.1.keepX q4 (by decide) (by decide), h0.2.2.2.2.1.keepX q4 (by decide) (by decide), ⟨?_, fun j hj t ht => absurd ht (by simp)⟩, h0.2.2.2.2.2.2.keepX q4 (by decide) (by decide)⟩, (mW.zU m_t0W).tr (q4.zU (fun _ h => h.elim))⟩
  rw [z_pI_at, se_b_none]
theorem mp_keep (h : mA x σ) (a : Int32) : z_Ci 1 zm_Model_keep [.inr 63, .inl a] σ (fun r u => r = (to_keep x a).1 ∧ mA (to_keep x a).2 u ∧ zU σ u) := by
  have h0 := m_t0 h
  have hn12 := h.1.n
  have h4 := h.1.r4
  refine z_Ci_of (by decide) (Nat.le_of_ble_eq_true rfl) (fun Γ hd he => ?_)
  show z_J Γ zm_Model_keep 0 [some (.inr 63), some (.inl a)] [] σ
  refine zb_Model_keep_0 (mc_in _ _ _ _) (by omega) (fun r u hr => ?_)
  obtain ⟨rfl, rfl⟩ := hr
  refine zb_Model_keep_11 (fun k => ?_) (fun k => ?_)
  · rw [z_tf_eq0, Bool.not_eq_false, Bool.and_eq_true, decide_eq_true_eq, decide_eq_true_eq] at k
    obtain ⟨n, hn, rfl⟩ := z_0to (by decide) k
    have et : to_keep x (nI n) = (nI 1, (x_s x, x_v x, x_H x, (x_K x, x_T x), (x_L x, x_X x), x_r x, x_e x, fun i => if i = n then some (x_v x) else x_k x i, x_m x)) := by
      unfold to_keep
      rw [if_pos k, nI_clamp (by omega)]
    have e1 : vp_nar .boolean (nI 1) = nI 1 := by decide
    rw [et] at he
    have hcp := mc_copy (σ := z_pI (z_pI (z_pI σ 63 11 (nI 0)) 86 n (nI 1)) 87 n (nI (x_m x))) (a0 := 64) (a1 := 85) (n1 := 106) (k := 53 * n) (by decide) (by decide) (by decide) (by omega) (by decide)
    refine zb_Model_keep_16 (k1 := n) (k2 := n) (dc := 0) (P := fun u2 => (∀ i, i < 53 → u2.1 85 (53 * n + i) = (z_pI (z_pI (z_pI σ 63 11 (nI 0)) 86 n (nI 1)) 87 n (nI (x_m x))).1 64 i) ∧ (∀ j, j < 53 * n ∨ 53 * n + 53 ≤ j → u2.1 85 j = (z_pI (z_pI (z_pI σ 63 11 (nI 0)) 86 n (nI 1)) 87 n (nI (x_m x))).1 85 j) ∧ z_fr (fun q => q = 85) (z_pI (z_pI (z_pI σ 63 11 (nI 0)) 86 n (nI 1)) 87 n (nI (x_m x))) u2) (z_ixn (by omega)) (z_ixn (by omega)) ?_ (by omega) (fun u2 h2 => ?_)
    · rw [e1, z_pI_ne (show 63 ≠ 86 by decide), h0.2.2.2.2.2.2.1, pk_mul]
      exact hcp
    obtain ⟨p1, p2, p3⟩ := h2
    refine zb_Model_keep_48 ?_
    have q4 : mX (fun q => q = 85 ∨ q = 86 ∨ q = 87) (fun _ => False) (z_pI σ 63 11 (nI 0)) u2 := mX.tr (mX.pR (mX.pR mX.rf (Or.inr (Or.inl rfl)) (by decide)) (Or.inr (Or.inr rfl)) (by decide)) (p3.X (by decide) (fun _ h => Or.inl h))
    rw [he]
    refine ⟨_, rfl, rfl, ⟨h0.1.keepX q4 ⟨id, id, id⟩ (by decide) (by decide) (by decide), h0.2.1.keepX q4 (by decide) id, h0.2.2.1.keepX q4 (by decide) id, h0.2.2.2.1.keepX q4 (by decide) id, h0.2.2.2.2.1.keepX q4 (by decide) id, h0.2.2.2.2.2.1.keepX q4 (by decide) id, ?_⟩, (mW.zU m_t0W).tr (q4.zU (by omega))⟩
    obtain ⟨k1, k2⟩ := h0.2.2.2.2.2.2
    have f86 : u2.1 86 = (z_pI (z_pI (z_pI σ 63 11 (nI 0)) 86 n (nI 1)) 87 n (nI (x_m x))).1 86 := (p3 86 (by decide)).1
    have f87 : u2.1 87 = (z_pI (z_pI (z_pI σ 63 11 (nI 0)) 86 n (nI 1)) 87 n (nI (x_m x))).1 87 := (p3 87 (by decide)).1
    refine ⟨by rw [q4.2.1 44 id]; exact k1, fun i hi => ?_⟩
    rw [f86, f87, z_pI_ne (show 86 ≠ 87 by decide)]
    by_cases e : i = n
    · subst e
      rw [z_pI_at, z_pI_at]
      refine ⟨Or.inr rfl, fun w hw => ?_, fun hw => ?_⟩
      rotate_left
      · change (if i = i then some (x_v x) else x_k x i) = none at hw
        rw [if_pos rfl] at hw
        exact absurd hw (by simp)
      change (if i = i then some (x_v x) else x_k x i) = some w at hw
      rw [if_pos rfl, Option.some.injEq] at hw
      subst hw
      refine ⟨rfl, rfl, h0.1.1, h0.1.2.2.congr hn12 h4 (fun k hk => ?_)⟩
      show u2.1 85 (53 * i + k) = _
      rw [p1 k hk, z_pI_ne (show 64 ≠ 87 by decide), z_pI_ne (show 64 ≠ 86 by decide)]
    · rw [z_pI_ne2 e, z_pI_ne2 e, z_pI_ne (show 87 ≠ 86 by decide)]
      obtain ⟨m1, m2, m3⟩ := k2 i hi
      refine ⟨m1, fun w hw => ?_, fun hw => ?_⟩
      · change (if i = n then some (x_v x) else x_k x i) = some w at hw
        rw [if_neg e] at hw
        obtain ⟨w1, w2, w3, w4⟩ := m2 w hw
        refine ⟨w1, w2, w3, w4.congr hn12 h4 (fun k hk => ?_)⟩
        show u2.1 85 (53 * i + k) = _
        rw [p2 _ (by omega), z_pI_ne (show 85 ≠ 87 by decide), z_pI_ne (show 85 ≠ 86 by decide)]
      · change (if i = n then some (x_v x) else x_k x i) = none at hw
        rw [if_neg e] at hw
        exact m3 hw
  · rw [z_tf_eq0] at k
    refine zb_Model_keep_14 ?_
    rw [he, to_keep, if_neg (fun q => by simp [q.1, q.2] at k)]
    exact ⟨_, rfl, rfl, h0, mW.zU m_t0W⟩
theorem mp_again (h : mA x σ) (hm : x_m x < 2147483648) (a : Int32) : z_Ci 1 zm_Model_again [.inr 63, .inl a] σ (fun r u => r = (to_again x a).1 ∧ mA (to_again x a).2 u ∧ zU σ u) := by
  have h0 := m_t0 h
  have hn12 := h.1.n
  have h4 := h.1.r4
  refine z_Ci_of (by decide) (Nat.le_of_ble_eq_true rfl) (fun Γ hd he => ?_)
  show z_J Γ zm_Model_again 0 [some (.inr 63), some (.inl a), none] [] σ
  refine zb_Model_again_0 (mc_in _ _ _ _) (by omega) (fun r u hr => ?_)
  obtain ⟨rfl, rfl⟩ := hr
  refine zb_Model_again_11 (fun k => ?_) (fun k => ?_)
  · rw [z_tf_eq0] at k
    refine zb_Model_again_36 ?_
    rw [he, to_again, if_neg (fun q => by simp [q.1, q.2] at k)]
    exact ⟨_, rfl, rfl, h0, mW.zU m_t0W⟩
  rw [z_tf_eq0, Bool.not_eq_false, Bool.and_eq_true, decide_eq_true_eq, decide_eq_true_eq] at k
  obtain ⟨n, hn, rfl⟩ := z_0to (by decide) k
  obtain ⟨k1, k2⟩ := h0.2.2.2.2.2.2
  obtain ⟨m1, m2, m3⟩ := k2 n (by omega)
  have et : to_again x (nI n) = (match x_k x n with
    | some w => (nI 1, x_act x w [] (x_r x))
    | none => (nI 0, x)) := by
    unfold to_again
    rw [if_pos k, nI_clamp (by omega)]
  rw [et] at he
  cases hk : x_k x n with
  | none =>
    rw [hk] at he
    have no : z_J Γ zm_Model_again 36 [none, none, none] [] (z_pI σ 63 11 (nI 0)) := by
      refine zb_Model_again_36 ?_
      rw [he]
      exact ⟨_, rfl, rfl, h0, mW.zU m_t0W⟩
    refine zb_Model_again_14 (k1 := n) (z_ixn (by omega)) (fun _ => no) (fun q => ?_)
    refine zb_Model_again_23 (k1 := n) (z_ixn (by omega)) (fun q2 => ?_) (fun _ => no)
    rcases m3 hk with p | ⟨m, hm1, p⟩
    · exact absurd p q
    · rw [p, k1, zn_eq (by omega) (by omega)] at q2
      omega
  | some w =>
    rw [hk] at he
    obtain ⟨w1, w2, w3, w4⟩ := m2 w hk
    refine zb_Model_again_14 (k1 := n) (z_ixn (by omega)) (fun q => ?_) (fun _ => ?_)
    · rw [w1] at q
      exact absurd q (by decide)
    refine zb_Model_again_23 (k1 := n) (z_ixn (by omega)) (fun _ => ?_) (fun q => absurd (by rw [w2, k1]) q)
    refine zb_Model_again_38 ?_
    refine zj_forS (b := 53) (fun i => [some (.inr 63), some (.inl (nI n)), some (.inl (nI i))])
      (fun i u => (∀ j, j < i → u.1 64 j = (z_pI σ 63 11 (nI 0)).1 85 (53 * n + j)) ∧ z_fr (fun q => q = 64) (z_pI σ 63 11 (nI 0)) u) (fun i u hi hI kk => ?_) (fun u hI => ?_) 0 (Nat.zero_le _) _ ⟨fun _ q => absurd q (by omega), z_fr.rf⟩
    · obtain ⟨q1, q2⟩ := hI
      refine zb_Model_again_40 (fun q => absurd q (nI_ge hi (by omega))) (fun _ => ?_)
      refine zb_Model_again_46 (k1 := 53 * n + i) (k2 := i) ⟨by rw [pk_mul, nI_add], by omega⟩ (z_ixn (by omega)) ?_
      rw [nI_add]
      refine kk _ ⟨fun j hj => ?_, q2.pI rfl⟩
      by_cases e : j = i
      · subst e
        rw [z_pI_at, (q2 85 (by decide)).1]
      · rw [z_pI_ne2 e]
        exact q1 j (by omega)
    · obtain ⟨q1, q2⟩ := hI
      refine zb_Model_again_40 (fun _ => ?_) (fun q => absurd (Int32.le_refl _) q)
      refine zb_Model_again_69 ?_
      rw [he]
      have q4 : mX (fun q => q = 64) (fun k => k = 27) (z_pI σ 63 11 (nI 0)) (z_pI u 63 27 (nI 0)) := (q2.X (by decide) (fun _ h => h)).pK rfl
      refine ⟨_, rfl, rfl, h0.act (mX.mono q4 (by omega) (by omega)) (h0.1.updX q4 (by decide) (by decide) w3 ?_) ⟨by simp, z_pI_at _ _ _ _, fun i w hw => absurd hw (by simp)⟩ (h0.2.2.2.2.1.keepX q4 (by decide) (by decide)), (mW.zU m_t0W).tr (q4.zU (by omega))⟩
      refine w4.congr hn12 h4 (fun k hk => ?_)
      rw [z_pI_ne (by decide)]
      exact q1 k hk
theorem mp_undo (h : mA x σ) : z_Ci 1 zm_Model_undo [.inr 63] σ (fun r u => r = (to_undo x).1 ∧ mA (to_undo x).2 u ∧ zU σ u) := by
  have h0 := m_t0 h
  have hn12 := h.1.n
  have h4 := h.1.r4
  have hH := h0.2.1
  refine z_Ci_of (by decide) (Nat.le_of_ble_eq_true rfl) (fun Γ hd he => ?_)
  show z_J Γ zm_Model_undo 0 [some (.inr 63), none] [] σ
  have e0 : (0 : Int32) = nI 0 := rfl
  cases hx : x_H x with
  | nil =>
    refine zb_Model_undo_0 (fun q => absurd (by rw [hH.2.1, hx]; rfl) q) (fun _ => ?_)
    refine zb_Model_undo_12 ?_
    have et : to_undo x = (-1, x) := by unfold to_undo; rw [hx]
    rw [he, et]
    exact ⟨_, rfl, rfl, h0, mW.zU m_t0W⟩
  | cons w0 H0 =>
    have et : to_undo x = (nI (x_H x).dropLast.length, x_act x ((w0 :: H0).getLast (by simp)) (x_H x).dropLast (x_r x)) := by
      unfold to_undo
      rw [hx]
    have hlen : (x_H x).length = H0.length + 1 := by rw [hx]; rfl
    have hl12 := hH.1
    rw [et] at he
    refine zb_Model_undo_0 (fun _ => ?_) (fun q => ?_)
    · refine zb_Model_undo_14 ?_
      rw [hH.2.1, hlen, zn_pred (by omega)]
      obtain ⟨g1, g2⟩ := hH.2.2 H0.length ((w0 :: H0).getLast (by simp)) (by rw [hx, List.getLast_eq_getElem, List.getElem?_eq_getElem (by simp)]; simp)
      refine zj_forS (b := 53) (fun i => [some (.inr 63), some (.inl (nI i))])
        (fun i u => (∀ j, j < i → u.1 64 j = (z_pI σ 63 11 (nI 0)).1 76 (53 * H0.length + j)) ∧ z_fr (fun q => q = 64) (z_pI (z_pI σ 63 11 (nI 0)) 63 27 (nI (H0.length + 1 - 1))) u) (fun i u hi hI kk => ?_) (fun u hI => ?_) 0 (Nat.zero_le _) _ ⟨fun _ q => absurd q (by omega), z_fr.rf⟩
      · obtain ⟨q1, q2⟩ := hI
        have e27 : u.1 63 27 = nI H0.length := by
          rw [(q2 63 (by decide)).1, z_pI_at]
          rfl
        refine zb_Model_undo_26 (fun q => absurd q (nI_ge hi (by omega))) (fun _ => ?_)
        refine zb_Model_undo_32 (k1 := 53 * H0.length + i) (k2 := i) ⟨by rw [e27, pk_mul, nI_add], by omega⟩ (z_ixn (by omega)) ?_
        rw [nI_add]
        refine kk _ ⟨fun j hj => ?_, q2.pI rfl⟩
        by_cases e : j = i
        · subst e
          rw [z_pI_at, (q2 76 (by decide)).1, z_pI_ne (show 76 ≠ 63 by decide)]
        · rw [z_pI_ne2 e]
          exact q1 j (by omega)
      · obtain ⟨q1, q2⟩ := hI
        have e27 : u.1 63 27 = nI H0.length := by
          rw [(q2 63 (by decide)).1, z_pI_at]
          rfl
        refine zb_Model_undo_26 (fun _ => ?_) (fun q => absurd (Int32.le_refl _) q)
        refine zb_Model_undo_58 ?_
        have edl : (x_H x).dropLast.length = H0.length := by rw [List.length_dropLast, hlen]; rfl
        rw [he, e27, edl]
        have q4 : mX (fun q => q = 64) (fun k => k = 27) (z_pI σ 63 11 (nI 0)) u := mX.tr (mX.pK mX.rf rfl) (q2.X (by decide) (fun _ h => h))
        refine ⟨_, rfl, rfl, h0.act (mX.mono q4 (by omega) (by omega)) (h0.1.updX q4 (by decide) (by decide) g1 (g2.congr hn12 h4 (fun k hk => q1 k hk))) ⟨by omega, by rw [e27, edl], fun i w hw => ?_⟩ (h0.2.2.2.2.1.keepX q4 (by decide) (by decide)), (mW.zU m_t0W).tr (q4.zU (by omega))⟩
        have hw' : (x_H x)[i]? = some w := by
          rw [List.getElem?_dropLast] at hw
          by_cases q : i < (x_H x).length - 1
          · rwa [if_pos q] at hw
          · rw [if_neg q] at hw
            exact absurd hw (by simp)
        rw [(q4.1 76 (by decide) (by decide)).1]
        exact hH.2.2 i w hw'
    · rw [hH.2.1, e0, zn_eq (by omega) (by omega)] at q
      omega
theorem mp_count (h : mA x σ) (a : Int32) : z_Ci 4 zm_Model_count [.inr 63, .inl a] σ (fun r u => r = x_cnt x a ∧ mA x u ∧ zU σ u) := by
  have h0 := m_t0 h
  refine z_Ci_of (by decide) (Nat.le_of_ble_eq_true rfl) (fun Γ hd he => ?_)
  show z_J Γ zm_Model_count 0 [some (.inr 63), some (.inl a)] [] σ
  have fin : ∀ {r : Int32}, r = x_cnt x a → z_end Γ (some r) (z_pI σ 63 11 (nI 0)) := fun hr => by
    rw [he]
    exact ⟨_, rfl, hr, h0, mW.zU m_t0W⟩
  have hw : ∀ k, k < 4 → a = nI (4 + k) → nI (a_bw (x_v x) k (s_n (x_s x))) = x_cnt x a → z_J Γ zm_Model_count 95 [some (.inr 63), some (.inl a)] [] (z_pI σ 63 11 (nI 0)) := by
    intro k hk ha hx
    subst ha
    refine zb_Model_count_95 (dc := 0) (P := z_is (nI (a_bw (x_v x) k (s_n (x_s x)))) (z_pI σ 63 11 (nI 0))) ?_ (by omega) (fun r u hr => ?_)
    · rw [pk_sub (by omega), show 4 + k - 4 = k by omega]
      exact mc_whereBits h0.1.nb (by decide) (v := x_v x) (fun b hb => ⟨h0.1.w3 b, h0.1.fw hb⟩) (by omega)
    obtain ⟨rfl, rfl⟩ := hr
    exact zb_Model_count_106 (fin hx)
  refine zb_Model_count_0 (fun q => ?_) (fun q => ?_) (fun q => ?_) (fun q => ?_) (fun q => ?_) (fun q => ?_) (fun q => ?_) (fun q => ?_) (fun q => ?_) (fun q => ?_) (fun q => ?_) (fun q => ?_) (fun q => ?_) (fun q => ?_)
  · refine zb_Model_count_136 (fin ?_)
    have hne : ∀ k, k ≤ 12 → ¬ a = nI k := fun k hk e => by
      rw [e, nI_toInt (by omega)] at q
      omega
    unfold x_cnt
    rw [if_neg (hne 0 (by decide)), if_neg (hne 1 (by decide)), if_neg (hne 2 (by decide)), if_neg (hne 3 (by decide)), if_neg (hne 4 (by decide)), if_neg (hne 5 (by decide)), if_neg (hne 6 (by decide)), if_neg (hne 7 (by decide)), if_neg (hne 8 (by decide)), if_neg (hne 9 (by decide)), if_neg (hne 10 (by decide)), if_neg (hne 11 (by decide)), if_neg (hne 12 (by decide))]
  · subst q; exact zb_Model_count_72 (fin (by rw [h0.1.2.1.1]; rfl))
  · subst q; exact zb_Model_count_77 (fin (by rw [h0.1.2.1.2.1]; rfl))
  · subst q; exact zb_Model_count_82 (fin (by rw [h0.1.2.1.2.2.1]; rfl))
  · subst q; exact zb_Model_count_87 (k1 := 48) (z_ixn (by omega)) (fin (by rw [h0.1.fy]; rfl))
  · exact hw 0 (by decide) q (by subst q; rfl)
  · exact hw 1 (by decide) q (by subst q; rfl)
  · exact hw 2 (by decide) q (by subst q; rfl)
  · exact hw 3 (by decide) q (by subst q; rfl)
  · subst q
    refine zb_Model_count_107 (mc_lh h0.1 (by decide)) (by omega) (fun r u hr => ?_)
    obtain ⟨rfl, rfl⟩ := hr
    exact zb_Model_count_115 (fin rfl)
  · subst q; exact zb_Model_count_116 (fin (by rw [h0.2.2.2.2.2.1.1]; rfl))
  · subst q; exact zb_Model_count_121 (fin (by rw [h0.2.1.2.1]; rfl))
  · subst q; exact zb_Model_count_126 (fin (by rw [h0.2.2.2.2.1.2.1]; rfl))
  · subst q; exact zb_Model_count_131 (fin (by rw [h0.2.2.2.1.2.1]; rfl))
/-- the row's number i, or that there is none -/
def x_rowAt (x : tX) (a : Int32) : Option Int32 := if nI 0 ≤ a then (x_r x)[a.toNatClampNeg]? else none
theorem mc_lost : z_Ci 0 zm_Model_lost [.inr 63] σ (z_is (nI 0) (z_pI σ 63 11 (nI 1))) := by
  refine z_Ci_of (by decide) (Nat.le_of_ble_eq_true rfl) (fun Γ hd he => ?_)
  show z_J Γ zm_Model_lost 0 [some (.inr 63)] [] σ
  refine zb_Model_lost_0 ?_
  rw [he]
  exact ⟨_, rfl, rfl, rfl⟩
/-- how a question that may be refused is answered by the model -/
def mZ (x : tX) (o : Option Int32) (σ : zS) : Int32 → zS → Prop := fun r u => (match o with
  | some y => r = y ∧ u.1 63 11 = nI 0
  | none => u.1 63 11 = nI 1) ∧ mA x u ∧ zU σ u
theorem mp_row (h : mA x σ) (a : Int32) : z_Ci 1 zm_Model_row [.inr 63, .inl a] σ (mZ x (x_rowAt x a) σ) := by
  have h0 := m_t0 h
  obtain ⟨r1, r2, r3⟩ := h0.2.2.2.2.1
  refine z_Ci_of (by decide) (Nat.le_of_ble_eq_true rfl) (fun Γ hd he => ?_)
  show z_J Γ zm_Model_row 0 [some (.inr 63), some (.inl a)] [] σ
  refine zb_Model_row_0 (mc_in _ _ _ _) (by omega) (fun r u hr => ?_)
  obtain ⟨rfl, rfl⟩ := hr
  rw [r2, zn_isn a (by omega)]
  refine zb_Model_row_16 (fun k => ?_) (fun k => ?_)
  · rw [z_tf_eq0] at k
    refine zb_Model_row_28 mc_lost (by omega) (fun r u hr => ?_)
    obtain ⟨rfl, rfl⟩ := hr
    refine zb_Model_row_32 ?_
    have en : x_rowAt x a = none := by
      unfold x_rowAt
      by_cases q : nI 0 ≤ a
      · rw [if_pos q]
        by_cases q2 : a < nI (x_r x).length
        · have e0 : (0 : Int32) = nI 0 := rfl
          unfold z_isn at k
          rw [e0] at k
          simp [q, q2] at k
        · have h2 : (a.toNatClampNeg : Int) = a.toInt := by
            have e0 : (0 : Int32) = nI 0 := rfl
            have : 0 ≤ a.toInt := by
              rw [Int32.le_iff_toInt_le] at q
              exact q
            unfold Int32.toNatClampNeg
            omega
          have h3 : ((x_r x).length : Int) ≤ a.toInt := by
            rw [Int32.not_lt, Int32.le_iff_toInt_le, nI_toInt (by omega)] at q2
            exact q2
          exact List.getElem?_eq_none (by omega)
      · rw [if_neg q]
    rw [he, en]
    have q4 : mX m_sO m_sK (z_pI σ 63 11 (nI 0)) (z_pI (z_pI σ 63 11 (nI 0)) 63 11 (nI 1)) := mX.rf.pK (Or.inl rfl)
    obtain ⟨w1, w2⟩ := h0.low q4
    exact ⟨_, rfl, z_pI_at _ _ _ _, w1, (mW.zU m_t0W).tr w2⟩
  · rw [z_tf_eq0, Bool.not_eq_false] at k
    obtain ⟨i, hi, rfl⟩ := z_isn_t (by omega) k
    refine zb_Model_row_19 (k1 := i) (z_ixn (by omega)) (zb_Model_row_32 ?_)
    have es : x_rowAt x (nI i) = some ((x_r x)[i]) := by
      unfold x_rowAt
      rw [if_pos (nI_le (Nat.zero_le _) (by omega)), nI_clamp (by omega), List.getElem?_eq_getElem hi]
    rw [he, es]
    exact ⟨_, rfl, ⟨r3 i _ (List.getElem?_eq_getElem hi), z_pI_at _ _ _ _⟩, h0, mW.zU m_t0W⟩
end
