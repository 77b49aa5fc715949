/-! book, column, reader, sheet -/
def x_book (x : tX) (a b : Int32) : Option Int32 := if z_isn a (s_n (x_s x)) = true then (if b = nI 0 then some (nI (s_t (x_s x) a.toNatClampNeg)) else if b = nI 1 then some (nI (s_w (x_s x) a.toNatClampNeg)) else if b = nI 2 then some (nI (v_w (x_v x) a.toNatClampNeg)) else if b = nI 3 then some (if v_w (x_v x) a.toNatClampNeg = 1 ∨ v_w (x_v x) a.toNatClampNeg = 2 then nI (v_h (x_v x) a.toNatClampNeg) else -1) else if b = nI 4 then some (if v_w (x_v x) a.toNatClampNeg = 1 then nI ((v_p (x_v x) (v_h (x_v x) a.toNatClampNeg)).idxOf a.toNatClampNeg) else -1) else if b = nI 5 then some (if v_w (x_v x) a.toNatClampNeg = 2 then nI (v_d (x_v x) a.toNatClampNeg) else -1) else if b = nI 6 then some (if v_w (x_v x) a.toNatClampNeg = 1 then l_br (x_E x) (x_s x) (v_y (x_v x)) (v_h (x_v x) a.toNatClampNeg) (v_p (x_v x) (v_h (x_v x) a.toNatClampNeg)) ((v_p (x_v x) (v_h (x_v x) a.toNatClampNeg)).idxOf a.toNatClampNeg) else -1) else none) else none
def x_col (x : tX) (a b : Int32) : Option Int32 := if z_isn a (s_c (x_s x)) = true then (if b = nI 0 then some (nI (a_h (x_s x) (x_v x) a.toNatClampNeg)) else if b = nI 1 then some (nI (v_p (x_v x) a.toNatClampNeg).length) else if b = nI 2 then some (nI (l_ab (x_s x) (v_p (x_v x) a.toNatClampNeg) 0)) else if b = nI 3 then some (z_tf (l_ho (x_E x) (x_s x) (v_y (x_v x)) a.toNatClampNeg (v_p (x_v x) a.toNatClampNeg))) else if b = nI 4 then some (if (v_p (x_v x) a.toNatClampNeg).length = 0 then -1 else nI (a_top (x_v x) a.toNatClampNeg)) else none) else none
def x_rdr (x : tX) (a b : Int32) : Option Int32 := if z_isn a (s_r (x_s x)) = true then (if b = nI 0 then some (nI (s_l (x_s x) a.toNatClampNeg)) else if b = nI 1 then some (nI (v_f (x_v x) a.toNatClampNeg)) else if b = nI 2 then some (nI (a_lo (x_v x) a.toNatClampNeg (s_n (x_s x)))) else none) else none
def x_she (k n f st : Int32) (i : Nat) : Int32 := if k = nI 3 ∨ ¬ nI i < n then nI 1 else z_max (nI 1) (z_min (nI 9) (if k = 0 then (f + nI i * st).toInt8.toInt32 else if k = nI 1 then (f + nI i * st).toInt16.toInt32 else f + nI i * st))
def x_shn (k n f st : Int32) (i : Nat) : Nat := (x_she k n f st i).toNatClampNeg
def x_shs (k n f st : Int32) : Nat → Nat
  | 0 => 0
  | i + 1 => x_shs k n f st i + x_shn k n f st i
abbrev s_th (s : aS) (t : Nat → Nat) : aS := (s_n s, s_c s, s_r s, t, s_w s, s_l s)
def to_sheet (x : tX) (k n f st : Int32) : Int32 × tX := if (nI 0 ≤ k ∧ k ≤ nI 3) ∧ n ≤ nI 12 then (if ¬ nI 3 ≤ k ∧ ¬ 0 ≤ n then (-2, x) else (if k = nI 3 then -3 else nI (x_shs k n f st (s_n (x_s x))), (s_th (x_s x) (x_shn k n f st), x_v x, x_H x, (x_K x, x_T x), (x_L x, x_X x), x_r x, x_e x, x_k x, x_m x))) else (-1, x)
theorem z_mm9 (y : Int32) : ∃ m, 1 ≤ m ∧ m ≤ 9 ∧ z_max (nI 1) (z_min (nI 9) y) = nI m := by
  unfold z_min
  by_cases h : y < nI 9
  · rw [if_pos h]
    unfold z_max
    by_cases h2 : nI 1 < y
    · rw [if_pos h2]
      obtain ⟨n, h1, h9, e⟩ := zn_btw (x := y) (m := 9) (Int32.not_lt.mpr (Int32.le_of_lt h2)) (Int32.le_of_lt h) (by decide)
      exact ⟨n, h1, h9, e⟩
    · rw [if_neg h2]
      exact ⟨1, by decide, by decide, rfl⟩
  · rw [if_neg h]
    exact ⟨9, by decide, by decide, rfl⟩
theorem x_she_n (k n f st : Int32) (i : Nat) : x_she k n f st i = nI (x_shn k n f st i) ∧ 1 ≤ x_shn k n f st i ∧ x_shn k n f st i ≤ 9 := by
  have key : ∃ m, 1 ≤ m ∧ m ≤ 9 ∧ x_she k n f st i = nI m := by
    unfold x_she
    by_cases h : k = nI 3 ∨ ¬ nI i < n
    · rw [if_pos h]
      exact ⟨1, by decide, by decide, rfl⟩
    · rw [if_neg h]
      exact z_mm9 _
  obtain ⟨m, h1, h9, e⟩ := key
  unfold x_shn
  rw [e, nI_clamp (by omega)]
  exact ⟨rfl, h1, h9⟩
theorem aI.th {s : aS} {v : aV} {t : Nat → Nat} (h : aI s v) (ht : ∀ b, b < s_n s → 1 ≤ t b ∧ t b ≤ 9) : aI (s_th s t) v := by
  obtain ⟨h1, h2, h3, h5, h6, h7, h8, h10, h11⟩ := h
  exact ⟨h1, h2, h3, h5, h6, h7, h8, fun b hb => ⟨(ht b hb).1, (ht b hb).2, (h10 b hb).2.2⟩, h11⟩
section
variable {x : tX} {σ u : zS}
theorem mZ.no (h : mA x σ) {Γ : zG} {a : Int32} {P : Int32 → zS → Prop} {o : Option Int32} (he : z_end Γ = (fun r u => ∃ x1, r = some x1 ∧ mZ x o σ x1 u)) (ho : o = none) : z_end Γ (some a) (z_pI (z_pI σ 63 11 (nI 0)) 63 11 (nI 1)) := by
  have h0 := m_t0 h
  have q4 : mX m_sO m_sK (z_pI σ 63 11 (nI 0)) (z_pI (z_pI σ 63 11 (nI 0)) 63 11 (nI 1)) := mX.rf.pK (Or.inl rfl)
  obtain ⟨w1, w2⟩ := h0.low q4
  rw [he, ho]
  exact ⟨_, rfl, z_pI_at _ _ _ _, w1, (mW.zU m_t0W).tr w2⟩
theorem mp_book (h : mA x σ) (a b : Int32) : z_Ci 345 zm_Model_book [.inr 63, .inl a, .inl b] σ (mZ x (x_book x a b) σ) := by
  have h0 := m_t0 h
  have hn := h.1.n
  refine z_Ci_of (by decide) (Nat.le_of_ble_eq_true rfl) (fun Γ hd he => ?_)
  show z_J Γ zm_Model_book 0 [some (.inr 63), some (.inl a), some (.inl b), none] [] σ
  have no : x_book x a b = none → z_J Γ zm_Model_book 23 [some (.inr 63), none, none, none] [] (z_pI σ 63 11 (nI 0)) := fun q => by
    refine zb_Model_book_23 mc_lost (by omega) (fun r u hr => ?_)
    obtain ⟨rfl, rfl⟩ := hr
    exact zb_Model_book_27 (mZ.no h (P := fun _ _ => True) he q)
  refine zb_Model_book_0 (mc_isBook hn h0.1.2.1.1 a) (by omega) (fun r u hr => ?_)
  obtain ⟨rfl, rfl⟩ := hr
  refine zb_Model_book_10 (fun k => no ?_) (fun k => ?_)
  · rw [z_tf_eq0] at k
    rw [x_book, if_neg (by rw [k]; decide)]
  rw [z_tf_eq0, Bool.not_eq_false] at k
  refine zb_Model_book_13 (mc_in _ _ _ _) (by omega) (fun r u hr => ?_)
  obtain ⟨rfl, rfl⟩ := hr
  obtain ⟨i, hi, rfl⟩ := z_isn_t (by omega) k
  have hw3 := h.1.w3 i
  have eb := x_book.eq_1 x (nI i) b
  rw [if_pos k, nI_clamp (by omega)] at eb
  refine zb_Model_book_20 (fun k2 => ?_) (fun k2 => no ?_)
  rotate_left
  · rw [z_tf_eq0] at k2
    have hne : ∀ j, j ≤ 6 → ¬ b = nI j := fun j hj e => by
      subst e
      rw [Bool.and_eq_false_iff, decide_eq_false_iff_not, decide_eq_false_iff_not] at k2
      rcases k2 with q | q
      · exact q (nI_le (Nat.zero_le _) (by omega))
      · exact q (nI_le hj (by omega))
    rw [eb, if_neg (hne 0 (by decide)), if_neg (hne 1 (by decide)), if_neg (hne 2 (by decide)), if_neg (hne 3 (by decide)), if_neg (hne 4 (by decide)), if_neg (hne 5 (by decide)), if_neg (hne 6 (by decide))]
  rw [z_tf_eq0, Bool.not_eq_false, Bool.and_eq_true, decide_eq_true_eq, decide_eq_true_eq] at k2
  obtain ⟨j, hj, rfl⟩ := z_0to (by decide) k2
  rw [eb] at he
  have fin : ∀ {y : Int32} {o : Option Int32}, z_end Γ = (fun r u => ∃ x1, r = some x1 ∧ mZ x o σ x1 u) → o = some y → z_end Γ (some y) (z_pI σ 63 11 (nI 0)) := fun he ho => by
    rw [he, ho]
    exact ⟨_, rfl, ⟨rfl, z_pI_at _ _ _ _⟩, h0, mW.zU m_t0W⟩
  have go : ∀ t : Int32, (t = 0 ↔ v_w (x_v x) i ≠ 1) → z_J Γ zm_Model_book 43 [some (.inr 63), some (.inl (nI i)), some (.inl (nI j)), none] [.inl t] (z_pI σ 63 11 (nI 0)) := by
    intro t ht
    refine zb_Model_book_43 (fun q => ?_) (fun q => ?_) (fun q => ?_) (fun q => ?_) (fun q => ?_) (fun q => ?_) (fun q => ?_)
    · rw [nI_toInt (by omega)] at q
      have e6 : j = 6 := by omega
      subst e6
      refine zb_Model_book_175 (fun q2 => ?_) (fun q2 => ?_)
      · rw [ht] at q2
        refine zb_Model_book_232 (zb_Model_book_233 (fin he ?_))
        show some (if v_w (x_v x) i = 1 then _ else _) = _
        rw [if_neg q2]
      · rw [ht, Decidable.not_not] at q2
        have hc := h.1.1.2.2.2.2.1 i hi q2
        have hmi : i ∈ v_p (x_v x) (v_h (x_v x) i) := (h.1.1.mm hc i).mpr ⟨hi, q2, rfl⟩
        have hlt := List.idxOf_lt_length_iff.mpr hmi
        have hin := mc_inColumn h0.1.nb (a := 64) (by decide) (h0.1.I hc)
        refine zb_Model_book_179 (k1 := 12 + i) (k2 := 24 + i) (k3 := 12 + i) (dc := 0) (P := z_is (nI (l_bits (v_p (x_v x) (v_h (x_v x) i)) (s_n (x_s x)))) (z_pI σ 63 11 (nI 0))) ⟨nI_add _ _, by omega⟩ ⟨nI_add _ _, by omega⟩ ⟨nI_add _ _, by omega⟩ ?_ (by omega) (fun r u hr => ?_)
        · rw [h0.1.fh hi (Or.inl q2)]
          exact hin
        obtain ⟨rfl, rfl⟩ := hr
        rw [h0.1.fp hi q2, h0.1.fh hi (Or.inl q2)]
        have hbk := h0.1.Bk
        have hbr := mc_bears h0.2.2.1.1 (b := i) (by omega) (hbk.2.2 _ hi).1 (hbk.2.2 _ hi).2.1 (nI (v_h (x_v x) i)) (nI ((v_p (x_v x) (v_h (x_v x) i)).idxOf i)) (nI (v_p (x_v x) (v_h (x_v x) i)).length) (nI (v_y (x_v x)))
        have eg : (v_p (x_v x) (v_h (x_v x) i)).getD ((v_p (x_v x) (v_h (x_v x) i)).idxOf i) 0 = i := (l_idx (h.1.1.nd hc) hlt).mpr rfl
        have ee := l_env_m (x_s x) (v_y (x_v x)) (v_h (x_v x) i) (v_p (x_v x) (v_h (x_v x) i)) ((v_p (x_v x) (v_h (x_v x) i)).idxOf i)
        rw [eg] at ee
        rw [← ee, z_min_comm] at hbr
        refine zb_Model_book_216 (k1 := 48) (dc := 340) (P := fun r u2 => r = l_br (x_E x) (x_s x) (v_y (x_v x)) (v_h (x_v x) i) (v_p (x_v x) (v_h (x_v x) i)) ((v_p (x_v x) (v_h (x_v x) i)).idxOf i) ∧ mF (fun _ => False) (z_pI σ 63 11 (nI 0)) u2) (z_ixn (by omega)) ?_ (by omega) (fun r u hr => ?_)
        · rw [h0.1.fy, zn_bcl hn (h.1.1.nd hc) (fun b' hb' => ((h.1.1.mm hc b').mp hb').1)]
          exact hbr
        obtain ⟨rfl, hF⟩ := hr
        refine zb_Model_book_229 (zb_Model_book_233 ?_)
        obtain ⟨w1, w2⟩ := h0.low (hF.X2 (fun _ h => h.elim))
        rw [he]
        refine ⟨_, rfl, ?_, w1, (mW.zU m_t0W).tr w2⟩
        have eo : (if nI 6 = nI 0 then some (nI (s_t (x_s x) i)) else if nI 6 = nI 1 then some (nI (s_w (x_s x) i)) else if nI 6 = nI 2 then some (nI (v_w (x_v x) i)) else if nI 6 = nI 3 then some (if v_w (x_v x) i = 1 ∨ v_w (x_v x) i = 2 then nI (v_h (x_v x) i) else -1) else if nI 6 = nI 4 then some (if v_w (x_v x) i = 1 then nI ((v_p (x_v x) (v_h (x_v x) i)).idxOf i) else -1) else if nI 6 = nI 5 then some (if v_w (x_v x) i = 2 then nI (v_d (x_v x) i) else -1) else if nI 6 = nI 6 then some (if v_w (x_v x) i = 1 then l_br (x_E x) (x_s x) (v_y (x_v x)) (v_h (x_v x) i) (v_p (x_v x) (v_h (x_v x) i)) ((v_p (x_v x) (v_h (x_v x) i)).idxOf i) else -1) else none) = some (l_br (x_E x) (x_s x) (v_y (x_v x)) (v_h (x_v x) i) (v_p (x_v x) (v_h (x_v x) i)) ((v_p (x_v x) (v_h (x_v x) i)).idxOf i)) := by
          show some (if v_w (x_v x) i = 1 then _ else _) = _
          rw [if_pos q2]
        rw [eo]
        exact ⟨rfl, by rw [hF.2.1 11 (by omega) (by decide)]; exact z_pI_at _ _ _ _⟩
    · rw [zn_eq (by omega) (by omega)] at q; subst q
      exact zb_Model_book_84 (k1 := i) (z_ixn (by omega)) (fin he (by rw [(h0.1.Bk.2.2 i hi).1]; rfl))
    · rw [zn_eq (by omega) (by omega)] at q; subst q
      exact zb_Model_book_91 (k1 := i) (z_ixn (by omega)) (fin he (by rw [(h0.1.Bk.2.2 i hi).2.1]; rfl))
    · rw [zn_eq (by omega) (by omega)] at q; subst q
      exact zb_Model_book_98 (k1 := i) (z_ixn (by omega)) (fin he (by rw [h0.1.fw hi]; rfl))
    · rw [zn_eq (by omega) (by omega)] at q; subst q
      have yes : (v_w (x_v x) i = 1 ∨ v_w (x_v x) i = 2) → z_J Γ zm_Model_book 119 [some (.inr 63), some (.inl (nI i)), none, none] [] (z_pI σ 63 11 (nI 0)) := fun q2 => by
        refine zb_Model_book_119 (k1 := 12 + i) ⟨nI_add _ _, by omega⟩ (zb_Model_book_132 (fin he ?_))
        show some (if _ then _ else _) = _
        rw [if_pos q2, h0.1.fh hi q2]
      refine zb_Model_book_105 (fun q2 => ?_) (fun q2 => ?_)
      · rw [ht, Decidable.not_not] at q2
        exact yes (Or.inl q2)
      · rw [ht] at q2
        refine zb_Model_book_109 (k1 := i) (z_ixn (by omega)) (fun q3 => ?_) (fun q3 => ?_)
        · rw [h0.1.fw hi, zn_eq (by omega) (by omega)] at q3
          refine zb_Model_book_131 (zb_Model_book_132 (fin he ?_))
          show some (if _ then _ else _) = _
          rw [if_neg (by omega)]
        · rw [h0.1.fw hi, zn_eq (by omega) (by omega)] at q3
          exact yes (Or.inr q3)
    · rw [zn_eq (by omega) (by omega)] at q; subst q
      refine zb_Model_book_133 (fun q2 => ?_) (fun q2 => ?_)
      · rw [ht] at q2
        refine zb_Model_book_149 (zb_Model_book_150 (fin he ?_))
        show some (if _ then _ else _) = _
        rw [if_neg q2]
      · rw [ht, Decidable.not_not] at q2
        refine zb_Model_book_137 (k1 := 24 + i) ⟨nI_add _ _, by omega⟩ (zb_Model_book_150 (fin he ?_))
        show some (if _ then _ else _) = _
        rw [if_pos q2, h0.1.fp hi q2]
    · rw [zn_eq (by omega) (by omega)] at q; subst q
      refine zb_Model_book_151 (k1 := i) (z_ixn (by omega)) (fun q3 => ?_) (fun q3 => ?_)
      · rw [h0.1.fw hi, zn_eq (by omega) (by omega)] at q3
        refine zb_Model_book_173 (zb_Model_book_174 (fin he ?_))
        show some (if _ then _ else _) = _
        rw [if_neg q3]
      · rw [h0.1.fw hi, zn_eq (by omega) (by omega)] at q3
        refine zb_Model_book_161 (k1 := 36 + i) ⟨nI_add _ _, by omega⟩ (zb_Model_book_174 (fin he ?_))
        show some (if _ then _ else _) = _
        rw [if_pos q3, h0.1.fd hi q3]
  refine zb_Model_book_28 (k1 := i) (z_ixn (by omega)) (fun q => ?_) (fun q => ?_)
  · rw [h0.1.fw hi, zn_eq (by omega) (by omega)] at q
    exact zb_Model_book_42 (go (nI 0) ⟨fun _ => q, fun _ => rfl⟩)
  · rw [h0.1.fw hi, zn_eq (by omega) (by omega)] at q
    exact zb_Model_book_38 (go (nI 1) ⟨fun e => absurd e (by decide), fun e => absurd q e⟩)
theorem mp_column (h : mA x σ) (a b : Int32) : z_Ci 345 zm_Model_column [.inr 63, .inl a, .inl b] σ (mZ x (x_col x a b) σ) := by
  have h0 := m_t0 h
  have h6 := h.1.c6
  refine z_Ci_of (by decide) (Nat.le_of_ble_eq_true rfl) (fun Γ hd he => ?_)
  show z_J Γ zm_Model_column 0 [some (.inr 63), some (.inl a), some (.inl b), none] [] σ
  have no : x_col x a b = none → z_J Γ zm_Model_column 22 [some (.inr 63), none, none, none] [] (z_pI σ 63 11 (nI 0)) := fun q => by
    refine zb_Model_column_22 mc_lost (by omega) (fun r u hr => ?_)
    obtain ⟨rfl, rfl⟩ := hr
    exact zb_Model_column_26 (mZ.no h (P := fun _ _ => True) he q)
  refine zb_Model_column_0 (mc_isColumn h6 h0.1.2.1.2.1 a) (by omega) (fun r u hr => ?_)
  obtain ⟨rfl, rfl⟩ := hr
  refine zb_Model_column_10 (fun k => no ?_) (fun k => ?_)
  · rw [z_tf_eq0] at k
    rw [x_col, if_neg (by rw [k]; decide)]
  rw [z_tf_eq0, Bool.not_eq_false] at k
  refine zb_Model_column_13 (mc_in _ _ _ _) (by omega) (fun r u hr => ?_)
  obtain ⟨rfl, rfl⟩ := hr
  obtain ⟨i, hi, rfl⟩ := z_isn_t (by omega) k
  have hl4 := h.1.1.l4 hi
  have eb := x_col.eq_1 x (nI i) b
  rw [if_pos k, nI_clamp (by omega)] at eb
  refine zb_Model_column_19 (fun k2 => ?_) (fun k2 => no ?_)
  rotate_left
  · rw [z_tf_eq0] at k2
    have hne : ∀ j, j ≤ 4 → ¬ b = nI j := fun j hj e => by
      subst e
      rw [Bool.and_eq_false_iff, decide_eq_false_iff_not, decide_eq_false_iff_not] at k2
      rcases k2 with q | q
      · exact q (nI_le (Nat.zero_le _) (by omega))
      · exact q (nI_le hj (by omega))
    rw [eb, if_neg (hne 0 (by decide)), if_neg (hne 1 (by decide)), if_neg (hne 2 (by decide)), if_neg (hne 3 (by decide)), if_neg (hne 4 (by decide))]
  rw [z_tf_eq0, Bool.not_eq_false, Bool.and_eq_true, decide_eq_true_eq, decide_eq_true_eq] at k2
  obtain ⟨j, hj, rfl⟩ := z_0to (by decide) k2
  rw [eb] at he
  have hrd := mc_readPile h0.1.nb (by decide) (by decide) (h0.1.C hi) (m := 0) (by decide)
  rw [l_bt0] at hrd
  refine zb_Model_column_27 hrd (by omega) (fun r u hr => ?_)
  obtain ⟨rfl, hP, hF⟩ := hr
  have f1 : mX m_sO m_sK (z_pI σ 63 11 (nI 0)) u := hF.X (by decide) (by unfold m_sO; omega)
  have h1 := (h0.low f1).1
  have hz1 := (mW.zU m_t0W).tr (h0.low f1).2
  have e11 : u.1 63 11 = nI 0 := by rw [(hF 63 (by decide)).1]; exact z_pI_at _ _ _ _
  have fin : ∀ {y : Int32} {o : Option Int32} {u2 : zS}, z_end Γ = (fun r u => ∃ x1, r = some x1 ∧ mZ x o σ x1 u) → o = some y → mX m_sO m_sK u u2 → u2.1 63 11 = nI 0 → z_end Γ (some y) u2 := fun he ho hf e2 => by
    rw [he, ho]
    exact ⟨_, rfl, ⟨rfl, e2⟩, (h1.low hf).1, hz1.tr (h1.low hf).2⟩
  refine zb_Model_column_37 (fun q => ?_) (fun q => ?_) (fun q => ?_) (fun q => ?_) (fun q => ?_)
  · rw [nI_toInt (by omega)] at q
    have e4 : j = 4 := by omega
    subst e4
    refine zb_Model_column_105 (mc_highest h1.1.nb (by decide) (by decide) (h1.1.C hi)) (by omega) (fun r u2 hr => ?_)
    obtain ⟨rfl, hF2⟩ := hr
    exact zb_Model_column_114 (fin he rfl (hF2.X (by decide) (by unfold m_sO; omega)) (by rw [(hF2 63 (by decide)).1]; exact e11))
  · rw [zn_eq (by omega) (by omega)] at q; subst q
    refine zb_Model_column_68 (mc_heightOf h1.1.Bk (by decide) (h1.1.1.nd hi) (h1.1.I hi)) (by omega) (fun r u2 hr => ?_)
    obtain ⟨rfl, rfl⟩ := hr
    exact zb_Model_column_77 (fin he rfl mX.rf e11)
  · rw [zn_eq (by omega) (by omega)] at q; subst q
    exact zb_Model_column_78 (fin he rfl mX.rf e11)
  · rw [zn_eq (by omega) (by omega)] at q; subst q
    refine zb_Model_column_80 (mc_above h1.1.Bk hP hl4 (fun k hk => ((h.1.1.mm hi _).mp (l_getD_mem hk)).1) (x := -1) (k := 0) (by decide) (by omega)) (by omega) (fun r u2 hr => ?_)
    obtain ⟨rfl, rfl⟩ := hr
    exact zb_Model_column_86 (fin he rfl mX.rf e11)
  · rw [zn_eq (by omega) (by omega)] at q; subst q
    refine zb_Model_column_87 (mc_isHeld h1.2.2.1.1 h1.1.Bk (by decide) (by decide) (h1.1.C hi) h1.1.fy (by rw [h1.2.2.1.2]; decide)) (by omega) (fun r u2 hr => ?_)
    obtain ⟨rfl, hF2⟩ := hr
    have f2 : mX m_sO m_sK u u2 := hF2.X2 (by unfold m_sO; omega)
    have e2 : u2.1 63 11 = nI 0 := by rw [hF2.2.1 11 (by omega) (by decide)]; exact e11
    refine zb_Model_column_96 (fun q => ?_) (fun q => ?_)
    · rw [z_tf_eq0] at q
      refine zb_Model_column_103 (zb_Model_column_104 (fin he ?_ f2 e2))
      show some (z_tf _) = _
      rw [q]
      rfl
    · rw [z_tf_eq0, Bool.not_eq_false] at q
      refine zb_Model_column_99 (zb_Model_column_104 (fin he ?_ f2 e2))
      show some (z_tf _) = _
      rw [q]
      rfl
theorem mp_reader (h : mA x σ) (a b : Int32) : z_Ci 2 zm_Model_reader [.inr 63, .inl a, .inl b] σ (mZ x (x_rdr x a b) σ) := by
  have h0 := m_t0 h
  have h4 := h.1.r4
  have hn := h.1.n
  refine z_Ci_of (by decide) (Nat.le_of_ble_eq_true rfl) (fun Γ hd he => ?_)
  show z_J Γ zm_Model_reader 0 [some (.inr 63), some (.inl a), some (.inl b)] [] σ
  have no : x_rdr x a b = none → z_J Γ zm_Model_reader 22 [some (.inr 63), none, none] [] (z_pI σ 63 11 (nI 0)) := fun q => by
    refine zb_Model_reader_22 mc_lost (by omega) (fun r u hr => ?_)
    obtain ⟨rfl, rfl⟩ := hr
    exact zb_Model_reader_26 (mZ.no h (P := fun _ _ => True) he q)
  refine zb_Model_reader_0 (mc_isReader h4 h0.1.2.1.2.2.1 a) (by omega) (fun r u hr => ?_)
  obtain ⟨rfl, rfl⟩ := hr
  refine zb_Model_reader_10 (fun k => no ?_) (fun k => ?_)
  · rw [z_tf_eq0] at k
    rw [x_rdr, if_neg (by rw [k]; decide)]
  rw [z_tf_eq0, Bool.not_eq_false] at k
  refine zb_Model_reader_13 (mc_in _ _ _ _) (by omega) (fun r u hr => ?_)
  obtain ⟨rfl, rfl⟩ := hr
  obtain ⟨i, hi, rfl⟩ := z_isn_t (by omega) k
  have eb := x_rdr.eq_1 x (nI i) b
  rw [if_pos k, nI_clamp (by omega)] at eb
  refine zb_Model_reader_19 (fun k2 => ?_) (fun k2 => no ?_)
  rotate_left
  · rw [z_tf_eq0] at k2
    have hne : ∀ j, j ≤ 2 → ¬ b = nI j := fun j hj e => by
      subst e
      rw [Bool.and_eq_false_iff, decide_eq_false_iff_not, decide_eq_false_iff_not] at k2
      rcases k2 with q | q
      · exact q (nI_le (Nat.zero_le _) (by omega))
      · exact q (nI_le hj (by omega))
    rw [eb, if_neg (hne 0 (by decide)), if_neg (hne 1 (by decide)), if_neg (hne 2 (by decide))]
  rw [z_tf_eq0, Bool.not_eq_false, Bool.and_eq_true, decide_eq_true_eq, decide_eq_true_eq] at k2
  obtain ⟨j, hj, rfl⟩ := z_0to (by decide) k2
  rw [eb] at he
  have fin : ∀ {y : Int32} {o : Option Int32}, z_end Γ = (fun r u => ∃ x1, r = some x1 ∧ mZ x o σ x1 u) → o = some y → z_end Γ (some y) (z_pI σ 63 11 (nI 0)) := fun he ho => by
    rw [he, ho]
    exact ⟨_, rfl, ⟨rfl, z_pI_at _ _ _ _⟩, h0, mW.zU m_t0W⟩
  have e0 : (0 : Int32) = nI 0 := rfl
  refine zb_Model_reader_27 (fun q => ?_) (fun q => ?_)
  · rw [e0, zn_eq (by omega) (by omega)] at q
    refine zb_Model_reader_40 (fun q2 => ?_) (fun q2 => ?_)
    · rw [zn_eq (by omega) (by omega)] at q2
      have e2 : j = 2 := by omega
      subst e2
      refine zb_Model_reader_57 (mc_lentTo h0.1.nb (by decide) (v := x_v x) (fun b hb => ⟨h0.1.w3 b, h0.1.fw hb, fun q => ⟨by have := h0.1.1.lt hb q; omega, h0.1.fh hb (Or.inr q)⟩⟩) (r := i) (by omega)) (by omega) (fun r u hr => ?_)
      obtain ⟨rfl, rfl⟩ := hr
      exact zb_Model_reader_66 (fin he rfl)
    · rw [zn_eq (by omega) (by omega)] at q2; subst q2
      exact zb_Model_reader_45 (k1 := 49 + i) ⟨nI_add _ _, by omega⟩ (zb_Model_reader_66 (fin he (by rw [h0.1.ff hi]; rfl)))
  · rw [e0, zn_eq (by omega) (by omega)] at q; subst q
    exact zb_Model_reader_31 (k1 := i) (z_ixn (by omega)) (zb_Model_reader_66 (fin he (by rw [h0.1.2.1.2.2.2.2.2 i hi]; rfl)))
theorem mp_sheet (h : mA x σ) (k n f st : Int32) : z_Ci 1 zm_Model_sheet [.inr 63, .inl k, .inl n, .inl f, .inl st] σ (fun r u => r = (to_sheet x k n f st).1 ∧ mA (to_sheet x k n f st).2 u ∧ zU σ u) := by
  have h0 := m_t0 h
  have hn := h.1.n
  refine z_Ci_of (by decide) (Nat.le_of_ble_eq_true rfl) (fun Γ hd he => ?_)
  show z_J Γ zm_Model_sheet 0 [some (.inr 63), some (.inl k), some (.inl n), some (.inl f), some (.inl st), none, none, none, none] [] σ
  have no : ¬ ((nI 0 ≤ k ∧ k ≤ nI 3) ∧ n ≤ nI 12) → z_J Γ zm_Model_sheet 20 [none, none, none, none, none, none, none, none, none] [] (z_pI σ 63 11 (nI 0)) := fun q => by
    refine zb_Model_sheet_20 ?_
    rw [he, to_sheet, if_neg q]
    exact ⟨_, rfl, rfl, h0, mW.zU m_t0W⟩
  refine zb_Model_sheet_0 (mc_in _ _ _ _) (by omega) (fun r u hr => ?_)
  obtain ⟨rfl, rfl⟩ := hr
  refine zb_Model_sheet_11 (fun q => no (fun p => ?_)) (fun q => ?_)
  · rw [z_tf_eq0] at q
    simp [p.1.1, p.1.2] at q
  rw [z_tf_eq0, Bool.not_eq_false, Bool.and_eq_true, decide_eq_true_eq, decide_eq_true_eq] at q
  refine zb_Model_sheet_14 (fun q2 => ?_) (fun q2 => no (fun p => q2 p.2))
  have et : to_sheet x k n f st = if ¬ nI 3 ≤ k ∧ ¬ 0 ≤ n then (-2, x) else (if k = nI 3 then -3 else nI (x_shs k n f st (s_n (x_s x))), (s_th (x_s x) (x_shn k n f st), x_v x, x_H x, (x_K x, x_T x), (x_L x, x_X x), x_r x, x_e x, x_k x, x_m x)) := if_pos ⟨q, q2⟩
  rw [et] at he
  have go : ¬ (¬ nI 3 ≤ k ∧ ¬ 0 ≤ n) → z_J Γ zm_Model_sheet 34 [some (.inr 63), some (.inl k), some (.inl n), some (.inl f), some (.inl st), none, none, none, none] [] (z_pI σ 63 11 (nI 0)) := by
    intro q3
    rw [if_neg q3] at he
    refine zb_Model_sheet_34 ?_
    have ef : f = f + nI 0 * st := by
      have e0 : nI 0 = 0 := rfl
      rw [e0, Int32.zero_mul, Int32.add_zero]
    rw [show ([some (.inr 63), some (.inl k), some (.inl n), none, some (.inl st), some (.inl (nI 0)), some (.inl f), some (.inl (nI 0)), none] : List (Option zV)) = [some (.inr 63), some (.inl k), some (.inl n), none, some (.inl st), some (.inl (nI (x_shs k n f st 0))), some (.inl (f + nI 0 * st)), some (.inl (nI 0)), none] by rw [← ef]; rfl]
    refine zj_forS (b := s_n (x_s x)) (fun i => [some (.inr 63), some (.inl k), some (.inl n), none, some (.inl st), some (.inl (nI (x_shs k n f st i))), some (.inl (f + nI i * st)), some (.inl (nI i)), none])
      (fun i u => (∀ j, j < i → u.1 65 j = nI (x_shn k n f st j)) ∧ z_fr (fun q => q = 65) (z_pI σ 63 11 (nI 0)) u) (fun i u hi hI kk => ?_) (fun u hI => ?_) 0 (Nat.zero_le _) _ ⟨fun _ q => absurd q (by omega), z_fr.rf⟩
    · obtain ⟨q1, q4⟩ := hI
      have ef1 : u.1 63 1 = nI (s_n (x_s x)) := by rw [(q4 63 (by decide)).1]; exact h0.1.2.1.1
      refine zb_Model_sheet_43 (fun q => ?_) (fun _ => ?_)
      · rw [ef1] at q
        exact absurd q (nI_ge hi (by omega))
      have last : ∀ y : Int32, y = x_she k n f st i → z_J Γ zm_Model_sheet 109 [some (.inr 63), some (.inl k), some (.inl n), none, some (.inl st), some (.inl (nI (x_shs k n f st i))), some (.inl (f + nI i * st)), some (.inl (nI i)), none] [.inl y, .inl (nI i), .inr 65] u := by
        intro y hy
        refine zb_Model_sheet_109 (k1 := i) (k2 := i) (z_ixn (by omega)) (z_ixn (by omega)) ?_
        rw [z_pI_at, hy, (x_she_n k n f st i).1, nI_add, nI_add]
        have e2 : f + nI i * st + st = f + nI (i + 1) * st := by
          rw [← nI_add, Int32.add_mul, Int32.add_assoc]
          have e1 : nI 1 = 1 := rfl
          rw [e1, Int32.one_mul]
        rw [e2]
        refine kk _ ⟨fun j hj => ?_, q4.pI rfl⟩
        by_cases e : j = i
        · subst e
          exact z_pI_at _ _ _ _
        · rw [z_pI_ne2 e]
          exact q1 j (by omega)
      have mid : ∀ y : Int32, y = (if k = 0 then (f + nI i * st).toInt8.toInt32 else if k = nI 1 then (f + nI i * st).toInt16.toInt32 else f + nI i * st) → z_J Γ zm_Model_sheet 75 [some (.inr 63), some (.inl k), some (.inl n), none, some (.inl st), some (.inl (nI (x_shs k n f st i))), some (.inl (f + nI i * st)), some (.inl (nI i)), none] [.inl y] u := by
        intro y hy
        refine zb_Model_sheet_75 (fun p => ?_) (fun p => ?_)
        · refine zb_Model_sheet_94 (last _ ?_)
          rw [x_she, if_pos (Or.inl p)]
        · refine zb_Model_sheet_88 (fun p2 => ?_) (fun p2 => ?_)
          · refine zb_Model_sheet_98 (by omega) (last _ ?_)
            rw [x_she, if_neg (fun z => z.elim p (fun z => z p2)), hy]
          · refine zb_Model_sheet_94 (last _ ?_)
            rw [x_she, if_pos (Or.inr p2)]
      refine zb_Model_sheet_52 (fun p => ?_) (fun p => ?_)
      · refine zb_Model_sheet_62 (fun p2 => ?_) (fun p2 => ?_)
        · exact zb_Model_sheet_73 (mid _ (by rw [if_neg p, if_neg p2]))
        · exact zb_Model_sheet_67 (mid _ (by rw [if_neg p, if_pos p2]))
      · exact zb_Model_sheet_56 (mid _ (by rw [if_pos p]))
    · obtain ⟨q1, q4⟩ := hI
      have ef1 : u.1 63 1 = nI (s_n (x_s x)) := by rw [(q4 63 (by decide)).1]; exact h0.1.2.1.1
      have fin : ∀ y : Int32, y = (if k = nI 3 then -3 else nI (x_shs k n f st (s_n (x_s x)))) → z_J Γ zm_Model_sheet 147 [none, none, none, none, none, none, none, none, none] [.inl y] u := by
        intro y hy
        refine zb_Model_sheet_147 ?_
        rw [he, hy]
        have qX : mX (fun q => q = 65) (fun _ => False) (z_pI σ 63 11 (nI 0)) u := q4.X (by decide) (fun _ h => h)
        have hth : ∀ b, b < s_n (x_s x) → 1 ≤ x_shn k n f st b ∧ x_shn k n f st b ≤ 9 := fun b _ => (x_she_n k n f st b).2
        refine ⟨_, rfl, rfl, ⟨⟨h0.1.1.th hth, ⟨ef1, ?_, ?_, fun b hb => q1 b hb, ?_, ?_⟩, ?_⟩, ⟨?_, ?_, fun i w hw => ?_⟩, h0.2.2.1.keepX qX (by decide) id, h0.2.2.2.1.keepX qX (by decide) id, h0.2.2.2.2.1.keepX qX (by decide) id, ?_, ?_⟩, (mW.zU m_t0W).tr (qX.zU (by omega))⟩
        · rw [(q4 63 (by decide)).1]; exact h0.1.2.1.2.1
        · rw [(q4 63 (by decide)).1]; exact h0.1.2.1.2.2.1
        · rw [(q4 66 (by decide)).1]; exact h0.1.2.1.2.2.2.2.1
        · rw [(q4 67 (by decide)).1]; exact h0.1.2.1.2.2.2.2.2
        · rw [(q4 64 (by decide)).1]; exact h0.1.2.2
        · exact h0.2.1.1
        · rw [(q4 63 (by decide)).1]; exact h0.2.1.2.1
        · obtain ⟨w1, w2⟩ := h0.2.1.2.2 i w hw
          refine ⟨w1.th hth, ?_⟩
          rw [(q4 76 (by decide)).1]
          exact w2
        · have := h0.2.2.2.2.2.1.keepX qX (by decide) id
          exact this
        · obtain ⟨k1, k2⟩ := h0.2.2.2.2.2.2.keepX qX (by decide) id
          refine ⟨k1, fun i hi => ?_⟩
          obtain ⟨m1, m2, m3⟩ := k2 i hi
          refine ⟨m1, fun w hw => ?_, m3⟩
          obtain ⟨w1, w2, w3, w4⟩ := m2 w hw
          exact ⟨w1, w2, w3.th hth, w4⟩
      refine zb_Model_sheet_43 (fun _ => ?_) (fun q => ?_)
      · refine zb_Model_sheet_135 (fun p => ?_) (fun p => ?_)
        · exact zb_Model_sheet_145 (fin _ (by rw [if_neg p]))
        · exact zb_Model_sheet_140 (fin _ (by rw [if_pos p]))
      · rw [ef1] at q
        exact absurd (Int32.le_refl _) q
  refine zb_Model_sheet_22 (fun q3 => go (fun p => p.1 q3)) (fun q3 => ?_)
  refine zb_Model_sheet_27 (fun q4 => go (fun p => p.2 q4)) (fun q4 => ?_)
  refine zb_Model_sheet_31 ?_
  rw [he, if_pos ⟨q3, q4⟩]
  exact ⟨_, rfl, rfl, h0, mW.zU m_t0W⟩
end
