/-! the program: signs, what is seen, counted, asked -/
theorem zn_ch : ∀ m, m < 256 → vp_nar .char (((nI m).toUInt32 % 65536).toInt32) = nI m := by decide +kernel
theorem x_sg_c (a : Int32) {k : Nat} (hk : k < 4) : z_ushr a (nI (8 * k)) &&& nI 255 = nI (x_sg a k) := by
  have hs : ((nI (8 * k)).toUInt32 &&& Int32.toUInt32 31).toBitVec.toNat = 8 * k := by
    rcases (show k = 0 ∨ k = 1 ∨ k = 2 ∨ k = 3 by omega) with rfl | rfl | rfl | rfl <;> decide
  have h : (z_ushr a (nI (8 * k))).toBitVec.toNat = a.toBitVec.toNat / 2 ^ (8 * k) := by
    unfold z_ushr
    show (a.toUInt32 >>> ((nI (8 * k)).toUInt32 &&& Int32.toUInt32 31)).toBitVec.toNat = _
    rw [UInt32.toBitVec_shiftRight, BitVec.ushiftRight_eq', BitVec.toNat_ushiftRight, Nat.shiftRight_eq_div_pow]
    have e1 : (((nI (8 * k)).toUInt32 &&& Int32.toUInt32 31).toBitVec % 32).toNat = 8 * k := by
      rw [BitVec.toNat_umod, hs]
      show 8 * k % 32 = 8 * k
      omega
    rw [e1]
    rfl
  apply Int32.toBitVec_inj.1
  apply BitVec.eq_of_toNat_eq
  have e2 : (z_ushr a (nI (8 * k)) &&& nI 255).toBitVec.toNat = (z_ushr a (nI (8 * k))).toBitVec.toNat &&& 255 := by
    rw [Int32.toBitVec_and, BitVec.toNat_and]
    rfl
  rw [e2, h]
  show _ = (BitVec.ofNat 32 (x_sg a k)).toNat
  have hlt := x_sg_lt a k
  rw [BitVec.toNat_ofNat, Nat.mod_eq_of_lt (by omega)]
  show a.toBitVec.toNat / 2 ^ (8 * k) &&& (2 ^ 8 - 1) = _
  rw [Nat.and_two_pow_sub_one_eq_mod]
  rfl
section
variable {x : tX} {σ u : zS}
theorem cc_seenBits {s : aS} {se : Nat → Option Nat} (h6 : s_c s ≤ 6) (hf : σ.1 33 6 = nI (s_c s)) (h : cSe s se σ) : z_Ci 0 zm_Walls_seenBits [.inr 0] σ (z_is (nI (se_b se (s_c s))) σ) := by
  refine z_Ci_of (by decide) (Nat.le_of_ble_eq_true rfl) (fun Γ hd he => ?_)
  show z_J Γ zm_Walls_seenBits 0 [some (.inr 0), none, none] [] σ
  refine zb_Walls_seenBits_0 ?_
  refine zj_for (b := s_c s) (fun i => [some (.inr 0), some (.inl (nI (se_b se i))), some (.inl (nI i))]) (fun _ => σ) (fun i hi kk => ?_) ?_ 0 (Nat.zero_le _)
  · refine zb_Walls_seenBits_4 (fun q => ?_) (fun _ => ?_)
    · rw [hf] at q
      exact absurd q (nI_ge hi (by omega))
    obtain ⟨h1, h2⟩ := h i hi
    refine zb_Walls_seenBits_15 (k1 := i) (z_ixn (by omega)) (fun q => ?_) (fun q => ?_)
    · refine zb_Walls_seenBits_31 ?_
      have hn : se i = none := by
        cases e : se i with
        | none => rfl
        | some t =>
          obtain ⟨t1, t2⟩ := h2 t e
          rw [t2] at q
          exact absurd q (zn_neg1 (by omega))
      rw [nI_add]
      simp only [se_b, hn, Option.isSome_none, Bool.false_eq_true, if_false] at kk
      exact kk
    · refine zb_Walls_seenBits_25 (zb_Walls_seenBits_31 ?_)
      have hn : (se i).isSome = true := by
        cases e : se i with
        | none => exact absurd (h1 e) q
        | some t => rfl
      rw [zn_shl (by omega), zn_or, nI_add]
      simp only [se_b, hn, if_true] at kk
      exact kk
  · refine zb_Walls_seenBits_4 (fun _ => ?_) (fun q => ?_)
    · refine zb_Walls_seenBits_37 ?_
      rw [he]
      exact ⟨_, rfl, rfl, rfl⟩
    · rw [hf] at q
      exact absurd (Int32.le_refl _) q
theorem cp_sign (h : cA x σ) (a : Int32) : z_Ci 1 zm_Walls_sign [.inr 0, .inl a] σ (fun r u => r = (to_sign x a).1 ∧ cA (to_sign x a).2 u ∧ zW σ u) := by
  obtain ⟨t1, t2, t3⟩ := h.2.2.2.1
  refine z_Ci_of (by decide) (Nat.le_of_ble_eq_true rfl) (fun Γ hd he => ?_)
  show z_J Γ zm_Walls_sign 0 [some (.inr 0), some (.inl a), none] [] σ
  have e0 : (0 : Int32) = nI 0 := rfl
  refine zb_Walls_sign_0 (fun k => ?_) (fun k => ?_)
  · rw [t2, nI_add, zn_le (by omega) (by omega)] at k
    refine zb_Walls_sign_13 ?_
    refine zj_forS (b := 4) (fun i => [some (.inr 0), some (.inl a), some (.inl (nI (32 - 8 * i) - nI 8))])
      (fun i u => u.1 0 1 = nI (x_L x + i) ∧ (∀ j, j < i → u.1 1 (x_L x + j) = nI (x_sg a (3 - j))) ∧ (∀ j, j < x_L x → u.1 1 j = σ.1 1 j) ∧ cX (fun q => q = 1) (fun k => k = 1) σ u) (fun i u hi hI kk => ?_) (fun u hI => ?_) 0 (Nat.zero_le _) σ ⟨t2, fun _ q => absurd q (by omega), fun _ _ => rfl, cX.rf⟩
    · obtain ⟨q1, q2, q3, q4⟩ := hI
      have e1 : nI (32 - 8 * i) - nI 8 = nI (8 * (3 - i)) := by
        rw [pk_sub (by omega)]
        congr 1
        omega
      rw [e1]
      refine zb_Walls_sign_16 (fun q => ?_) (fun _ => ?_)
      · rw [e0, zn_lt (by omega) (by omega)] at q
        omega
      refine zb_Walls_sign_20 (k1 := x_L x + i) ⟨q1, by omega⟩ ?_
      rw [x_sg_c a (by omega), zn_ch _ (x_sg_lt _ _), z_pI_ne (show 0 ≠ 1 by decide), q1, nI_add]
      have e2 : nI (8 * (3 - i)) + -8 = nI (32 - 8 * (i + 1)) - nI 8 := by
        rw [← e1]
        rcases (show i = 0 ∨ i = 1 ∨ i = 2 ∨ i = 3 by omega) with rfl | rfl | rfl | rfl <;> decide
      rw [e2]
      refine kk _ ⟨?_, fun j hj => ?_, fun j hj => ?_, cX.pK (cX.pR q4 rfl (by decide)) rfl⟩
      · rw [z_pI_at, Nat.add_assoc]
      · rw [z_pI_ne (by decide)]
        by_cases e : j = i
        · subst e
          rw [z_pI_at]
        · rw [z_pI_ne2 (by omega)]
          exact q2 j (by omega)
      · rw [z_pI_ne (by decide), z_pI_ne2 (by omega)]
        exact q3 j hj
    · obtain ⟨q1, q2, q3, q4⟩ := hI
      refine zb_Walls_sign_16 (fun _ => ?_) (fun q => absurd (by decide) q)
      refine zb_Walls_sign_53 ?_
      rw [he, to_sign, if_pos k, q1]
      refine ⟨_, rfl, rfl, ⟨h.1.cX33 q4 (by omega), h.2.1.keepX q4 (by decide) (by omega), h.2.2.1.keepX q4 (by decide), ⟨k, q1, fun i hi => ?_⟩, h.2.2.2.2.1.keepX q4 (by decide) (by decide), h.2.2.2.2.2.1.keepX q4 (by decide), h.2.2.2.2.2.2.keepX q4 (by decide)⟩, q4.toW (by omega)⟩
      show (if x_L x ≤ i ∧ i < x_L x + 4 then x_sg a (3 - (i - x_L x)) else x_X x i) < 256 ∧ u.1 1 i = nI (if x_L x ≤ i ∧ i < x_L x + 4 then x_sg a (3 - (i - x_L x)) else x_X x i)
      by_cases e : i < x_L x
      · rw [if_neg (by omega), q3 i e]
        exact t3 i e
      · have hi' : i < x_L x + 4 := hi
        rw [if_pos ⟨by omega, hi'⟩]
        refine ⟨x_sg_lt _ _, ?_⟩
        have := q2 (i - x_L x) (by omega)
        rwa [show x_L x + (i - x_L x) = i by omega] at this
  · rw [t2, nI_add, zn_le (by omega) (by omega)] at k
    refine zb_Walls_sign_11 ?_
    rw [he, to_sign, if_neg k]
    exact ⟨_, rfl, rfl, h, zW.rf⟩
theorem cp_end (h : cA x σ) (a : Int32) : z_Ci 1 zm_Walls_end [.inr 0, .inl a] σ (fun r u => r = (to_end x a).1 ∧ cA (to_end x a).2 u ∧ zW σ u) := by
  obtain ⟨t1, t2, t3⟩ := h.2.2.2.1
  refine z_Ci_of (by decide) (Nat.le_of_ble_eq_true rfl) (fun Γ hd he => ?_)
  show z_J Γ zm_Walls_end 0 [some (.inr 0), some (.inl a)] [] σ
  have e0 : (0 : Int32) = nI 0 := rfl
  have no : ¬ (nI 0 ≤ a ∧ a ≤ nI (x_L x)) → z_J Γ zm_Walls_end 12 [none, none] [] σ := fun q => by
    refine zb_Walls_end_12 ?_
    rw [he, to_end, if_neg q]
    exact ⟨_, rfl, rfl, h, zW.rf⟩
  refine zb_Walls_end_0 (fun k => no (fun q => ?_)) (fun k => ?_)
  · rw [e0] at k
    exact absurd q.1 (Int32.not_le.mpr k)
  refine zb_Walls_end_4 (fun k2 => ?_) (fun k2 => no (fun q => k2 (by rw [t2]; exact q.2)))
  rw [t2] at k2
  have kk : nI 0 ≤ a ∧ a ≤ nI (x_L x) := ⟨by rw [← e0]; exact Int32.not_lt.mp k, k2⟩
  obtain ⟨n, hn, rfl⟩ := z_0to (by omega) kk
  refine zb_Walls_end_14 ?_
  rw [he, to_end, if_pos kk, nI_clamp (by omega)]
  have q4 : cX (fun _ => False) (fun k => k = 1) σ (z_pI σ 0 1 (nI n)) := cX.pK cX.rf rfl
  refine ⟨_, rfl, rfl, ⟨h.1.cX33 q4 (fun _ _ _ => id), h.2.1.keepX q4 id (fun _ _ _ => id), h.2.2.1.keepX q4 ⟨id, id, id, id⟩, ⟨by show n ≤ 80; omega, z_pI_at _ _ _ _, fun i hi => ?_⟩, h.2.2.2.2.1.keepX q4 id (by decide), h.2.2.2.2.2.1.keepX q4 id, h.2.2.2.2.2.2.keepX q4 ⟨id, id, id⟩⟩, q4.toW (fun _ h => h.elim)⟩
  rw [z_pI_ne (by decide)]
  exact t3 i (Nat.lt_of_lt_of_le hi hn)
theorem cp_seen (h : cA x σ) (a b : Int32) : z_Ci 2 zm_Walls_seen [.inr 0, .inl a, .inl b] σ (fun r u => r = (to_seen x a b).1 ∧ cA (to_seen x a b).2 u ∧ zW σ u) := by
  have h6 := h.1.c6
  refine z_Ci_of (by decide) (Nat.le_of_ble_eq_true rfl) (fun Γ hd he => ?_)
  show z_J Γ zm_Walls_seen 0 [some (.inr 0), some (.inl a), some (.inl b)] [] σ
  have no : ¬ (z_isn a (s_c (x_s x)) = true ∧ nI 0 ≤ b ∧ b ≤ nI 99) → z_J Γ zm_Walls_seen 18 [none, none, none] [] σ := fun q => by
    refine zb_Walls_seen_18 ?_
    rw [he, to_seen, if_neg q]
    exact ⟨_, rfl, rfl, h, zW.rf⟩
  refine zb_Walls_seen_0 (cc_isColumn z_c33 h.1.fc a) (by omega) (fun r u hr => ?_)
  obtain ⟨rfl, rfl⟩ := hr
  refine zb_Walls_seen_8 (fun k => no (fun q => ?_)) (fun k => ?_)
  · rw [z_tf_eq0] at k
    rw [k] at q
    exact absurd q.1 (by decide)
  rw [z_tf_eq0, Bool.not_eq_false] at k
  refine zb_Walls_seen_11 (cc_isHeight _ _) (by omega) (fun r u hr => ?_)
  obtain ⟨rfl, rfl⟩ := hr
  refine zb_Walls_seen_15 (fun k2 => ?_) (fun k2 => no (fun q => ?_))
  · rw [z_tf_eq0, Bool.not_eq_false, Bool.and_eq_true, decide_eq_true_eq, decide_eq_true_eq] at k2
    obtain ⟨c, hc, rfl⟩ := z_isn_t (by omega) k
    obtain ⟨n, hn, rfl⟩ := z_0to (by decide) k2
    have q4 : cX (fun q => q = 7) (fun _ => False) u (z_pI u 7 c (nI n)) := cX.pR cX.rf rfl (by decide)
    have hSe : cSe (x_s x) (fun j => if j = c then some n else x_e x j) (z_pI u 7 c (nI n)) := by
      intro j hj
      show ((if j = c then some n else x_e x j) = none → _) ∧ ∀ t, (if j = c then some n else x_e x j) = some t → _
      by_cases e : j = c
      · subst e
        rw [if_pos rfl, z_pI_at]
        refine ⟨fun q => absurd q (by simp), fun t ht => ?_⟩
        rw [Option.some.injEq] at ht
        subst ht
        exact ⟨hn, rfl⟩
      · rw [if_neg e, z_pI_ne2 e]
        exact h.2.2.2.2.2.1 j hj
    refine zb_Walls_seen_20 (k1 := c) (z_ixn (by omega)) (cc_seenBits h6 (by rw [z_pI_ne (by decide)]; exact h.1.fc) hSe) (by omega) (fun r u2 hr => ?_)
    obtain ⟨rfl, rfl⟩ := hr
    refine zb_Walls_seen_31 (by omega) ?_
    rw [he, to_seen, if_pos ⟨k, k2⟩, nI_clamp (by omega), nI_clamp (by omega)]
    exact ⟨_, rfl, rfl, ⟨h.1.cX33 q4 (by omega), h.2.1.keepX q4 (by decide) (by omega), h.2.2.1.keepX q4 (by decide), h.2.2.2.1.keepX q4 (by decide) id, h.2.2.2.2.1.keepX q4 (by decide) id, hSe, h.2.2.2.2.2.2.keepX q4 (by decide)⟩, q4.toW (by omega)⟩
  · rw [z_tf_eq0] at k2
    simp [q.2.1, q.2.2] at k2
theorem cp_forget (h : cA x σ) : z_Ci 2 zm_Walls_forget [.inr 0] σ (fun r u => r = (to_forget x).1 ∧ cA (to_forget x).2 u ∧ zW σ u) := by
  have h6 := h.1.c6
  refine z_Ci_of (by decide) (Nat.le_of_ble_eq_true rfl) (fun Γ hd he => ?_)
  show z_J Γ zm_Walls_forget 0 [some (.inr 0), none] [] σ
  refine zb_Walls_forget_0 (cc_seenBits h6 h.1.fc h.2.2.2.2.2.1) (by omega) (fun r u hr => ?_)
  obtain ⟨rfl, rfl⟩ := hr
  refine zb_Walls_forget_4 (by omega) ?_
  refine zb_Walls_forget_16 ?_
  rw [he, to_forget]
  have q4 : cX (fun q => q = 7) (fun _ => False) u (z_pA u 7 (z_fil 6 (-1) (u.1 7))) := cX.pA cX.rf rfl (by decide)
  refine ⟨_, rfl, rfl, ⟨h.1.cX33 q4 (by omega), h.2.1.keepX q4 (by decide) (by omega), h.2.2.1.keepX q4 (by decide), h.2.2.2.1.keepX q4 (by decide) id, h.2.2.2.2.1.keepX q4 (by decide) id, fun j hj => ⟨fun _ => ?_, fun t ht => absurd ht (by simp)⟩, h.2.2.2.2.2.2.keepX q4 (by decide)⟩, q4.toW (by omega)⟩
  change j < s_c (x_s x) at hj
  rw [z_pA_1, if_pos rfl, z_fil, if_pos (by omega)]
theorem cp_count (h : cA x σ) (a : Int32) : z_Ci 5 zm_Walls_count [.inr 0, .inl a] σ (fun r u => r = x_cnt x a ∧ cA x u ∧ zW σ u) := by
  refine z_Ci_of (by decide) (Nat.le_of_ble_eq_true rfl) (fun Γ hd he => ?_)
  show z_J Γ zm_Walls_count 0 [some (.inr 0), some (.inl a)] [] σ
  have fin : ∀ {r : Int32}, r = x_cnt x a → z_end Γ (some r) σ := fun hr => by
    rw [he]
    exact ⟨_, rfl, hr, h, zW.rf⟩
  refine zb_Walls_count_0 (fun q => ?_) (fun q => ?_) (fun q => ?_) (fun q => ?_) (fun q => ?_) (fun q => ?_) (fun q => ?_) (fun q => ?_) (fun q => ?_) (fun q => ?_) (fun q => ?_) (fun q => ?_) (fun q => ?_) (fun q => ?_)
  · refine zb_Walls_count_167 (fin ?_)
    have hne : ∀ k, k ≤ 12 → ¬ a = nI k := fun k hk e => by
      rw [e, nI_toInt (by omega)] at q
      omega
    unfold x_cnt
    rw [if_neg (hne 0 (by decide)), if_neg (hne 1 (by decide)), if_neg (hne 2 (by decide)), if_neg (hne 3 (by decide)), if_neg (hne 4 (by decide)), if_neg (hne 5 (by decide)), if_neg (hne 6 (by decide)), if_neg (hne 7 (by decide)), if_neg (hne 8 (by decide)), if_neg (hne 9 (by decide)), if_neg (hne 10 (by decide)), if_neg (hne 11 (by decide)), if_neg (hne 12 (by decide))]
  · subst q; exact zb_Walls_count_68 (fin (by rw [h.1.fn]; rfl))
  · subst q; exact zb_Walls_count_76 (fin (by rw [h.1.fc]; rfl))
  · subst q; exact zb_Walls_count_84 (fin (by rw [h.1.fr]; rfl))
  · subst q; exact zb_Walls_count_92 (fin (by rw [h.1.fy]; rfl))
  · subst q
    refine zb_Walls_count_100 (cc_bitsWhere z_c33 h.1 (by decide)) (by omega) (fun r u hr => ?_)
    obtain ⟨rfl, rfl⟩ := hr
    exact zb_Walls_count_108 (fin rfl)
  · subst q
    refine zb_Walls_count_109 (cc_bitsWhere z_c33 h.1 (by decide)) (by omega) (fun r u hr => ?_)
    obtain ⟨rfl, rfl⟩ := hr
    exact zb_Walls_count_117 (fin rfl)
  · subst q
    refine zb_Walls_count_118 (cc_bitsWhere z_c33 h.1 (by decide)) (by omega) (fun r u hr => ?_)
    obtain ⟨rfl, rfl⟩ := hr
    exact zb_Walls_count_126 (fin rfl)
  · subst q
    refine zb_Walls_count_127 (cc_bitsWhere z_c33 h.1 (by decide)) (by omega) (fun r u hr => ?_)
    obtain ⟨rfl, rfl⟩ := hr
    exact zb_Walls_count_135 (fin rfl)
  · subst q
    refine zb_Walls_count_136 (cc_leastHeight z_c33 h.1) (by omega) (fun r u hr => ?_)
    obtain ⟨rfl, rfl⟩ := hr
    exact zb_Walls_count_143 (fin rfl)
  · subst q
    refine zb_Walls_count_144 (cc_seenBits h.1.c6 h.1.fc h.2.2.2.2.2.1) (by omega) (fun r u hr => ?_)
    obtain ⟨rfl, rfl⟩ := hr
    exact zb_Walls_count_148 (fin rfl)
  · subst q; exact zb_Walls_count_149 (fin (by rw [h.2.1.2.1]; rfl))
  · subst q; exact zb_Walls_count_157 (fin (by rw [h.2.2.2.2.1.2.1]; rfl))
  · subst q; exact zb_Walls_count_162 (fin (by rw [h.2.2.2.1.2.1]; rfl))
theorem cp_low (h : cA x σ) (a : Int32) : z_Ci 5 zm_Walls_low [.inr 0, .inl a] σ (fun r u => r = (to_low x a).1 ∧ cA (to_low x a).2 u ∧ zW σ u) := by
  have h6 := h.1.c6
  refine z_Ci_of (by decide) (Nat.le_of_ble_eq_true rfl) (fun Γ hd he => ?_)
  show z_J Γ zm_Walls_low 0 [some (.inr 0), some (.inl a), none, none, none, none] [] σ
  refine zb_Walls_low_0 (cc_isHeight _ _) (by omega) (fun r u hr => ?_)
  obtain ⟨rfl, rfl⟩ := hr
  refine zb_Walls_low_4 (fun k => ?_) (fun k => ?_)
  · rw [z_tf_eq0, Bool.not_eq_false, Bool.and_eq_true, decide_eq_true_eq, decide_eq_true_eq] at k
    obtain ⟨n, hn, rfl⟩ := z_0to (by decide) k
    have et : to_low x (nI n) = (nI (a_lw (x_s x) (x_v x) n (s_c (x_s x))).1, x_row x [nI (a_lw (x_s x) (x_v x) n (s_c (x_s x))).2, nI (a_lh (x_s x) (x_v x))]) := by
      unfold to_low
      rw [if_pos k, nI_clamp (by omega)]
    refine zb_Walls_low_9 ?_
    refine zj_for (b := s_c (x_s x)) (fun i => [some (.inr 0), some (.inl (nI n)), some (.inl (nI (a_lw (x_s x) (x_v x) n i).1)), some (.inl (nI (a_lw (x_s x) (x_v x) n i).2)), some (.inl (nI i)), none]) (fun _ => u) (fun i hi kk => ?_) ?_ 0 (Nat.zero_le _)
    · refine zb_Walls_low_16 (fun q => ?_) (fun _ => ?_)
      · rw [h.1.fc] at q
        exact absurd q (nI_ge hi (by omega))
      refine zb_Walls_low_28 (cc_heightOf z_c33 h.1 hi) (by omega) (fun r u2 hr => ?_)
      obtain ⟨rfl, rfl⟩ := hr
      have h36 := a_h_le h.1 hi
      rw [a_lw] at kk
      refine zb_Walls_low_37 (fun q => ?_) (fun q => ?_)
      · rw [zn_le (by omega) (by omega)] at q
        refine zb_Walls_low_59 ?_
        rw [if_neg (by omega)] at kk
        rw [nI_add]
        exact kk
      · rw [zn_le (by omega) (by omega)] at q
        refine zb_Walls_low_45 (zb_Walls_low_59 ?_)
        rw [if_pos (by omega)] at kk
        rw [zn_shl (by omega), zn_or, pk_sub (by omega), nI_add, nI_add]
        exact kk
    · refine zb_Walls_low_16 (fun _ => ?_) (fun q => ?_)
      · refine zb_Walls_low_65 (cc_leastHeight z_c33 h.1) (by omega) (fun r u2 hr => ?_)
        obtain ⟨rfl, rfl⟩ := hr
        refine zb_Walls_low_74 (cc_tellTwo _ _ _) (by omega) (fun u3 h3 => ?_)
        refine zb_Walls_low_77 ?_
        rw [he, et]
        exact ⟨_, rfl, rfl, h.row (h3.2.mono (fun _ h => Or.inr h) (fun _ h => h)) h3.1⟩
      · rw [h.1.fc] at q
        exact absurd (Int32.le_refl _) q
  · rw [z_tf_eq0] at k
    refine zb_Walls_low_7 ?_
    rw [he, to_low, if_neg (fun q => by simp [q.1, q.2] at k)]
    exact ⟨_, rfl, rfl, h, zW.rf⟩
def w_Z (q : Option Nat × Nat) : Int32 := if q.1 = none then nI 0 else nI q.2
theorem w_I_some {q : Option Nat} {m : Nat} (h : ∀ b, q = some b → b < m) (hm : m < 2147483648) : w_I q = -1 ↔ q = none := by
  cases q with
  | none => simp [w_I]
  | some b =>
    have := h b rfl
    simp only [reduceCtorEq, iff_false]
    exact zn_neg1 (by omega)
theorem cp_weakest (h : cA x σ) : z_Ci 5 zm_Walls_weakest [.inr 0] σ (fun r u => r = (to_weakest x).1 ∧ cA (to_weakest x).2 u ∧ zW σ u) := by
  have hn := h.1.n
  refine z_Ci_of (by decide) (Nat.le_of_ble_eq_true rfl) (fun Γ hd he => ?_)
  show z_J Γ zm_Walls_weakest 0 [some (.inr 0), none, none, none, none] [] σ
  refine zb_Walls_weakest_0 ?_
  refine zj_for (b := s_n (x_s x)) (fun i => [some (.inr 0), some (.inl (w_I (a_wk (x_s x) (x_v x) i).1)), some (.inl (w_Z (a_wk (x_s x) (x_v x) i))), some (.inl (nI i)), none]) (fun _ => σ) (fun i hi kk => ?_) ?_ 0 (Nat.zero_le _)
  · refine zb_Walls_weakest_6 (fun q => ?_) (fun _ => ?_)
    · rw [h.1.fn] at q
      exact absurd q (nI_ge hi (by omega))
    have hw3 := h.1.w3 i
    obtain ⟨k1, k2, k3⟩ := a_wk_c (s := x_s x) (v := x_v x) i
    have h99 := a_lbi_le (x_s x) (x_v x) i (s_c (x_s x))
    refine zb_Walls_weakest_17 (k1 := i) (z_ixn (by omega)) (fun hw => ?_) (fun hw => ?_)
    · rw [h.1.fW (by omega), zn_eq (by omega) (by omega)] at hw
      refine zb_Walls_weakest_33 (cc_leastHeightWithout z_c33 h.1 hi hw) (by omega) (fun r u hr => ?_)
      obtain ⟨rfl, rfl⟩ := hr
      have yes : a_lbi (x_s x) (x_v x) i (s_c (x_s x)) < (a_wk (x_s x) (x_v x) i).2 → z_J Γ zm_Walls_weakest 54 [some (.inr 0), none, none, some (.inl (nI i)), some (.inl (nI (a_lbi (x_s x) (x_v x) i (s_c (x_s x)))))] [] u := fun q => by
        refine zb_Walls_weakest_54 (zb_Walls_weakest_59 ?_)
        rw [a_wk, if_pos ⟨hw, q⟩] at kk
        rw [nI_add]
        exact kk
      refine zb_Walls_weakest_41 (fun q => ?_) (fun q => ?_)
      · rw [w_I_some k3 (by omega)] at q
        refine yes ?_
        rw [k2 q]
        omega
      · rw [w_I_some k3 (by omega)] at q
        have e1 : w_Z (a_wk (x_s x) (x_v x) i) = nI (a_wk (x_s x) (x_v x) i).2 := if_neg q
        rw [e1]
        refine zb_Walls_weakest_48 (fun q2 => ?_) (fun q2 => ?_)
        · rw [zn_le (by omega) (by omega)] at q2
          refine zb_Walls_weakest_59 ?_
          rw [a_wk, if_neg (fun p => absurd p.2 (by omega)), e1] at kk
          rw [nI_add]
          exact kk
        · rw [zn_le (by omega) (by omega)] at q2
          exact yes (by omega)
    · rw [h.1.fW (by omega), zn_eq (by omega) (by omega)] at hw
      refine zb_Walls_weakest_30 (zb_Walls_weakest_59 ?_)
      rw [a_wk, if_neg (fun p => hw p.1)] at kk
      rw [nI_add]
      exact kk
  · obtain ⟨k1, k2, k3⟩ := a_wk_c (s := x_s x) (v := x_v x) (s_n (x_s x))
    refine zb_Walls_weakest_6 (fun _ => ?_) (fun q => ?_)
    rotate_left
    · rw [h.1.fn] at q
      exact absurd (Int32.le_refl _) q
    refine zb_Walls_weakest_65 (fun q => ?_) (fun q => ?_)
    · rw [w_I_some k3 (by omega)] at q
      refine zb_Walls_weakest_73 (cc_leastHeight z_c33 h.1) (by omega) (fun r u2 hr => ?_)
      obtain ⟨rfl, rfl⟩ := hr
      refine zb_Walls_weakest_82 (cc_tellTwo _ _ _) (by omega) (fun u3 h3 => ?_)
      refine zb_Walls_weakest_85 ?_
      rw [he, to_weakest, if_neg q]
      have e1 : w_Z (a_wk (x_s x) (x_v x) (s_n (x_s x))) = nI (a_wk (x_s x) (x_v x) (s_n (x_s x))).2 := if_neg q
      rw [e1] at h3
      exact ⟨_, rfl, rfl, h.row (h3.2.mono (fun _ h => Or.inr h) (fun _ h => h)) h3.1⟩
    · rw [w_I_some k3 (by omega)] at q
      refine zb_Walls_weakest_70 ?_
      rw [he, to_weakest, if_pos q]
      exact ⟨_, rfl, rfl, h, zW.rf⟩
theorem cp_home (h : cA x σ) (hD : a_D (x_s x) (x_v x)) (hy : x_y x) : z_Ci 4 zm_Walls_home [.inr 0] σ (fun r u => r = (to_home x).1 ∧ cA (to_home x).2 u ∧ zW σ u) := by
  have hn := h.1.n
  have h4 := h.1.r4
  unfold x_y at hy
  refine z_Ci_of (by decide) (Nat.le_of_ble_eq_true rfl) (fun Γ hd he => ?_)
  show z_J Γ zm_Walls_home 0 [some (.inr 0), none, none, none, none] [] σ
  refine zb_Walls_home_0 ?_
  have hle : ∀ n, n ≤ s_n (x_s x) → (a_hm (x_s x) (x_v x) n).2 ≤ 100 ∧ ((a_hm (x_s x) (x_v x) n).1 = none → (a_hm (x_s x) (x_v x) n).2 = 0) ∧ ∀ b, (a_hm (x_s x) (x_v x) n).1 = some b → b < n := by
    intro n
    induction n with
    | zero => intro _; exact ⟨Nat.zero_le _, fun _ => rfl, fun b hb => absurd hb (by simp [a_hm])⟩
    | succ n ih =>
      intro hnn
      rw [a_hm]
      by_cases q : v_w (x_v x) n = 2 ∧ (a_hm (x_s x) (x_v x) n).2 ≤ v_d (x_v x) n + s_l (x_s x) (v_h (x_v x) n) - v_y (x_v x)
      · rw [if_pos q]
        have hd := hD n (by omega) q.1
        have hl := h.1.1.2.2.2.2.2.2.2.2 _ (h.1.1.lt (show n < s_n (x_s x) by omega) q.1)
        refine ⟨?_, fun z => absurd z (by simp), fun b hb => ?_⟩
        · show v_d (x_v x) n + s_l (x_s x) (v_h (x_v x) n) - v_y (x_v x) ≤ 100
          omega
        · simp only [Option.some.injEq] at hb
          omega
      · rw [if_neg q]
        obtain ⟨i1, i2, i3⟩ := ih (by omega)
        exact ⟨i1, i2, fun b hb => Nat.lt_succ_of_lt (i3 b hb)⟩
  refine zj_for (b := s_n (x_s x)) (fun i => [some (.inr 0), some (.inl (w_I (a_hm (x_s x) (x_v x) i).1)), some (.inl (nI (a_hm (x_s x) (x_v x) i).2)), some (.inl (nI i)), none]) (fun _ => σ) (fun i hi kk => ?_) ?_ 0 (Nat.zero_le _)
  · refine zb_Walls_home_6 (fun q => ?_) (fun _ => ?_)
    · rw [h.1.fn] at q
      exact absurd q (nI_ge hi (by omega))
    have hw3 := h.1.w3 i
    obtain ⟨k1, k2, k3⟩ := hle i (by omega)
    refine zb_Walls_home_17 (k1 := i) (z_ixn (by omega)) (fun hw => ?_) (fun hw => ?_)
    · rw [h.1.fW (by omega), zn_eq (by omega) (by omega)] at hw
      have hh := h.1.1.lt hi hw
      have hd := hD i hi hw
      have hl := h.1.1.2.2.2.2.2.2.2.2 _ hh
      refine zb_Walls_home_33 (cc_backOn z_c33 h.1 hi hw) (by omega) (fun r u hr => ?_)
      obtain ⟨rfl, rfl⟩ := hr
      have yes : (a_hm (x_s x) (x_v x) i).2 ≤ v_d (x_v x) i + s_l (x_s x) (v_h (x_v x) i) - v_y (x_v x) → z_J Γ zm_Walls_home 62 [some (.inr 0), none, none, some (.inl (nI i)), some (.inl (nI (v_d (x_v x) i + s_l (x_s x) (v_h (x_v x) i) - v_y (x_v x))))] [] u := fun q => by
        refine zb_Walls_home_62 (zb_Walls_home_67 ?_)
        rw [a_hm, if_pos ⟨hw, q⟩] at kk
        rw [nI_add]
        exact kk
      have ev : nI (v_d (x_v x) i + s_l (x_s x) (v_h (x_v x) i)) - u.1 33 12 = nI (v_d (x_v x) i + s_l (x_s x) (v_h (x_v x) i) - v_y (x_v x)) := by
        rw [h.1.fy, pk_sub (by omega)]
      refine zb_Walls_home_41 (fun q => ?_) (fun q => ?_)
      · rw [w_I_some k3 (by omega)] at q
        rw [ev]
        exact yes (by rw [k2 q]; omega)
      · rw [ev]
        refine zb_Walls_home_56 (fun q2 => ?_) (fun q2 => ?_)
        · rw [zn_lt (by omega) (by omega)] at q2
          refine zb_Walls_home_67 ?_
          rw [a_hm, if_neg (fun p => absurd p.2 (by omega))] at kk
          rw [nI_add]
          exact kk
        · rw [zn_lt (by omega) (by omega)] at q2
          exact yes (by omega)
    · rw [h.1.fW (by omega), zn_eq (by omega) (by omega)] at hw
      refine zb_Walls_home_30 (zb_Walls_home_67 ?_)
      rw [a_hm, if_neg (fun p => hw p.1)] at kk
      rw [nI_add]
      exact kk
  · refine zb_Walls_home_6 (fun _ => ?_) (fun q => ?_)
    · refine zb_Walls_home_73 (cc_tell _ _) (by omega) (fun u2 h2 => ?_)
      refine zb_Walls_home_78 ?_
      rw [he]
      exact ⟨_, rfl, rfl, h.row (h2.2.mono (fun _ h => Or.inr h) (fun _ h => h)) h2.1⟩
    · rw [h.1.fn] at q
      exact absurd (Int32.le_refl _) q
end
