section
variable {x : tX} {σ u : zS}
theorem mp_readers (h : mA x σ) : z_Ci 4 zm_Model_readers [.inr 63] σ (fun r u => r = (to_readers x).1 ∧ mA (to_readers x).2 u ∧ zU σ u) := by
  have h0 := (m_t0r h).1
  have z0 := (m_t0r h).2
  have hr4 := h.1.r4
  obtain ⟨t1, t2, t3⟩ := id h0.2.2.2.1
  have e0 : (0 : Int32) = nI 0 := rfl
  refine z_Ci_of (by decide) (Nat.le_of_ble_eq_true rfl) (fun Γ hd he => ?_)
  show z_J Γ zm_Model_readers 0 [some (.inr 63), none, none, none] [] σ
  refine zb_Model_readers_0 (mc_beginText h0.2.2.2.1 7) (by omega) (fun u hu => ?_)
  subst hu
  generalize hρ : z_pI σ 63 11 (nI 0) = ρ at *
  have hC0 := rd_t_C h0.2.2.2.1 (m := 7) (by decide)
  have f13 : ∀ {τ : zS} {q : Nat × Option Nat}, zT (fun o => o = 70) (rd_t ρ (x_L x) 7) τ → (p_s τ q).1 63 13 = nI (x_L x) := fun hT => by
    rw [p_s_k _ _ (by decide) (by decide), hT.1 63 (by decide)]
    exact (rd_t_13 ρ (x_L x) 7).1
  have fR : ∀ {τ : zS} (q : Nat × Option Nat), zT (fun o => o = 70) (rd_t ρ (x_L x) 7) τ → mA (x_t0 x) (p_s τ q) ∧ zU ρ (p_s τ q) := fun q hT => by
    refine h0.rd (hT.X (by unfold m_sO; omega) ρ q (rd_t_X ρ (x_L x) 7 q)) ?_
    rw [p_s_k _ _ (by decide) (by decide), hT.1 63 (by decide)]
    exact (rd_t_13 ρ (x_L x) 7).2.2
  refine zb_Model_readers_11 (fun k => ?_) (fun k => ?_)
  rotate_left
  · rw [f13 zT.rf, e0, zn_eq (by omega) (by omega)] at k
    refine zb_Model_readers_18 ?_
    obtain ⟨w1, w2⟩ := fR (0, none) zT.rf
    rw [he, to_readers, if_pos k]
    exact ⟨_, rfl, rfl, w1, z0.tr w2⟩
  rw [f13 zT.rf, e0, zn_eq (by omega) (by omega)] at k
  rw [to_readers, if_neg k] at he
  refine zb_Model_readers_20 ?_
  -- a fault was found
  have bad : ∀ (n : Nat) (a p : Nat) (τ : zS), zT (fun o => o = 70) (rd_t ρ (x_L x) 7) τ → a ≤ 80 → p ≤ 80 → rs_b x = some p → z_J Γ zm_Model_readers 83 [some (.inr 63), some (.inl (nI n)), none, none] [] (p_s τ (a, some p)) := by
    intro n a p τ hT ha hp hb
    rw [hb] at he
    refine zb_Model_readers_83 (mn_wasRight (L := x_L x) (by intro p' h'; simp at h'; omega) (by show a ≤ 100; omega) t1 (by rw [hT.1 63 (by decide)]; exact (rd_t_13 ρ (x_L x) 7).1)) (by omega) (fun r u hr => ?_)
    have ew : d_wr (x_L x) (a, some p) = (a, some p) := by
      unfold d_wr d_flt
      simp
    rw [ew] at hr
    obtain ⟨rfl, rfl⟩ := hr
    refine zb_Model_readers_87 (fun z => absurd (by simp [z_tf]; decide) z) (fun _ => ?_)
    refine zb_Model_readers_90 ?_
    obtain ⟨w1, w2⟩ := fR (a, some p) hT
    rw [he, p_s_wr]
    exact ⟨_, rfl, rfl, w1, z0.tr w2⟩
  -- the text is at its end, or goes on with a sign that can't stand there
  have good : ∀ (n : Nat) (τ : zS), zT (fun o => o = 70) (rd_t ρ (x_L x) 7) τ → 2 * n + 1 ≤ x_L x → s_r (x_s x) + n < 4 → (∀ j, j < 2 * n + 1 → rs_ok (s_r (x_s x)) (x_X x) j = true) → (2 * n + 1 < x_L x → rs_ok (s_r (x_s x)) (x_X x) (2 * n + 1) = false) → (∀ k, k ≤ n → τ.1 70 k = nI (x_X x (2 * k) - 48)) → z_J Γ zm_Model_readers 83 [some (.inr 63), some (.inl (nI (n + 1))), none, none] [] (p_s τ (2 * n + 1, none)) := by
    intro n τ hT hL hnn hok hnx hcm
    refine zb_Model_readers_83 (mn_wasRight (L := x_L x) (by intro p' h'; simp at h') (by show 2 * n + 1 ≤ 100; omega) t1 (by rw [hT.1 63 (by decide)]; exact (rd_t_13 ρ (x_L x) 7).1)) (by omega) (fun r u hr => ?_)
    by_cases hlt : 2 * n + 1 < x_L x
    · have hb : rs_b x = some (2 * n + 1) := sc_b_at hok hlt (hnx hlt)
      have ew : d_wr (x_L x) (2 * n + 1, none) = (2 * n + 1, some (2 * n + 1)) := by
        unfold d_wr d_flt
        simp [hlt]
      rw [ew] at hr
      obtain ⟨rfl, rfl⟩ := hr
      rw [hb] at he
      refine zb_Model_readers_87 (fun z => absurd (by simp [z_tf]; decide) z) (fun _ => ?_)
      refine zb_Model_readers_90 ?_
      obtain ⟨w1, w2⟩ := fR (2 * n + 1, some (2 * n + 1)) hT
      rw [he, p_s_wr]
      exact ⟨_, rfl, rfl, w1, z0.tr w2⟩
    · have eL : x_L x = 2 * n + 1 := by omega
      have hb : rs_b x = none := by
        show sc_b _ _ _ = none
        rw [sc_b_end (fun j hj => hok j (by omega)), if_pos (by simp; omega)]
      have ew : d_wr (x_L x) (2 * n + 1, none) = (2 * n + 1, none) := by
        unfold d_wr
        rw [if_neg (by omega)]
      rw [ew] at hr
      obtain ⟨rfl, rfl⟩ := hr
      rw [hb] at he
      have eN : (x_L x + 1) / 2 = n + 1 := by omega
      rw [eN] at he
      refine zb_Model_readers_87 (fun _ => ?_) (fun z => absurd z (by simp [z_tf]; decide))
      refine zb_Model_readers_97 ?_
      obtain ⟨w1, w2⟩ := fR (2 * n + 1, none) hT
      have hcm' : ∀ k, k ≤ n → (p_s τ (2 * n + 1, none)).1 70 k = nI (x_X x (2 * k) - 48) := fun k hk => by
        rw [p_s_o _ _ (by decide)]
        exact hcm k hk
      generalize p_s τ (2 * n + 1, none) = ω at *
      refine zj_forS (b := n + 1) (fun i => [some (.inr 63), some (.inl (nI (n + 1))), none, some (.inl (nI i))])
        (fun i w => mR (rs_s (x_s x) (x_X x) i) (x_v x) w 64 ∧ mX (fun q => q = 64 ∨ q = 67) (fun k => k = 5) ω w) (fun i w hi hI kk => ?_) (fun w hI => ?_) 0 (Nat.zero_le _) _ ⟨w1.1, mX.rf⟩
      · obtain ⟨q1, q2⟩ := hI
        refine zb_Model_readers_99 (fun p => absurd p (nI_ge hi (by omega))) (fun _ => ?_)
        obtain ⟨b1, b2, b3⟩ := rs_s_n (x_s x) (x_X x) i
        have c1 := hcm' i (by omega)
        have e70 : w.1 70 = ω.1 70 := (q2.1 70 (by decide) (by decide)).1
        rw [← e70] at c1
        have efn := q1.2.1.2.2.1
        have ok1 := hok (2 * i) (by omega)
        unfold rs_ok at ok1
        rw [if_neg (by omega)] at ok1
        simp only [Bool.and_eq_true, decide_eq_true_eq] at ok1
        have hadd := q1.rd (l := x_X x (2 * i) - 48) (by omega) (by omega)
        refine zb_Model_readers_104 (k1 := i) (k2 := s_r (rs_s (x_s x) (x_X x) i)) (k3 := 49 + s_r (rs_s (x_s x) (x_X x) i)) (z_ixn (by omega)) ⟨efn, by omega⟩ ⟨by rw [z_pI_ne (by decide), efn, nI_add], by omega⟩ ?_
        rw [c1, z_pI_ne (show 63 ≠ 64 by decide), z_pI_ne (show 63 ≠ 67 by decide), efn, nI_add, nI_add]
        exact kk _ ⟨hadd, ((q2.pR (Or.inr rfl) (by decide)).pR (Or.inl rfl) (by decide)).pK rfl⟩
      · obtain ⟨q1, q2⟩ := hI
        refine zb_Model_readers_99 (fun _ => ?_) (fun p => absurd (Int32.le_refl _) p)
        refine zb_Model_readers_148 ?_
        have e44 : w.1 63 44 = nI (x_m x) := by rw [q2.2.1 44 (by decide)]; exact w1.2.2.2.2.2.2.1
        rw [z_pI_ne2 (show 44 ≠ 27 by decide), e44, nI_add, he]
        have f3 : mX (fun _ => False) (fun k => k = 27 ∨ k = 44) w (z_pI (z_pI w 63 27 (nI 0)) 63 44 (nI (x_m x + 1))) := (mX.rf.pK (Or.inl rfl)).pK (Or.inr rfl)
        have f4 : mX (fun q => q = 64 ∨ q = 67) (fun k => k = 5 ∨ k = 27 ∨ k = 44) ω (z_pI (z_pI w 63 27 (nI 0)) 63 44 (nI (x_m x + 1))) := (mX.mono q2 (fun _ h => h) (fun _ h => Or.inl h)).tr (f3.mono (fun _ h => h.elim) (fun _ h => Or.inr h))
        obtain ⟨b1, b2, b3⟩ := rs_s_n (x_s x) (x_X x) (n + 1)
        refine ⟨_, rfl, rfl, ⟨q1.keepX f3 (by decide) ⟨id, id, id⟩ id (by decide), mH.nil (by rw [z_pI_ne2 (by decide), z_pI_at]), w1.2.2.1.keepX f4 (by decide) (by decide), w1.2.2.2.1.keepX f4 (by decide) (by decide), w1.2.2.2.2.1.keepX f4 (by decide) (by decide), ?_, w1.2.2.2.2.2.2.none (f4.1 86 (by decide) (by decide)).1 (f4.1 87 (by decide) (by decide)).1 (z_pI_at _ _ _ _)⟩, z0.tr (w2.tr (f4.zU (by omega)))⟩
        have hse := w1.2.2.2.2.2.1.keepX f4 (by decide) (by decide)
        unfold mSe at hse ⊢
        show _ = nI (se_b (x_e x) (s_c (rs_s (x_s x) (x_X x) (n + 1)))) ∧ ∀ c, c < s_c (rs_s (x_s x) (x_X x) (n + 1)) → _
        rw [b2]
        exact hse
  refine zj_forM (I := fun m Lc u => ∃ n τ, m = 20 - n ∧ n ≤ 4 ∧ Lc = [some (.inr 63), some (.inl (nI n)), some (.inl (nI 1)), none] ∧ u = p_s τ (2 * n, none) ∧ zT (fun o => o = 70) (rd_t ρ (x_L x) 7) τ ∧ 2 * n ≤ x_L x ∧ 2 * n ≤ 7 ∧ s_r (x_s x) + n ≤ 4 ∧ (∀ j, j < 2 * n → rs_ok (s_r (x_s x)) (x_X x) j = true) ∧ ∀ k, k < n → τ.1 70 k = nI (x_X x (2 * k) - 48)) (fun m Lc u hI kk => ?_) 20 _ _ ⟨0, rd_t ρ (x_L x) 7, rfl, by omega, rfl, rfl, zT.rf, by omega, by omega, by omega, fun j hj => absurd hj (by omega), fun k hk => absurd hk (by omega)⟩
  obtain ⟨n, τ, hm, hn12, rfl, rfl, hT, hL, h7, hnn, hok, hcm⟩ := hI
  have hC := hC0.kT hT (by decide) (by decide) (by rw [(rd_t_2 ρ (x_L x) 7).1]; decide)
  have hq : ∀ a, a ≤ min (x_L x) 7 → d_ok (min (x_L x) 7) (a, none) := fun a ha => ⟨ha, fun p hp => by cases hp⟩
  refine zb_Model_readers_24 (fun z => absurd z (by decide)) (fun _ => ?_)
  refine zb_Model_readers_28 (mn_fine (by intro p' h'; simp at h')) (by omega) (fun r u hr => ?_)
  obtain ⟨rfl, rfl⟩ := hr
  refine zb_Model_readers_32 (fun z => absurd z (by simp [z_tf]; decide)) (fun _ => ?_)
  have ef1 : (p_s τ (2 * n, none)).1 63 5 = nI (s_r (x_s x)) := (fR (2 * n, none) hT).1.1.2.1.2.2.1
  -- behind a fault
  have tail : ∀ (a p : Nat) (τ' : zS), zT (fun o => o = 70) (rd_t ρ (x_L x) 7) τ' → a ≤ 80 → p ≤ 80 → rs_b x = some p → z_J Γ zm_Model_readers 70 [some (.inr 63), some (.inl (nI n)), none, none] [] (p_s τ' (a, some p)) := by
    intro a p τ' hT' ha hp hb
    refine zb_Model_readers_70 (mf_passes (by omega) _) (by omega) (fun r u hr => ?_)
    obtain ⟨rfl, rfl⟩ := hr
    refine zb_Model_readers_79 (zb_Model_readers_24 (fun _ => ?_) (fun z => absurd rfl z))
    rw [nI_add]
    exact bad (n + 1) a p τ' hT' ha hp hb
  have bad0 : (2 * n < x_L x → rs_ok (s_r (x_s x)) (x_X x) (2 * n) = false) → rs_b x = some (2 * n) := by
    intro z
    by_cases hlt : 2 * n < x_L x
    · exact sc_b_at hok hlt (z hlt)
    · have eL : x_L x = 2 * n := by omega
      show sc_b _ _ _ = _
      rw [sc_b_end (fun j hj => hok j (by omega)), if_neg (by simp; omega), eL]
  refine zb_Model_readers_35 (fun z => ?_) (fun z => ?_)
  rotate_left
  · rw [ef1, nI_add, zn_eq (by omega) (by omega)] at z
    refine zb_Model_readers_45 (dc := 1) (P := fun u => u = p_s τ (2 * n, some (2 * n))) (by rw [p_s_at]; exact mn_fault (by intro p' h'; simp at h')) (by omega) (fun u hu => ?_)
    subst hu
    refine zb_Model_readers_53 (tail _ _ τ hT (by omega) (by omega) (bad0 (fun _ => ?_)))
    unfold rs_ok
    rw [if_neg (by omega)]
    have : ¬ s_r (x_s x) + 2 * n / 2 < 4 := by omega
    simp only [this, decide_false, Bool.and_false]
  rw [ef1, nI_add, zn_eq (by omega) (by omega)] at z
  refine zb_Model_readers_56 (mc_oneOf hC (hq (2 * n) (by omega)) (f := 48) (m := 10) (by decide) (by decide)) (by omega) (fun r u hr => ?_)
  by_cases c1 : 2 * n < min (x_L x) 7 ∧ 48 ≤ x_X x (2 * n) ∧ x_X x (2 * n) < 48 + 10
  rotate_left
  · have e1 : d_one (min (x_L x) 7) (x_X x) 48 10 (2 * n, none) = (0, (2 * n, some (2 * n))) := by
      unfold d_one d_flt
      simp [c1]
    rw [e1] at hr
    obtain ⟨rfl, rfl⟩ := hr
    have hb : rs_b x = some (2 * n) := bad0 (fun hlt => by
      unfold rs_ok
      rw [if_neg (by omega)]
      have : ¬ (48 ≤ x_X x (2 * n) ∧ x_X x (2 * n) < 58) := fun z2 => c1 ⟨by omega, z2.1, by omega⟩
      simp only [this, decide_false, Bool.false_and, Bool.and_false])
    refine zb_Model_readers_69 (k1 := n) (z_ixn (by omega)) ?_
    rw [p_s_pI _ _ (by decide)]
    exact tail _ _ _ (hT.pI rfl) (by omega) (by omega) hb
  have e1 : d_one (min (x_L x) 7) (x_X x) 48 10 (2 * n, none) = (x_X x (2 * n) - 48, (2 * n + 1, none)) := by
    unfold d_one
    simp [c1]
  rw [e1] at hr
  obtain ⟨rfl, rfl⟩ := hr
  have hok2 : ∀ j, j < 2 * n + 1 → rs_ok (s_r (x_s x)) (x_X x) j = true := fun j hj => by
    by_cases e : j = 2 * n
    · rw [e]
      unfold rs_ok
      rw [if_neg (by omega)]
      simp only [Bool.and_eq_true, decide_eq_true_eq]
      omega
    · exact hok j (by omega)
  have hT2 : zT (fun o => o = 70) (rd_t ρ (x_L x) 7) (z_pI τ 70 n (nI (x_X x (2 * n) - 48))) := hT.pI rfl
  have hC2 := hC0.kT hT2 (by decide) (by decide) (by rw [(rd_t_2 ρ (x_L x) 7).1]; decide)
  refine zb_Model_readers_69 (k1 := n) (z_ixn (by omega)) ?_
  rw [p_s_pI _ _ (by decide)]
  have hcm2 : ∀ k, k ≤ n → (z_pI τ 70 n (nI (x_X x (2 * n) - 48))).1 70 k = nI (x_X x (2 * k) - 48) := fun k hk => by
    by_cases e : k = n
    · subst e
      exact z_pI_at _ _ _ _
    · rw [z_pI_ne2 (by omega)]
      exact hcm k (by omega)
  show z_J Γ zm_Model_readers 70 [some (.inr 63), some (.inl (nI n)), none, none] [] (p_s (z_pI τ 70 n (nI (x_X x (2 * n) - 48))) (2 * n + 1, none))
  generalize z_pI τ 70 n (nI (x_X x (2 * n) - 48)) = τ2 at *
  refine zb_Model_readers_70 (mc_passes hC2 (hq (2 * n + 1) (by omega)) (c := 59) (by decide)) (by omega) (fun r u hr => ?_)
  by_cases c3 : 2 * n + 1 < min (x_L x) 7 ∧ x_X x (2 * n + 1) = 59
  · have e3 : d_pas (min (x_L x) 7) (x_X x) 59 (2 * n + 1, none) = (true, (2 * n + 1 + 1, none)) := d_pas_t ⟨rfl, c3.1, c3.2⟩
    rw [e3] at hr
    obtain ⟨rfl, rfl⟩ := hr
    refine zb_Model_readers_79 ?_
    rw [nI_add]
    refine kk (20 - (n + 1)) _ _ (by omega) ⟨n + 1, τ2, rfl, by omega, rfl, by rw [show 2 * (n + 1) = 2 * n + 1 + 1 by omega], hT2, by omega, by omega, by omega, fun j hj => ?_, fun k hk => hcm2 k (by omega)⟩
    by_cases e : j = 2 * n + 1
    · rw [e]
      unfold rs_ok
      rw [if_pos (by omega)]
      simp only [Bool.and_eq_true, decide_eq_true_eq]
      omega
    · exact hok2 j (by omega)
  · have e3 : d_pas (min (x_L x) 7) (x_X x) 59 (2 * n + 1, none) = (false, (2 * n + 1, none)) := d_pas_f (fun z2 => c3 ⟨z2.2.1, z2.2.2⟩)
    rw [e3] at hr
    obtain ⟨rfl, rfl⟩ := hr
    refine zb_Model_readers_79 (zb_Model_readers_24 (fun _ => ?_) (fun z => absurd rfl z))
    rw [nI_add]
    refine good n τ2 hT2 (by omega) (by omega) hok2 (fun hlt => ?_) hcm2
    unfold rs_ok
    rw [if_pos (by omega)]
    by_cases h7' : 2 * n + 1 = 7
    · simp [h7']
    · have : ¬ x_X x (2 * n + 1) = 59 := fun z2 => c3 ⟨by omega, z2⟩
      simp only [this, decide_false, Bool.and_false]
end
