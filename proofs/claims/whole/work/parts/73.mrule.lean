/-! the model: rules -/
theorem zx_Model_law_64 {Γ : zG} {σ : zS} {w4 : Nat} {x1 x2 x3 x5 x6 : Int32}  (kt : x1 ≤ x6 → z_J Γ zm_Model_law 90 [some (.inr (63)), none, some (.inl (x2)), some (.inl (x3)), some (.inr (w4)), some (.inl (x5)), none, none] [] σ) (kf : ¬ x1 ≤ x6 → z_J Γ zm_Model_law 70 [some (.inr (63)), some (.inl (x1)), some (.inl (x2)), some (.inl (x3)), some (.inr (w4)), some (.inl (x5)), some (.inl (x6)), none] [] σ) : z_J Γ zm_Model_law 64 [some (.inr (63)), some (.inl (x1)), some (.inl (x2)), some (.inl (x3)), some (.inr (w4)), some (.inl (x5)), some (.inl (x6)), none] [] σ := by
  refine zj_iload zd_Model_law_64 rfl ?_
  refine zj_iload_n zd_Model_law_66 rfl ?_
  exact zj_icmp_ge zd_Model_law_67 (by decide) (fun h => (zj_weak (L' := [some (.inr (63)), none, some (.inl (x2)), some (.inl (x3)), some (.inr (w4)), some (.inl (x5)), none, none]) ⟨rfl, ⟨rfl, ⟨rfl, ⟨rfl, ⟨rfl, trivial⟩⟩⟩⟩⟩ (kt h))) (fun h => (kf h))
theorem zx_Model_law_70 {Γ : zG} {σ : zS} {w4 : Nat} {x1 x2 x3 x5 x6 : Int32} {nm1 k1 k2 : Nat} (hs_nm1 : nm1 < 2 ^ 31) (m1 : z_kd (σ.2 63 20) = (9, nm1)) (b1 : z_ix x6 80 k1) (b2 : z_ix x6 nm1 k2) (k : z_J Γ zm_Model_law 64 [some (.inr (63)), some (.inl (x1)), some (.inl (x2)), some (.inl (x3)), some (.inr (w4)), some (.inl (x5)), some (.inl (x6 + nI 1)), none] [] (z_pI σ (σ.2 63 20) k2 (vp_nar .byte (σ.1 68 k1)))) : z_J Γ zm_Model_law 70 [some (.inr (63)), some (.inl (x1)), some (.inl (x2)), some (.inl (x3)), some (.inr (w4)), some (.inl (x5)), some (.inl (x6)), none] [] σ := by
  refine zj_aload_n zd_Model_law_70 rfl ?_
  refine zj_getM rfl (by decide) rfl zu_Model (k := 20) (by decide) rfl zl_Model_42 zd_Model_law_71 (z_lt m1 (by decide)) ?_
  refine zj_iload zd_Model_law_74 rfl ?_
  refine zj_aload_n zd_Model_law_76 rfl ?_
  refine zj_getR rfl (by decide) rfl zu_Model (k := 7) (by decide) rfl zl_Model_26 zd_Model_law_77 (o' := 68) rfl ?_
  refine zj_iload zd_Model_law_80 rfl ?_
  refine zj_baload rfl (by decide) b1 zd_Model_law_82 ?_
  refine zj_bastore m1 hs_nm1 b2 zd_Model_law_83 ?_
  refine zj_iinc (v := nI 1) (L' := [some (.inr (63)), some (.inl (x1)), some (.inl (x2)), some (.inl (x3)), some (.inr (w4)), some (.inl (x5)), some (.inl (x6 + nI 1)), none]) zd_Model_law_84 rfl (by decide) (by decide) rfl ?_
  exact zj_goto zd_Model_law_87 (by decide) k
theorem zx_Model_law_90 {Γ : zG} {σ : zS} {w4 : Nat} {x2 x3 x5 : Int32} {dc : Nat} {P : Int32 → zS → Prop}  (hm : z_Ci dc zm_Model_heldBits [.inr (63)] σ P) (hdp : dc < z_dep Γ) (k : ∀ r σ1, P r σ1 → z_J Γ zm_Model_law 94 [some (.inr (63)), none, some (.inl (x2)), some (.inl (x3)), some (.inr (w4)), some (.inl (x5)), none, none] [.inl (r)] σ1) : z_J Γ zm_Model_law 90 [some (.inr (63)), none, some (.inl (x2)), some (.inl (x3)), some (.inr (w4)), some (.inl (x5)), none, none] [] σ := by
  refine zj_aload_n zd_Model_law_90 rfl ?_
  exact zj_callVi (As := []) hm hdp rfl (by decide) rfl zl_Model_375 zq_Model_heldBits zd_Model_law_91 rfl (Nat.le_of_ble_eq_true rfl) (fun r σ1 h => (k r σ1 h))
theorem z_pI_comm {σ : zS} {o k k' : Nat} {y y' : Int32} (h : k ≠ k') : z_pI (z_pI σ o k y) o k' y' = z_pI (z_pI σ o k' y') o k y := by
  unfold z_pI
  refine Prod.ext ?_ rfl
  funext a b
  simp only [z_up]
  by_cases e : a = o
  · simp only [e, if_true]
    by_cases e1 : b = k
    · subst e1
      simp [h]
    · simp [e1]
  · simp [e]
theorem p_s_c {σ : zS} {q : Nat × Option Nat} {k : Nat} {y : Int32} (h1 : k ≠ 15) (h2 : k ≠ 16) : z_pI (p_s σ q) 63 k y = p_s (z_pI σ 63 k y) q := by
  unfold p_s
  rw [z_pI_comm (show 16 ≠ k from fun e => h2 e.symm), z_pI_comm (σ := σ) (show 15 ≠ k from fun e => h1 e.symm)]
theorem zn_by : ∀ m, m < 256 → vp_nar .byte ((nI m).toInt8.toInt32) = (nI m).toInt8.toInt32 := by decide +kernel
section
variable {x : tX} {σ u : zS} {s : aS} {v : aV}
theorem rd_C.ask0 {L : Nat} {T : Nat → Nat} {qa : Bool} {e : Nat → Int32} (h : rd_C L T qa e σ) : rd_C L T false e (z_pI σ 63 23 (nI 0)) := by
  obtain ⟨nm, len, top, h1, h2, h3, h4, h5, h6, h7, h8, h9, h10, h11, h12⟩ := h
  have hne : σ.2 63 12 ≠ 63 := fun z => by
    rw [z] at h1
    have := congrArg Prod.fst h1
    exact absurd this (show ¬ (8 : Nat) = 9 by decide)
  refine ⟨nm, len, top, h1, h2, by rw [z_pI_ne2 (by decide)]; exact h3, by rw [z_pI_ne2 (by decide)]; exact h4, h5, h6, h7, h8, h9, fun i hi => ?_, ?_, fun k hk => ?_⟩
  · rw [z_pI_2, z_pI_ne hne]
    exact h10 i hi
  · rw [z_pI_at]
    exact ⟨fun _ => rfl, fun _ => rfl⟩
  · rw [z_pI_ne (by decide)]
    exact h12 k hk
theorem mc_readRule (h : mA x σ) : z_Ci 340 zm_Model_readRule [.inr 63] σ (fun r u => r = z_tf (decide (rl_b x = none)) ∧ (∀ p, rl_b x = some p → u.1 63 16 = nI p) ∧ mA (x_t0 x) u ∧ zU σ u ∧ u.1 68 = σ.1 68) := by
  obtain ⟨t1, t2, t3⟩ := id h.2.2.2.1
  have e0 : (0 : Int32) = nI 0 := rfl
  refine z_Ci_of (by decide) (Nat.le_of_ble_eq_true rfl) (fun Γ hd he => ?_)
  show z_J Γ zm_Model_readRule 0 [some (.inr 63)] [] σ
  refine zb_Model_readRule_0 (mc_beginText h.2.2.2.1 40) (by omega) (fun u hu => ?_)
  subst hu
  have hC0 := (rd_t_C h.2.2.2.1 (m := 40) (by decide)).ask0
  have hT : ∀ q, mX m_sO m_rK σ (p_s (z_pI (rd_t σ (x_L x) 40) 63 23 (nI 0)) q) := fun q => by
    rw [← p_s_c (by decide) (by decide)]
    exact (rd_t_X σ (x_L x) 40 q).pK (by unfold m_rK m_sK; omega)
  have fR : ∀ q, mA (x_t0 x) (p_s (z_pI (rd_t σ (x_L x) 40) 63 23 (nI 0)) q) ∧ zU σ (p_s (z_pI (rd_t σ (x_L x) 40) 63 23 (nI 0)) q) := fun q => by
    refine h.rd (hT q) ?_
    rw [p_s_k _ _ (by decide) (by decide), z_pI_ne2 (by decide)]
    exact (rd_t_13 σ (x_L x) 40).2.2
  have f68 : ∀ q, (p_s (z_pI (rd_t σ (x_L x) 40) 63 23 (nI 0)) q).1 68 = σ.1 68 := fun q => ((hT q).1 68 (by decide) (by unfold m_sO; omega)).1
  have f13 : (z_pI (rd_t σ (x_L x) 40) 63 23 (nI 0)).1 63 13 = nI (x_L x) := by
    rw [z_pI_ne2 (by decide)]
    exact (rd_t_13 σ (x_L x) 40).1
  have fin : ∀ q : Nat × Option Nat, (∀ p, q.2 = some p → p ≤ 100) → q.1 ≤ 100 → (d_wr (x_L x) q).2 = rl_b x → z_J Γ zm_Model_readRule 24 [some (.inr 63)] [] (p_s (z_pI (rd_t σ (x_L x) 40) 63 23 (nI 0)) q) := by
    intro q h1 h2 h3
    refine zb_Model_readRule_24 (mn_wasRight h1 h2 t1 f13) (by omega) (fun r w hr => ?_)
    obtain ⟨rfl, rfl⟩ := hr
    refine zb_Model_readRule_28 ?_ (z_tf01 _)
    obtain ⟨w1, w2⟩ := fR (d_wr (x_L x) q)
    rw [he, h3]
    refine ⟨_, rfl, rfl, fun p hp => ?_, w1, w2, f68 _⟩
    rw [p_s_wr, h3, hp]
    rfl
  refine zb_Model_readRule_6 (fun z => ?_) (fun z => ?_)
  · rw [p_s_c (by decide) (by decide), p_s_k _ _ (by decide) (by decide), f13, e0, zn_le (by omega) (by omega)] at z
    rw [p_s_c (by decide) (by decide)]
    refine fin (0, none) (fun p hp => by cases hp) (by decide) ?_
    have hb : rl_b x = none := if_pos (by omega)
    rw [hb]
    unfold d_wr
    rw [if_neg (by omega)]
  · rw [p_s_c (by decide) (by decide), p_s_k _ _ (by decide) (by decide), f13, e0, zn_le (by omega) (by omega)] at z
    rw [p_s_c (by decide) (by decide)]
    have hh := (mc_all hC0 330 330 (Nat.le_refl _)).2.2.2 0 (0, none) (by omega) ⟨Nat.zero_le _, fun p hp => by cases hp⟩ (by show 8 * (min (x_L x) 40 - 0) + 4 ≤ 330; omega)
    refine zb_Model_readRule_18 hh (by omega) (fun r w hr => ?_)
    obtain ⟨rfl, rfl⟩ := hr
    refine zb_Model_readRule_23 ?_
    have hok := (d_ev_ok (L := min (x_L x) 40) (T := x_X x) (qa := false) (e := σ.1 74) 330 5 0 0 (0, none) ⟨Nat.zero_le _, fun p hp => by cases hp⟩).1
    refine fin _ (fun p hp => ?_) ?_ ?_
    · have := hok.2 p hp
      omega
    · have := hok.1
      omega
    · rw [rl_md (fun i hi => (t3 i hi).1)]
      exact (if_neg (by omega)).symm
theorem mp_rule (h : mA x σ) : z_Ci 342 zm_Model_rule [.inr 63] σ (fun r u => r = (to_rule x).1 ∧ mA (to_rule x).2 u ∧ zU σ u) := by
  have h0 := (m_t0r h).1
  have z0 := (m_t0r h).2
  obtain ⟨t1, t2, t3⟩ := id h0.2.2.2.1
  refine z_Ci_of (by decide) (Nat.le_of_ble_eq_true rfl) (fun Γ hd he => ?_)
  show z_J Γ zm_Model_rule 0 [some (.inr 63), none, none] [] σ
  refine zb_Model_rule_0 (mc_readRule h0) (by omega) (fun r u hr => ?_)
  obtain ⟨rfl, hp, A1, Z1, e68⟩ := hr
  rw [t2]
  rw [to_rule] at he
  cases hb : rl_b x with
  | some p =>
    rw [hb] at he
    refine zb_Model_rule_14 (fun z => absurd (by rw [decide_eq_false (show ¬ (some p = none) by simp)]; rfl) z) (fun _ => ?_)
    refine zb_Model_rule_17 ?_
    rw [he, hp p hb]
    exact ⟨_, rfl, rfl, A1, z0.tr Z1⟩
  | none =>
    rw [hb] at he
    have hL40 : x_L x ≤ 40 := by
      by_cases q : x_L x = 0
      · omega
      · have : sc_b (r_okk (x_X x)) (r_fin (r_sta (x_X x) (x_L x))) (x_L x) = none := by
          have hb' := hb
          unfold rl_b at hb'
          rw [if_neg q] at hb'
          exact hb'
        exact (rl_cd q (fun i hi => (t3 i hi).1) this).1
    refine zb_Model_rule_14 (fun _ => ?_) (fun z => absurd z (by decide))
    refine zb_Model_rule_24 ?_
    refine zj_forS (b := x_L x) (fun i => [some (.inr 63), some (.inl (nI (x_L x))), some (.inl (nI i))])
      (fun i w => (∀ j, j < i → w.1 88 j = (nI (x_X x j)).toInt8.toInt32) ∧ z_fr (fun q => q = 88) u w) (fun i w hi hI kk => ?_) (fun w hI => ?_) 0 (Nat.zero_le _) _ ⟨fun _ q => absurd q (by omega), z_fr.rf⟩
    · obtain ⟨q1, q2⟩ := hI
      refine zb_Model_rule_26 (fun p => absurd p (nI_ge hi (by omega))) (fun _ => ?_)
      have e20 : w.2 63 20 = 88 := by rw [(q2 63 (by decide)).2]; exact A1.2.2.1.2
      have ev : w.1 68 i = (nI (x_X x i)).toInt8.toInt32 := by
        rw [(q2 68 (by decide)).1, e68]
        exact (t3 i hi).2
      refine zb_Model_rule_31 (nm1 := 40) (by decide) (by rw [e20]; rfl) (k1 := i) (z_ixn (by omega)) (k2 := i) (z_ixn (by omega)) ?_
      rw [e20, ev, zn_by _ (t3 i hi).1, nI_add]
      refine kk _ ⟨fun j hj => ?_, q2.pI rfl⟩
      by_cases e : j = i
      · subst e
        exact z_pI_at _ _ _ _
      · rw [z_pI_ne2 e]
        exact q1 j (by omega)
    · obtain ⟨q1, q2⟩ := hI
      refine zb_Model_rule_26 (fun _ => ?_) (fun p => absurd (Int32.le_refl _) p)
      refine zb_Model_rule_49 ?_
      rw [he]
      have F : mX (fun q => q = 88) (fun k => k = 22) u (z_pI w 63 22 (nI (x_L x))) := (q2.X (by decide) (fun _ h => h)).pK rfl
      have e20 : (z_pI w 63 22 (nI (x_L x))).2 63 20 = 88 := by rw [F.2.2 20 (by decide)]; exact A1.2.2.1.2
      refine ⟨_, rfl, rfl, ⟨A1.1.keepX F (by decide) (by decide) (by decide) (by decide), A1.2.1.keepX F (by decide) (by decide), ⟨⟨hL40, z_pI_at _ _ _ _, by rw [e20]; rfl, fun i hi => ⟨(t3 i hi).1, ?_⟩⟩, e20⟩, A1.2.2.2.1.keepX F (by decide) (by decide), A1.2.2.2.2.1.keepX F (by decide) (by decide), A1.2.2.2.2.2.1.keepX F (by decide) (by decide), A1.2.2.2.2.2.2.keepX F (by decide) (by decide)⟩, z0.tr (Z1.tr (F.zU (by omega)))⟩
      rw [e20, z_pI_ne (by decide)]
      exact q1 i hi
theorem mc_heldBits {K : Nat} {T : Nat → Nat} (hM : mRu K T σ) (h75 : σ.2 63 20 ≠ 75) (hR : mR s v σ 64) : z_Ci 345 zm_Model_heldBits [.inr 63] σ (fun r u => r = nI (a_hb (tE K T) s v (s_c s)) ∧ mF (fun q => q = 75) σ u) := by
  have h6 := hR.c6
  refine z_Ci_of (by decide) (Nat.le_of_ble_eq_true rfl) (fun Γ hd he => ?_)
  show z_J Γ zm_Model_heldBits 0 [some (.inr 63), none, none] [] σ
  refine zb_Model_heldBits_0 ?_
  refine zj_forS (b := s_c s) (fun i => [some (.inr 63), some (.inl (nI (a_hb (tE K T) s v i))), some (.inl (nI i))])
    (fun i w => mF (fun q => q = 75) σ w) (fun i w hi hI kk => ?_) (fun w hI => ?_) 0 (Nat.zero_le _) _ mF.rf
  · have Rw := hR.keep hI (by decide) (by decide) (by decide) (by decide) (by decide) (by decide)
    have e20 : w.2 63 20 = σ.2 63 20 := hI.2.2 20 (by decide)
    have Mw : mRu K T w := hM.keep hI h75
    refine zb_Model_heldBits_4 (fun z => ?_) (fun _ => ?_)
    · rw [Rw.2.1.2.1] at z
      exact absurd z (nI_ge hi (by omega))
    refine zb_Model_heldBits_12 (mc_isHeld Mw Rw.Bk (by decide) (by decide) (Rw.C hi) Rw.fy (by rw [e20]; exact h75)) (by omega) (fun r w2 hr => ?_)
    obtain ⟨rfl, F2⟩ := hr
    have k2 := kk w2 (hI.tr F2)
    rw [a_hb] at k2
    refine zb_Model_heldBits_22 (fun z => ?_) (fun z => ?_)
    · rw [z_tf_eq0] at z
      refine zb_Model_heldBits_31 (zb_Model_heldBits_32 ?_)
      rw [if_neg (by rw [z]; decide)] at k2
      rw [zn_or, Nat.or_zero, nI_add]
      exact k2
    · rw [z_tf_eq0, Bool.not_eq_false] at z
      refine zb_Model_heldBits_25 (zb_Model_heldBits_32 ?_)
      rw [if_pos z] at k2
      rw [zn_shl (by omega), zn_or, nI_add]
      exact k2
  · have Rw := hR.keep hI (by decide) (by decide) (by decide) (by decide) (by decide) (by decide)
    refine zb_Model_heldBits_4 (fun _ => ?_) (fun z => ?_)
    · refine zb_Model_heldBits_40 ?_
      rw [he]
      exact ⟨_, rfl, rfl, hI⟩
    · rw [Rw.2.1.2.1] at z
      exact absurd (Int32.le_refl _) z
theorem mc_allBear {K : Nat} {T : Nat → Nat} (hM : mRu K T σ) (h75 : σ.2 63 20 ≠ 75) (hR : mR s v σ 64) : z_Ci 345 zm_Model_allBear [.inr 63] σ (fun r u => r = a_all (tE K T) s v (s_c s) ∧ mF (fun q => q = 75) σ u) := by
  have h6 := hR.c6
  have hn := hR.n
  refine z_Ci_of (by decide) (Nat.le_of_ble_eq_true rfl) (fun Γ hd he => ?_)
  show z_J Γ zm_Model_allBear 0 [some (.inr 63), none, none, none, none] [] σ
  refine zb_Model_allBear_0 ?_
  refine zj_forS (b := s_c s) (fun c => [some (.inr 63), some (.inl (a_all (tE K T) s v c)), some (.inl (nI c)), none, none])
    (fun c w => mF (fun q => q = 75) σ w) (fun c w hc hI kk => ?_) (fun w hI => ?_) 0 (Nat.zero_le _) _ mF.rf
  · have Rw := hR.keep hI (by decide) (by decide) (by decide) (by decide) (by decide) (by decide)
    refine zb_Model_allBear_4 (fun z => ?_) (fun _ => ?_)
    · rw [Rw.2.1.2.1] at z
      exact absurd z (nI_ge hc (by omega))
    refine zb_Model_allBear_12 (mc_readPile Rw.nb (by decide) (by decide) (Rw.C hc) (m := 0) (by decide)) (by omega) (fun r w2 hr => ?_)
    obtain ⟨rfl, P2, F2⟩ := hr
    rw [l_bt0] at P2 ⊢
    have h4 := hR.1.l4 hc
    have hI2 := hI.tr (F2.mF (by decide))
    refine zb_Model_allBear_22 ?_
    suffices hh : z_J Γ zm_Model_allBear 26 [some (.inr 63), some (.inl (a_all (tE K T) s v c + l_all (tE K T) s (v_y v) c (v_p v c) 0)), some (.inl (nI c)), some (.inl (nI (v_p v c).length)), some (.inl (nI 0))] [] w2 by
      have ei : a_all (tE K T) s v c + l_all (tE K T) s (v_y v) c (v_p v c) 0 = a_all (tE K T) s v c := by
        show a_all (tE K T) s v c + 0 = _
        rw [Int32.add_zero]
      rw [ei] at hh
      exact hh
    refine zj_forS (b := (v_p v c).length) (fun k => [some (.inr 63), some (.inl (a_all (tE K T) s v c + l_all (tE K T) s (v_y v) c (v_p v c) k)), some (.inl (nI c)), some (.inl (nI (v_p v c).length)), some (.inl (nI k))])
      (fun k w => mF (fun q => q = 75) σ w ∧ mP (v_p v c) w) (fun k w hk hI kk2 => ?_) (fun w hI => ?_) 0 (Nat.zero_le _) _ ⟨hI2, P2⟩
    · obtain ⟨q1, q2⟩ := hI
      have Rw := hR.keep q1 (by decide) (by decide) (by decide) (by decide) (by decide) (by decide)
      have Mw : mRu K T w := hM.keep q1 h75
      have hb : (v_p v c).getD k 0 < s_n s := ((hR.1.mm hc _).mp (l_getD_mem hk)).1
      obtain ⟨-, -, bk⟩ := Rw.Bk
      obtain ⟨b1, b2, -, -⟩ := bk _ hb
      refine zb_Model_allBear_26 (fun z => absurd z (nI_ge hk (by omega))) (fun _ => ?_)
      have hbe := mc_bears Mw (b := (v_p v c).getD k 0) (by omega) b1 b2 (nI c) (nI k) (nI (v_p v c).length) (nI (v_y v))
      refine zb_Model_allBear_32 (k1 := k) (k2 := 48) (dc := 340) (P := fun r u => r = l_br (tE K T) s (v_y v) c (v_p v c) k ∧ mF (fun _ => False) w u) (z_ixn (by omega)) (z_ixn (by omega)) ?_ (by omega) (fun r w3 hr => ?_)
      · rw [q2 k hk, Rw.fy]
        refine z_Ci_mono (fun r u hu => ?_) hbe
        obtain ⟨rfl, hF⟩ := hu
        refine ⟨?_, hF⟩
        unfold l_br
        rw [l_env_m, z_min_comm]
      · obtain ⟨rfl, F3⟩ := hr
        refine zb_Model_allBear_55 ?_
        rw [nI_add, Int32.add_assoc]
        refine kk2 w3 ⟨q1.tr (F3.mono (fun _ h => h.elim)), ?_⟩
        unfold mP
        rw [(F3.1 75 (by decide) (by decide) id).1]
        exact q2
    · refine zb_Model_allBear_26 (fun _ => ?_) (fun z => absurd (Int32.le_refl _) z)
      refine zb_Model_allBear_63 ?_
      rw [nI_add]
      exact kk w hI.1
  · have Rw := hR.keep hI (by decide) (by decide) (by decide) (by decide) (by decide) (by decide)
    refine zb_Model_allBear_4 (fun _ => ?_) (fun z => ?_)
    · refine zb_Model_allBear_69 ?_
      rw [he]
      exact ⟨_, rfl, rfl, hI⟩
    · rw [Rw.2.1.2.1] at z
      exact absurd (Int32.le_refl _) z
theorem mp_law (h : mA x σ) : z_Ci 348 zm_Model_law [.inr 63] σ (fun r u => r = (to_law x).1 ∧ mA (to_law x).2 u ∧ zU σ u) := by
  have h0 := (m_t0r h).1
  have z0 := (m_t0r h).2
  obtain ⟨t1, t2, t3⟩ := id h0.2.2.2.1
  refine z_Ci_of (by decide) (Nat.le_of_ble_eq_true rfl) (fun Γ hd he => ?_)
  show z_J Γ zm_Model_law 0 [some (.inr 63), none, none, none, none, none, none, none] [] σ
  refine zb_Model_law_0 (mc_readRule h0) (by omega) (fun r u hr => ?_)
  obtain ⟨rfl, hp, A1, Z1, e68⟩ := hr
  rw [t2]
  rw [to_law] at he
  cases hb : rl_b x with
  | some p =>
    rw [hb] at he
    refine zb_Model_law_14 (fun z => absurd (by rw [decide_eq_false (show ¬ (some p = none) by simp)]; rfl) z) (fun _ => ?_)
    refine zb_Model_law_17 ?_
    rw [he, hp p hb]
    exact ⟨_, rfl, rfl, A1, z0.tr Z1⟩
  | none =>
    rw [hb] at he
    have hL40 : x_L x ≤ 40 := by
      by_cases q : x_L x = 0
      · omega
      · have : sc_b (r_okk (x_X x)) (r_fin (r_sta (x_X x) (x_L x))) (x_L x) = none := by
          have hb' := hb
          unfold rl_b at hb'
          rw [if_neg q] at hb'
          exact hb'
        exact (rl_cd q (fun i hi => (t3 i hi).1) this).1
    refine zb_Model_law_14 (fun _ => ?_) (fun z => absurd z (by decide))
    have U1 := A1.2.2.1
    refine zb_Model_law_26 (mc_heldBits U1.1 (by rw [U1.2]; decide) A1.1) (by omega) (fun r u2 hr => ?_)
    obtain ⟨rfl, F2⟩ := hr
    have G2 : mX m_sO m_sK u u2 := F2.X2 (by unfold m_sO; omega)
    have A2 := A1.low G2
    have U2 := A2.1.2.2.1
    refine zb_Model_law_30 (mc_allBear U2.1 (by rw [U2.2]; decide) A2.1.1) (by omega) (fun r u3 hr => ?_)
    obtain ⟨rfl, F3⟩ := hr
    have G3 : mX m_sO m_sK u u3 := G2.tr (F3.X2 (by unfold m_sO; omega))
    have A3 := A1.low G3
    have U3 := A3.1.2.2.1
    have e88 : u3.2 63 20 = 88 := U3.2
    have e22 : u3.1 63 22 = nI (x_K x) := U3.1.2.1
    refine zb_Model_law_35 (nm1 := 40) (by rw [e88]; rfl) ?_
    rw [e88, e22]
    -- frames with the other rule
    have e68' : u3.1 68 = (z_pI σ 63 11 (nI 0)).1 68 := by rw [(G3.1 68 (by decide) (by unfold m_sO; omega)).1, e68]
    refine zj_forS (b := x_L x) (fun i => [some (.inr 63), some (.inl (nI (x_L x))), some (.inl (nI (a_hb (x_E x) (x_s x) (x_v x) (s_c (x_s x))))), some (.inl (a_all (x_E x) (x_s x) (x_v x) (s_c (x_s x)))), some (.inr 88), some (.inl (nI (x_K x))), some (.inl (nI i)), none])
      (fun i w => (∀ j, j < i → w.1 73 j = (nI (x_X x j)).toInt8.toInt32) ∧ z_fr (fun q => q = 73) (z_pI (z_pR u3 63 20 73) 63 22 (nI (x_L x))) w) (fun i w hi hI kk => ?_) (fun w hI => ?_) 0 (Nat.zero_le _) _ ⟨fun _ q => absurd q (by omega), z_fr.rf⟩
    · obtain ⟨q1, q2⟩ := hI
      refine zx_Model_law_64 (fun p => absurd p (nI_ge hi (by omega))) (fun _ => ?_)
      have e20 : w.2 63 20 = 73 := by
        rw [(q2 63 (by decide)).2, z_pI_2, z_pR_2, if_pos ⟨rfl, rfl⟩]
      have ev : w.1 68 i = (nI (x_X x i)).toInt8.toInt32 := by
        rw [(q2 68 (by decide)).1, z_pI_ne (by decide), z_pR_1, e68']
        exact (t3 i hi).2
      refine zx_Model_law_70 (nm1 := 40) (by decide) (by rw [e20]; rfl) (k1 := i) (z_ixn (by omega)) (k2 := i) (z_ixn (by omega)) ?_
      rw [e20, ev, zn_by _ (t3 i hi).1, nI_add]
      refine kk _ ⟨fun j hj => ?_, q2.pI rfl⟩
      by_cases e : j = i
      · subst e
        exact z_pI_at _ _ _ _
      · rw [z_pI_ne2 e]
        exact q1 j (by omega)
    · obtain ⟨q1, q2⟩ := hI
      refine zx_Model_law_64 (fun _ => ?_) (fun p => absurd (Int32.le_refl _) p)
      have e20 : w.2 63 20 = 73 := by
        rw [(q2 63 (by decide)).2, z_pI_2, z_pR_2, if_pos ⟨rfl, rfl⟩]
      have e22w : w.1 63 22 = nI (x_L x) := by rw [(q2 63 (by decide)).1, z_pI_at]
      have Mw : mRu (x_L x) (x_X x) w := ⟨hL40, e22w, by rw [e20]; rfl, fun i hi => ⟨(t3 i hi).1, by rw [e20]; exact q1 i hi⟩⟩
      have f63 : ∀ k, k ≠ 22 → w.1 63 k = u3.1 63 k := fun k hk => by rw [(q2 63 (by decide)).1, z_pI_ne2 hk, z_pR_1]
      have fq : ∀ q, q ≠ 63 → q ≠ 73 → w.1 q = u3.1 q ∧ w.2 q = u3.2 q := fun q h1 h2 => by
        refine ⟨by rw [(q2 q h2).1, z_pI_ne h1, z_pR_1], ?_⟩
        rw [(q2 q h2).2]
        funext k
        rw [z_pI_2, z_pR_2, if_neg (fun z => h1 z.1)]
      have Rw : mR (x_s x) (x_v x) w 64 := by
        refine ⟨A3.1.1.1, ?_, by rw [(fq 64 (by decide) (by decide)).1]; exact A3.1.1.2.2⟩
        unfold mS
        rw [f63 1 (by decide), f63 4 (by decide), f63 5 (by decide), (fq 65 (by decide) (by decide)).1, (fq 66 (by decide) (by decide)).1, (fq 67 (by decide) (by decide)).1]
        exact A3.1.1.2.1
      refine zx_Model_law_90 (mc_heldBits Mw (by rw [e20]; decide) Rw) (by omega) (fun r w2 hr => ?_)
      obtain ⟨rfl, F4⟩ := hr
      have Rw2 := Rw.keep F4 (by decide) (by decide) (by decide) (by decide) (by decide) (by decide)
      have Mw2 : mRu (x_L x) (x_X x) w2 := Mw.keep F4 (by rw [e20]; decide)
      refine zb_Model_law_94 (nw4 := 40) rfl (mc_allBear Mw2 (by rw [F4.2.2 20 (by decide), e20]; decide) Rw2) (by omega) (fun r w3 hr => ?_)
      obtain ⟨rfl, F5⟩ := hr
      have F45 := F4.tr F5
      -- the own rule is back
      have B : mX m_sO m_sK u3 (z_pI (z_pR w3 63 20 88) 63 22 (nI (x_K x))) := by
        refine ⟨fun q h1 h2 => ?_, fun k hk => ?_, fun k hk => ?_⟩
        · have h74 : q ≠ 74 := fun z => h2 (by rw [z]; unfold m_sO; omega)
          have h75 : ¬ q = 75 := fun z => h2 (by rw [z]; unfold m_sO; omega)
          have h73 : q ≠ 73 := fun z => h2 (by rw [z]; unfold m_sO; omega)
          obtain ⟨g1, g2⟩ := F45.1 q h1 h74 h75
          obtain ⟨g3, g4⟩ := fq q h1 h73
          refine ⟨by rw [z_pI_ne h1, z_pR_1, g1, g3], ?_⟩
          rw [← g4, ← g2]
          funext k
          rw [z_pI_2, z_pR_2, if_neg (fun z => h1 z.1)]
        · by_cases e : k = 22
          · subst e
            rw [z_pI_at, e22]
          · rw [z_pI_ne2 e, z_pR_1, F45.2.1 k (by unfold m_sK at hk; omega) (by unfold m_sK at hk; omega), f63 k e]
        · rw [z_pI_2, z_pR_2]
          by_cases e : k = 20
          · subst e
            rw [if_pos ⟨rfl, rfl⟩, e88]
          · rw [if_neg (fun z => e z.2), F45.2.2 k hk, (q2 63 (by decide)).2, z_pI_2, z_pR_2, if_neg (fun z => e z.2)]
      have A4 := A1.low (G3.tr B)
      refine zb_Model_law_100 (nw4 := 40) rfl (mc_tell mRow.nil (by decide) _) (by omega) (fun w4 h4 => ?_)
      obtain ⟨r4, F6⟩ := h4
      refine zb_Model_law_124 (mc_tell r4 (by simp) _) (by omega) (fun w5 h5 => ?_)
      obtain ⟨r5, F7⟩ := h5
      refine zb_Model_law_132 ?_
      rw [he]
      obtain ⟨A5, Z5⟩ := A1.row ((mQ.of (G3.tr B)).tr (mQ.r0.tr ((mQ.tl F6).tr (mQ.tl F7)))) r5
      exact ⟨_, rfl, rfl, A5, z0.tr (Z1.tr Z5)⟩
end
