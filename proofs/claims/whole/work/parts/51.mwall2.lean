section
variable {x : tX} {σ τ u : zS}
theorem mp_wall (h : mA x σ) : z_Ci 346 zm_Model_wall [.inr 63] σ (fun r u => r = (to_wall x).1 ∧ mA (to_wall x).2 u ∧ zU σ u) := by
  have h0 := (m_t0r h).1
  have z0 := (m_t0r h).2
  have hn := h.1.n
  have hr4 := h.1.r4
  obtain ⟨t1, t2, t3⟩ := id h0.2.2.2.1
  have e0 : (0 : Int32) = nI 0 := rfl
  refine z_Ci_of (by decide) (Nat.le_of_ble_eq_true rfl) (fun Γ hd he => ?_)
  show z_J Γ zm_Model_wall 0 [some (.inr 63), none, none, none, none] [] σ
  refine zb_Model_wall_0 (mc_beginText h0.2.2.2.1 80) (by omega) (fun u hu => ?_)
  subst hu
  generalize hρ : z_pI σ 63 11 (nI 0) = ρ at *
  have hC0 := rd_t_C h0.2.2.2.1 (m := 80) (by decide)
  rw [show min (x_L x) 80 = x_L x by omega] at hC0
  have fR : ∀ {τ : zS} (q : Nat × Option Nat), zT (fun o => o = 71 ∨ o = 72) (rd_t ρ (x_L x) 80) τ → mA (x_t0 x) (p_s τ q) ∧ zU ρ (p_s τ q) := fun q hT => by
    refine h0.rd (hT.X (by unfold m_sO; omega) ρ q (rd_t_X ρ (x_L x) 80 q)) ?_
    rw [p_s_k _ _ (by decide) (by decide), hT.1 63 (by decide)]
    exact (rd_t_13 ρ (x_L x) 80).2.2
  have f13 : ∀ {τ : zS}, zT (fun o => o = 71 ∨ o = 72) (rd_t ρ (x_L x) 80) τ → τ.1 63 13 = nI (x_L x) := fun hT => by
    rw [hT.1 63 (by decide)]
    exact (rd_t_13 ρ (x_L x) 80).1
  refine zb_Model_wall_11 ?_
  -- a fault was found
  have bad : ∀ (n : Int32) (m a p : Nat) (τ : zS), zT (fun o => o = 71 ∨ o = 72) (rd_t ρ (x_L x) 80) τ → a ≤ 80 → p ≤ 80 → wl_b x = some p → z_J Γ zm_Model_wall 71 [some (.inr 63), some (.inl n), some (.inl (nI m)), none, none] [] (p_s τ (a, some p)) := by
    intro n m a p τ hT ha hp hb
    rw [to_wall, hb] at he
    refine zb_Model_wall_71 (mn_wasRight (L := x_L x) (by intro p' h'; simp at h'; omega) (by show a ≤ 100; omega) t1 (f13 hT)) (by omega) (fun r u hr => ?_)
    have ew : d_wr (x_L x) (a, some p) = (a, some p) := by
      unfold d_wr d_flt
      simp
    rw [ew] at hr
    obtain ⟨rfl, rfl⟩ := hr
    refine zb_Model_wall_75 (fun z => absurd (by simp [z_tf]; decide) z) (fun _ => ?_)
    refine zb_Model_wall_78 ?_
    obtain ⟨w1, w2⟩ := fR (a, some p) hT
    rw [he, p_s_wr]
    exact ⟨_, rfl, rfl, w1, z0.tr w2⟩
  -- all was read
  have fin : ∀ (k m : Nat) (τ : zS), zT (fun o => o = 71 ∨ o = 72) (rd_t ρ (x_L x) 80) τ → wP x (x_L x) k m τ → wl_b x = none → z_J Γ zm_Model_wall 85 [some (.inr 63), some (.inl (nI k)), some (.inl (nI m)), none, none] [] (p_s τ (x_L x, none)) := by
    intro k m τ hT hP hb
    obtain ⟨p1, p2, p3, p4, p5, p6⟩ := hP
    rw [to_wall, hb, p3] at he
    obtain ⟨hy, hfi⟩ := wl_y (s := x_s x) (v := x_v x) (x_X x) (x_L x)
    generalize (wl_st (x_s x) (x_v x) (x_X x) (x_L x)).2 = w at *
    obtain ⟨g1, g2, g3, g4, g5⟩ := p6
    obtain ⟨w1, w2⟩ := fR (x_L x, none) hT
    have g5' : ∀ b, b < s_n (x_s x) → v_w w b = 1 → (p_s τ (x_L x, none)).1 71 b = nI (v_h w b) ∧ (p_s τ (x_L x, none)).1 72 b = nI ((v_p w (v_h w b)).idxOf b) := fun b hb hw => by
      rw [p_s_o _ _ (by decide), p_s_o _ _ (by decide)]
      exact g5 b hb hw
    generalize p_s τ (x_L x, none) = ω at *
    refine zb_Model_wall_85 (mc_copy (a0 := 64) (a1 := 78) (n1 := 53) (k := 0) (by decide) (by decide) (by decide) (by decide) (by decide)) (by omega) (fun u2 h2 => ?_)
    obtain ⟨c1, -, c3⟩ := h2
    refine zb_Model_wall_97 ?_
    refine zj_forS (b := s_n (x_s x)) (fun i => [some (.inr 63), some (.inl (nI k)), some (.inl (nI m)), none, some (.inl (nI i))])
      (fun i u => z_fr (fun q => q = 78) ω u ∧ (∀ b, b < i → u.1 78 b = nI (v_w w b) ∧ u.1 78 (12 + b) = ω.1 71 b ∧ u.1 78 (24 + b) = ω.1 72 b) ∧ ∀ j, 36 ≤ j → j < 53 → u.1 78 j = ω.1 64 j) (fun i u hi hI kk => ?_) (fun u hI => ?_) 0 (Nat.zero_le _) _ ⟨c3, fun _ q => absurd q (by omega), fun j _ hj => by have := c1 j hj; rwa [Nat.zero_add] at this⟩
    · obtain ⟨q1, q2, q3⟩ := hI
      have ef : u.1 63 1 = nI (s_n (x_s x)) := by rw [(q1 63 (by decide)).1]; exact w1.1.2.1.1
      refine zb_Model_wall_100 (fun z => ?_) (fun _ => ?_)
      · rw [ef] at z
        exact absurd z (nI_ge hi (by omega))
      refine zb_Model_wall_109 (mc_has m i (by omega) (by omega) u) (by omega) (fun r u' hr => ?_)
      obtain ⟨rfl, rfl⟩ := hr
      have step : ∀ y : Int32, y = nI (v_w w i) → z_J Γ zm_Model_wall 129 [some (.inr 63), some (.inl (nI k)), some (.inl (nI m)), none, some (.inl (nI i))] [.inl y, .inl (nI i), .inr 78] u' := by
        intro y hy
        refine zb_Model_wall_129 (k1 := i) (k2 := i) (z_ixn (by omega)) (z_ixn (by omega)) (mc_put (by decide) (by omega) _ _ _) (by omega) (fun u3 h3 => ?_)
        refine zb_Model_wall_146 ?_
        rw [nI_add]
        subst h3
        refine kk _ ⟨((q1.pI rfl).pI rfl).pI rfl, fun b hb => ?_, fun j hj hj2 => ?_⟩
        · by_cases e : b = i
          · subst e
            refine ⟨?_, ?_, ?_⟩
            · rw [z_pI_ne2 (by omega), z_pI_ne2 (by omega), z_pI_at, hy]
            · rw [z_pI_ne2 (by omega), z_pI_at, (q1 71 (by decide)).1]
            · rw [z_pI_at, (q1 72 (by decide)).1]
          · have := q2 b (by omega)
            rw [z_pI_ne2 (show b ≠ 24 + i by omega), z_pI_ne2 (show b ≠ 12 + i by omega), z_pI_ne2 e, z_pI_ne2 (show 12 + b ≠ 24 + i by omega), z_pI_ne2 (show 12 + b ≠ 12 + i by omega), z_pI_ne2 (show 12 + b ≠ i by omega), z_pI_ne2 (show 24 + b ≠ 24 + i by omega), z_pI_ne2 (show 24 + b ≠ 12 + i by omega), z_pI_ne2 (show 24 + b ≠ i by omega)]
            exact this
        · rw [z_pI_ne2 (by omega), z_pI_ne2 (by omega), z_pI_ne2 (by omega)]
          exact q3 j hj hj2
      refine zb_Model_wall_121 (fun z => ?_) (fun z => ?_)
      · rw [z_tf_eq0, g4 i, decide_eq_false_iff_not] at z
        refine zb_Model_wall_128 (step _ ?_)
        rcases g2 i with q | q
        · rw [q]
        · exact absurd q z
      · rw [z_tf_eq0, g4 i, Bool.not_eq_false, decide_eq_true_eq] at z
        refine zb_Model_wall_124 (step _ ?_)
        rw [z]
    · obtain ⟨q1, q2, q3⟩ := hI
      have ef : u.1 63 1 = nI (s_n (x_s x)) := by rw [(q1 63 (by decide)).1]; exact w1.1.2.1.1
      have hV : mV (s_cl (x_s x) k) w (u.1 78) := by
        refine ⟨fun b hb => (q2 b hb).1, fun b hb hq => ?_, fun b hb hq => ?_, fun b hb hq => ?_, fun r hr => ?_, ?_⟩
        · have h1 : v_w w b = 1 := by rcases g2 b with q | q <;> omega
          rw [(q2 b hb).2.1]
          exact (g5' b hb h1).1
        · rw [(q2 b hb).2.2]
          exact (g5' b hb hq).2
        · have := g2 b; omega
        · have hr' : r < s_r (x_s x) := hr
          rw [q3 _ (by omega) (by omega), hfi]
          exact w1.1.ff hr
        · rw [q3 _ (by omega) (by omega), hy]
          exact w1.1.fy
      have fX : mX m_sO m_sK ω u := q1.X (by decide) (by unfold m_sO; omega)
      have hu := (w1.low fX).1
      have hzu := (w1.low fX).2
      refine zb_Model_wall_100 (fun _ => ?_) (fun z => ?_)
      rotate_left
      · rw [ef] at z
        exact absurd (Int32.le_refl _) z
      refine zb_Model_wall_152 ?_
      -- whether all columns hold
      refine zj_forS (b := k) (fun i => [some (.inr 63), some (.inl (nI k)), none, none, some (.inl (nI i))])
        (fun i u2 => mX m_sO m_sK ω u2 ∧ u2.1 78 = u.1 78 ∧ ∀ c, c < i → l_ho (x_E x) (x_s x) (v_y w) c (v_p w c) = true) (fun i u2 hi hI kk => ?_) (fun u2 hI => ?_) 0 (Nat.zero_le _) _ ⟨fX, rfl, fun _ q => absurd q (by omega)⟩
      · obtain ⟨s1, s2, s3⟩ := hI
        have hu2 := (w1.low s1).1
        refine zb_Model_wall_155 (fun z => absurd z (nI_ge hi (by omega))) (fun _ => ?_)
        have hC2 : mC (x_s x) (u2.1 78) i (v_p w i) := by
          have := mC_of g1 hV (c := i) hi
          rw [s2]
          exact this
        have hy2 : u2.1 78 48 = nI (v_y w) := by rw [s2]; exact hV.2.2.2.2.2
        refine zb_Model_wall_161 (mc_isHeld hu2.2.2.1.1 hu2.1.Bk (by decide) (by decide) hC2 hy2 (by rw [hu2.2.2.1.2]; decide)) (by omega) (fun r u3 hr => ?_)
        obtain ⟨rfl, hF3⟩ := hr
        have f3 : mX m_sO m_sK ω u3 := mX.tr s1 (hF3.X2 (by unfold m_sO; omega))
        refine zb_Model_wall_171 (fun z => ?_) (fun z => ?_)
        · rw [z_tf_eq0, Bool.not_eq_false] at z
          refine zb_Model_wall_178 ?_
          rw [nI_add]
          refine kk u3 ⟨f3, by rw [(hF3.1 78 (by decide) (by decide) (by decide)).1]; exact s2, fun c hc => ?_⟩
          by_cases e : c = i
          · rw [e]; exact z
          · exact s3 c (by omega)
        · rw [z_tf_eq0] at z
          refine zb_Model_wall_174 ?_
          have hno : wl_ho (x_E x) (x_s x) w k = false := by
            unfold wl_ho
            rw [List.all_eq_false]
            exact ⟨i, List.mem_range.mpr hi, by
              have z' : l_ho (x_E x) (x_s x) (v_y w) i (v_p w i) = false := z
              rw [z']
              decide⟩
          simp only [hno, Bool.false_eq_true, if_false] at he
          rw [he]
          exact ⟨_, rfl, rfl, (w1.low f3).1, z0.tr (w2.tr (w1.low f3).2)⟩
      · obtain ⟨s1, s2, s3⟩ := hI
        have hu2 := (w1.low s1).1
        refine zb_Model_wall_155 (fun _ => ?_) (fun z => absurd (Int32.le_refl _) z)
        refine zb_Model_wall_184 ?_
        have hyes : wl_ho (x_E x) (x_s x) w k = true := by
          unfold wl_ho
          rw [List.all_eq_true]
          exact fun c hc => s3 c (List.mem_range.mp hc)
        simp only [hyes, if_true] at he
        refine zj_forS (b := 53) (fun i => [some (.inr 63), some (.inl (nI k)), none, none, some (.inl (nI i))])
          (fun i u3 => (∀ j, j < i → u3.1 64 j = u2.1 78 j) ∧ z_fr (fun q => q = 64) u2 u3) (fun i u3 hi hI kk => ?_) (fun u3 hI => ?_) 0 (Nat.zero_le _) _ ⟨fun _ q => absurd q (by omega), z_fr.rf⟩
        · refine zb_Model_wall_187 (fun z => absurd z (nI_ge hi (by omega))) (fun _ => ?_)
          refine zb_Model_wall_194 (k1 := i) (k2 := i) (z_ixn (by omega)) (z_ixn (by omega)) ?_
          rw [nI_add]
          refine kk _ ⟨fun j hj => ?_, hI.2.pI rfl⟩
          by_cases e : j = i
          · subst e
            rw [z_pI_at, (hI.2 78 (by decide)).1]
          · rw [z_pI_ne2 e]
            exact hI.1 j (by omega)
        · obtain ⟨r1, r2⟩ := hI
          refine zb_Model_wall_187 (fun _ => ?_) (fun z => absurd (Int32.le_refl _) z)
          refine zb_Model_wall_214 ?_
          have e44 : u3.1 63 44 = nI (x_m x) := by rw [(r2 63 (by decide)).1]; exact hu2.2.2.2.2.2.2.1
          rw [z_pI_ne2 (show 44 ≠ 27 by decide), z_pI_ne2 (show 44 ≠ 41 by decide), z_pI_ne2 (show 44 ≠ 4 by decide), e44, nI_add, he]
          have f4 : mX (fun q => q = 64) (fun k => k = 4 ∨ k = 41 ∨ k = 27 ∨ k = 44) u2 (z_pI (z_pI (z_pI (z_pI u3 63 4 (nI k)) 63 41 (nI 0)) 63 27 (nI 0)) 63 44 (nI (x_m x + 1))) := ((((mX.mono (K := fun _ => False) (r2.X (by decide) (fun _ h => h)) (fun _ h => h) (fun _ h => h.elim)).pK (Or.inl rfl)).pK (Or.inr (Or.inl rfl))).pK (Or.inr (Or.inr (Or.inl rfl)))).pK (Or.inr (Or.inr (Or.inr rfl)))
          have e64 : ∀ j, j < 53 → (z_pI (z_pI (z_pI (z_pI u3 63 4 (nI k)) 63 41 (nI 0)) 63 27 (nI 0)) 63 44 (nI (x_m x + 1))).1 64 j = u.1 78 j := fun j hj => by
            rw [z_pI_ne (by decide), z_pI_ne (by decide), z_pI_ne (by decide), z_pI_ne (by decide), r1 j hj, s2]
          have eo : ∀ o, o ≠ 63 → o ≠ 64 → (z_pI (z_pI (z_pI (z_pI u3 63 4 (nI k)) 63 41 (nI 0)) 63 27 (nI 0)) 63 44 (nI (x_m x + 1))).1 o = u2.1 o := fun o h1 h2 => (f4.1 o h1 h2).1
          refine ⟨_, rfl, rfl, ⟨⟨g1, ⟨?_, ?_, ?_, fun b hb => ?_, fun b hb => ?_, fun r hr => ?_⟩, hV.congr hn hr4 e64⟩, mH.nil (by rw [z_pI_ne2 (by decide), z_pI_at]), hu2.2.2.1.keepX f4 (by decide) (by decide), hu2.2.2.2.1.keepX f4 (by decide) (by decide), hu2.2.2.2.2.1.keepX f4 (by decide) (by decide), ⟨?_, fun c _ t ht => absurd ht (by simp)⟩, hu2.2.2.2.2.2.2.none (eo 86 (by decide) (by decide)) (eo 87 (by decide) (by decide)) (z_pI_at _ _ _ _)⟩, z0.tr (w2.tr ((w1.low s1).2.tr (f4.zU (by omega))))⟩
          · rw [f4.2.1 1 (by decide)]; exact hu2.1.2.1.1
          · rw [z_pI_ne2 (by decide), z_pI_ne2 (by decide), z_pI_ne2 (by decide), z_pI_at]
            rfl
          · rw [f4.2.1 5 (by decide)]; exact hu2.1.2.1.2.2.1
          · rw [eo 65 (by decide) (by decide)]; exact hu2.1.2.1.2.2.2.1 b hb
          · rw [eo 66 (by decide) (by decide)]; exact hu2.1.2.1.2.2.2.2.1 b hb
          · rw [eo 67 (by decide) (by decide)]; exact hu2.1.2.1.2.2.2.2.2 r hr
          · rw [z_pI_ne2 (by decide), z_pI_ne2 (by decide), z_pI_at]
            show nI 0 = nI (se_b (fun _ => none) _)
            rw [se_b_none]
  -- the end of what can be read
  have good : ∀ (i k m : Nat) (τ : zS), zT (fun o => o = 71 ∨ o = 72) (rd_t ρ (x_L x) 80) τ → wP x i k m τ → 1 ≤ i → x_X x (i - 1) ≠ 47 → (i < x_L x → wl_ok (x_s x) (x_v x) (x_X x) i = false) → z_J Γ zm_Model_wall 71 [some (.inr 63), some (.inl (nI k)), some (.inl (nI m)), none, none] [] (p_s τ (i, none)) := by
    intro i k m τ hT hP hi1 h47 hnx
    have hiL := hP.1
    refine zb_Model_wall_71 (mn_wasRight (L := x_L x) (by intro p' h'; simp at h') (by show i ≤ 100; omega) t1 (f13 hT)) (by omega) (fun r u hr => ?_)
    by_cases hlt : i < x_L x
    · have hb : wl_b x = some i := sc_b_at hP.2.1 hlt (hnx hlt)
      have ew : d_wr (x_L x) (i, none) = (i, some i) := by
        unfold d_wr d_flt
        simp [hlt]
      rw [ew] at hr
      obtain ⟨rfl, rfl⟩ := hr
      rw [to_wall, hb] at he
      refine zb_Model_wall_75 (fun z => absurd (by simp [z_tf]; decide) z) (fun _ => ?_)
      refine zb_Model_wall_78 ?_
      obtain ⟨w1, w2⟩ := fR (i, some i) hT
      rw [he, p_s_wr]
      exact ⟨_, rfl, rfl, w1, z0.tr w2⟩
    · have eL : x_L x = i := by omega
      have hb : wl_b x = none := by
        show sc_b _ _ _ = none
        rw [sc_b_end (fun j hj => hP.2.1 j (by omega)), if_pos (by rw [decide_eq_true_eq, eL]; exact ⟨by omega, h47⟩)]
      have ew : d_wr (x_L x) (i, none) = (i, none) := by
        unfold d_wr
        rw [if_neg (by show ¬ (i < x_L x); omega)]
      rw [ew] at hr
      obtain ⟨rfl, rfl⟩ := hr
      refine zb_Model_wall_75 (fun _ => ?_) (fun z => absurd z (by simp [z_tf]; decide))
      have := fin k m τ hT (by rw [eL]; exact hP) hb
      rw [eL] at this
      exact this
  refine zj_forM (I := fun M Lc u => ∃ i n m τ, M = 200 - i ∧ n < 6 ∧ Lc = [some (.inr 63), some (.inl (nI n)), some (.inl (nI m)), some (.inl (nI 1)), none] ∧ u = p_s τ (i, none) ∧ zT (fun o => o = 71 ∨ o = 72) (rd_t ρ (x_L x) 80) τ ∧ wP x i (n + 1) m τ ∧ wl_be (x_X x) i = true ∧ v_p (wl_st (x_s x) (x_v x) (x_X x) i).2 n = []) (fun M Lc u hI kk => ?_) 200 _ _ ⟨0, 0, 0, rd_t ρ (x_L x) 80, rfl, by omega, rfl, rfl, zT.rf, ⟨Nat.zero_le _, fun j hj => absurd hj (by omega), rfl, by omega, by omega, wR.ini h.1.1⟩, rfl, ?_⟩
  rotate_left
  · have hI1 := aI_pl h.1.1
    show (v_p (a_pl (x_v x) (s_n (x_s x))) 0) = []
    have : ∀ b, b ∉ v_p (a_pl (x_v x) (s_n (x_s x))) 0 := fun b hb => by
      have := ((hI1.mm (show 0 < s_c (s_cl (x_s x) 1) by show 0 < 1; omega) b).mp hb).2.1
      have hw : v_w (a_pl (x_v x) (s_n (x_s x))) b = 0 := by
        show (if b < s_n (x_s x) then 0 else v_w (x_v x) b) = 0
        split
        · rfl
        · exact h.1.1.2.2.1 b (by omega)
      omega
    exact List.eq_nil_iff_forall_not_mem.mpr this
  obtain ⟨i, n, m, τ, hM, hn6, rfl, rfl, hT, hP, hbe, hem⟩ := hI
  have hC := hC0.kT hT (by decide) (by decide) (by rw [(rd_t_2 ρ (x_L x) 80).1]; decide)
  have hiL := hP.1
  have hq : ∀ a, a ≤ x_L x → d_ok (x_L x) (a, none) := fun a ha => ⟨ha, fun p hp => by cases hp⟩
  refine zb_Model_wall_17 (fun z => absurd z (by decide)) (fun _ => ?_)
  refine zb_Model_wall_21 (mn_fine (by intro p' h'; simp at h')) (by omega) (fun r u hr => ?_)
  obtain ⟨rfl, rfl⟩ := hr
  refine zb_Model_wall_25 (fun z => absurd z (by simp [z_tf]; decide)) (fun _ => ?_)
  -- behind a column
  have nxt : ∀ (i' m' : Nat) (τ' : zS), i < i' → zT (fun o => o = 71 ∨ o = 72) (rd_t ρ (x_L x) 80) τ' → wP x i' (n + 1) m' τ' → x_X x (i' - 1) ≠ 47 → (i' < x_L x → x_X x i' ≠ 47 → wl_ok (x_s x) (x_v x) (x_X x) i' = false) → z_J Γ zm_Model_wall 44 [some (.inr 63), some (.inl (nI n)), some (.inl (nI m')), none, none] [] (p_s τ' (i', none)) := by
    intro i' m' τ' hii hT' hP' h47 hnx
    have hi'L := hP'.1
    have hC' := hC0.kT hT' (by decide) (by decide) (by rw [(rd_t_2 ρ (x_L x) 80).1]; decide)
    have hnb : wl_be (x_X x) i' = false := by
      unfold wl_be
      rw [decide_eq_false (show ¬ i' = 0 by omega), decide_eq_false h47]
      rfl
    have stop : (i' < x_L x → wl_ok (x_s x) (x_v x) (x_X x) i' = false) → z_J Γ zm_Model_wall 66 [some (.inr 63), some (.inl (nI (n + 1))), some (.inl (nI m')), none, none] [] (p_s τ' (i', none)) := fun hno => by
      refine zb_Model_wall_66 (zb_Model_wall_67 (zb_Model_wall_17 (fun _ => ?_) (fun z => absurd rfl z)))
      exact good i' (n + 1) m' τ' hT' hP' (by omega) h47 hno
    refine zb_Model_wall_44 (fun z => ?_) (fun z => ?_)
    · rw [nI_add, zn_le (by omega) (by omega)] at z
      rw [nI_add]
      refine stop (fun hlt => ?_)
      by_cases c47 : x_X x i' = 47
      · unfold wl_ok
        rw [if_neg (by omega), if_pos c47, hP'.2.2.1, decide_eq_false (show ¬ n + 1 < 6 by omega), Bool.and_false]
      · exact hnx hlt c47
    · rw [nI_add, zn_le (by omega) (by omega)] at z
      rw [nI_add]
      refine zb_Model_wall_53 (mc_passes hC' (hq i' hi'L) (c := 47) (by decide)) (by omega) (fun r u hr => ?_)
      by_cases c3 : i' < x_L x ∧ x_X x i' = 47
      · have e3 : d_pas (x_L x) (x_X x) 47 (i', none) = (true, (i' + 1, none)) := d_pas_t ⟨rfl, c3.1, c3.2⟩
        rw [e3] at hr
        obtain ⟨rfl, rfl⟩ := hr
        refine zb_Model_wall_59 (fun z => absurd z (by show ¬ z_tf true = 0; decide)) (fun _ => ?_)
        refine zb_Model_wall_62 (zb_Model_wall_67 ?_)
        obtain ⟨g1, g2, g3, g4, g5, g6⟩ := hP'
        have est : wl_st (x_s x) (x_v x) (x_X x) (i' + 1) = (n + 2, a_nc (wl_st (x_s x) (x_v x) (x_X x) i').2 (n + 1)) := by rw [wl_st, if_neg (by omega), if_pos c3.2, g3]
        refine kk (200 - (i' + 1)) _ _ (by omega) ⟨i' + 1, n + 1, m', τ', rfl, by omega, rfl, rfl, hT', ⟨by omega, fun j hj => ?_, by rw [est], by omega, by omega, by rw [est]; exact g6.nc (by omega)⟩, ?_, ?_⟩
        · by_cases e : j = i'
          · rw [e]
            unfold wl_ok
            rw [if_neg (by omega), if_pos c3.2, hnb, g3, decide_eq_true (show n + 1 < 6 by omega)]
            rfl
          · exact g2 j (by omega)
        · unfold wl_be
          rw [show i' + 1 - 1 = i' by omega, decide_eq_true c3.2, Bool.or_true]
        · rw [est]
          exact if_pos rfl
      · have e3 : d_pas (x_L x) (x_X x) 47 (i', none) = (false, (i', none)) := d_pas_f (fun z2 => c3 ⟨z2.2.1, z2.2.2⟩)
        rw [e3] at hr
        obtain ⟨rfl, rfl⟩ := hr
        refine zb_Model_wall_59 (fun _ => ?_) (fun z => absurd rfl z)
        exact stop (fun hlt => hnx hlt (fun c47 => c3 ⟨hlt, c47⟩))
  refine zb_Model_wall_28 (mc_passes hC (hq i hiL) (c := 45) (by decide)) (by omega) (fun r u hr => ?_)
  by_cases c1 : i < x_L x ∧ x_X x i = 45
  · have e1 : d_pas (x_L x) (x_X x) 45 (i, none) = (true, (i + 1, none)) := d_pas_t ⟨rfl, c1.1, c1.2⟩
    rw [e1] at hr
    obtain ⟨rfl, rfl⟩ := hr
    refine zb_Model_wall_34 (fun _ => ?_) (fun z => absurd z (by show ¬ z_tf true = 0; decide))
    obtain ⟨g1, g2, g3, g4, g5, g6⟩ := hP
    have est : wl_st (x_s x) (x_v x) (x_X x) (i + 1) = wl_st (x_s x) (x_v x) (x_X x) i := by rw [wl_st, if_pos c1.2]
    refine nxt (i + 1) m τ (by omega) hT ⟨by omega, fun j hj => ?_, by rw [est]; exact g3, g4, g5, by rw [est]; exact g6⟩ (by rw [show i + 1 - 1 = i by omega]; omega) (fun hlt c47 => ?_)
    · by_cases e : j = i
      · rw [e]
        unfold wl_ok
        rw [if_pos c1.2, hbe]
      · exact g2 j (by omega)
    · have hnb : wl_be (x_X x) (i + 1) = false := by
        unfold wl_be
        rw [show i + 1 - 1 = i by omega, decide_eq_false (show ¬ i + 1 = 0 by omega), decide_eq_false (show ¬ x_X x i = 47 by omega)]
        rfl
      unfold wl_ok
      by_cases c45 : x_X x (i + 1) = 45
      · rw [if_pos c45, hnb]
      · rw [if_neg c45, if_neg c47, hnb, show i + 1 - 1 = i by omega, decide_eq_false (show ¬ x_X x i ≠ 45 from fun z => z c1.2)]
        rfl
  · have e1 : d_pas (x_L x) (x_X x) 45 (i, none) = (false, (i, none)) := d_pas_f (fun z2 => c1 ⟨z2.2.1, z2.2.2⟩)
    rw [e1] at hr
    obtain ⟨rfl, rfl⟩ := hr
    refine zb_Model_wall_34 (fun z => absurd rfl z) (fun _ => ?_)
    refine zb_Model_wall_37 (mc_readColumn (L := 0) hn t1 hC (by rw [hT.2]; exact (rd_t_2 ρ (x_L x) 80).1) (by rw [hT.1 63 (by decide), rd_t_k _ _ _ (by decide)]; exact h0.1.2.1.1) hP hbe hem (fun hlt c45 => c1 ⟨hlt, c45⟩)) (by omega) (fun r u hr => ?_)
    obtain ⟨τ', q', m', rfl, rfl, hT', hcase⟩ := hr
    refine zb_Model_wall_43 ?_
    have hT2 : zT (fun o => o = 71 ∨ o = 72) (rd_t ρ (x_L x) 80) τ' := ⟨fun o ho => (hT'.1 o ho).trans (hT.1 o ho), hT'.2.trans hT.2⟩
    rcases hcase with ⟨a, rfl, ha, hb⟩ | ⟨i', rfl, hii, hP', h47, hnx⟩
    · have stop : z_J Γ zm_Model_wall 66 [some (.inr 63), some (.inl (nI (n + 1))), some (.inl (nI m')), none, none] [] (p_s τ' (a, some a)) := by
        refine zb_Model_wall_66 (zb_Model_wall_67 (zb_Model_wall_17 (fun _ => ?_) (fun z => absurd rfl z)))
        exact bad _ m' a a τ' hT2 ha ha hb
      refine zb_Model_wall_44 (fun _ => ?_) (fun _ => ?_)
      · rw [nI_add]
        exact stop
      · rw [nI_add]
        refine zb_Model_wall_53 (mf_passes (by omega) _) (by omega) (fun r u hr => ?_)
        obtain ⟨rfl, rfl⟩ := hr
        exact zb_Model_wall_59 (fun _ => stop) (fun z => absurd rfl z)
    · exact nxt i' m' τ' hii hT2 hP' h47 hnx
end
