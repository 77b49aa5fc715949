/-! the model: a siege is read and done -/
theorem a_dn_ind (s : aS) (v : aV) (a b a' b' : Nat) : ∀ n, (a_dn s (v, a, b) n).1 = (a_dn s (v, a', b') n).1
  | 0 => rfl
  | n + 1 => by
    have ih := a_dn_ind s v a b a' b' n
    rw [a_dn, a_dn]
    generalize a_dn s (v, a, b) n = q at *
    generalize a_dn s (v, a', b') n = q' at *
    obtain ⟨w, c, d⟩ := q
    obtain ⟨w', c', d'⟩ := q'
    change w = w' at ih
    subst ih
    exact a_pdi_ind s w c d c' d' (s_n s)
section
variable {x : tX} {σ u : zS} {s : aS} {v : aV}
/-- one act is done by the model -/
theorem mc_act {K : Nat} {T : Nat → Nat} {B : Nat} (hM : mRu K T σ) (h75 : σ.2 63 20 ≠ 75) (hR : mR s v σ 64) (hT : aT s v B) (hB : B + 99 < 1073741824) {a : gA} (hg : g_aI a) (hp : g_po a.1 a.2.length = 0) {y1 y2 y3 : Int32} (e1 : y1 = nI (a.2.getD 0 0)) (e2 : 1 < a.2.length → y2 = nI (a.2.getD 1 0)) (e3 : 2 < a.2.length → y3 = nI (a.2.getD 2 0)) : z_Ci 345 zm_Model_act [.inr 63, .inl (nI a.1), .inl y1, .inl y2, .inl y3] σ (fun r u => r = z_tf (decide (0 ≤ (g_act (tE K T) s v a).1)) ∧ mR s (g_act (tE K T) s v a).2 u 64 ∧ mX (fun q => q = 64 ∨ q = 74 ∨ q = 75) m_sK σ u) := by
  subst e1
  have hk := hg.1
  have hn := hR.n
  have hr4 := hR.r4
  have hy := hT.2.2
  have hl : 0 < a.2.length := by
    rcases Nat.lt_or_ge 0 a.2.length with z | z
    · exact z
    · have : a.2.length = 0 := by omega
      rw [this] at hp
      exact absurd hp (g_po0 a.1)
  have h256 : a.1 < 256 := by rcases hk with z | z | z | z | z <;> omega
  have a99 := hg.2.2 0 hl
  refine z_Ci_of (by decide) (Nat.le_of_ble_eq_true rfl) (fun Γ hd he => ?_)
  show z_J Γ zm_Model_act 0 [some (.inr 63), some (.inl (nI a.1)), some (.inl (nI (a.2.getD 0 0))), some (.inl y2), some (.inl y3)] [] σ
  have dflt : a.1 = 100 → z_J Γ zm_Model_act 151 [some (.inr 63), none, some (.inl (nI (a.2.getD 0 0))), none, none] [] σ := by
    intro e
    have eg : g_act (tE K T) s v a = (nI (v_y v + a.2.getD 0 0), (a_days s v (a.2.getD 0 0)).1) := by
      unfold g_act
      rw [if_neg (by omega), if_neg (by omega), if_neg (by omega), if_neg (by omega)]
    rw [eg] at he
    refine zb_Model_act_151 (mc_goDays hR (by decide) (zn_nat _) (zn_nat _) (by omega)) (by omega) (fun w hw => ?_)
    obtain ⟨r2, -, -, F⟩ := hw
    rw [a_dn_ind s v _ _ 0 0, ← a_days_dn] at r2
    refine zb_Model_act_160 ?_
    rw [he, decide_eq_true (show (0 : Int32) ≤ nI (v_y v + a.2.getD 0 0) from zn_ge0 (by omega))]
    exact ⟨_, rfl, rfl, r2, F.mono (fun _ h => Or.inl h) (by unfold m_sK; omega)⟩
  have no : ∀ m, m < 2147483648 → (¬ a.1 = m) → nI a.1 = nI m → z_J Γ zm_Model_act 151 [some (.inr 63), none, some (.inl (nI (a.2.getD 0 0))), none, none] [] σ := fun m hm h z => by
    rw [zn_eq (by omega) hm] at z
    exact absurd z h
  refine zb_Model_act_0 (fun q => ?_) (fun q => ?_) (fun q => ?_) (fun q => ?_) (fun q => ?_) (fun q => ?_) (fun q => ?_) (fun q => ?_) (fun q => ?_)
  · rw [nI_toInt (by omega)] at q
    exact dflt (by rcases hk with z | z | z | z | z <;> omega)
  · rw [zn_eq (by omega) (by omega)] at q
    have hl2 : 1 < a.2.length := by
      rcases Nat.lt_or_ge 1 a.2.length with z | z
      · exact z
      · have : a.2.length = 1 := by omega
        rw [this, q] at hp
        exact absurd hp (by decide)
    have e2' := e2 hl2
    subst e2'
    have eg : g_act (tE K T) s v a = a_lay (tE K T) s v (nI (a.2.getD 0 0)) (nI (a.2.getD 1 0)) := by
      unfold g_act
      rw [if_pos q]
    rw [eg] at he
    refine zb_Model_act_48 (mc_refusesLay hM h75 hR (by decide) (by decide) _ _) (by omega) (fun r w hr => ?_)
    obtain ⟨rfl, F⟩ := hr
    have F' : mX (fun q => q = 64 ∨ q = 74 ∨ q = 75) m_sK σ w := F.X (by omega) (by unfold m_sK; omega)
    have R' := hR.keep F (by decide) (by decide) (by decide) (by decide) (by decide) (by decide)
    rcases a_lay0_c (E := tE K T) hR.1 (nI (a.2.getD 0 0)) (nI (a.2.getD 1 0)) with ⟨q1, q2⟩ | ⟨b', c', eb, ec, hb, hc, hw, h4, q1, q2⟩
    · refine zb_Model_act_58 (fun z => absurd z q1) (fun _ => ?_)
      refine zb_Model_act_61 ?_
      rw [he, q2, decide_eq_false q1]
      exact ⟨_, rfl, rfl, R', F'⟩
    · refine zb_Model_act_58 (fun _ => ?_) (fun z => absurd (by rw [q1]; decide) z)
      rw [eb, ec]
      refine zb_Model_act_63 (mc_goLay R' (by decide) hb hc) (by omega) (fun w2 h2 => ?_)
      subst h2
      refine zb_Model_act_73 ?_
      have R2 := R'.put (by decide) hb (by omega) hc h4
      have h36 := R2.1.h36 hc
      have ep : v_p (a_put v b' c') c' = v_p v c' ++ [b'] := if_pos rfl
      rw [ep] at h36
      rw [he, q2, decide_eq_true (show (0 : Int32) ≤ nI (l_h (s_t s) (v_p v c' ++ [b'])) from zn_ge0 (by omega))]
      exact ⟨_, rfl, rfl, R2, F'.tr ((m_put_fr _ _ _ _ _).X (by decide) (fun _ h => Or.inl h))⟩
  · exact no 109 (by decide) (by rcases hk with z | z | z | z | z <;> omega) q
  · exact no 110 (by decide) (by rcases hk with z | z | z | z | z <;> omega) q
  · rw [zn_eq (by omega) (by omega)] at q
    have hl2 : 2 < a.2.length := by
      rcases Nat.lt_or_ge 2 a.2.length with z | z
      · exact z
      · have : a.2.length = 1 ∨ a.2.length = 2 := by omega
        rcases this with z | z <;> rw [z, q] at hp <;> exact absurd hp (by decide)
    have e2' := e2 (by omega)
    have e3' := e3 hl2
    subst e2'
    subst e3'
    have eg : g_act (tE K T) s v a = a_ln s v (nI (a.2.getD 0 0)) (nI (a.2.getD 1 0)) (nI (a.2.getD 2 0)) := by
      unfold g_act
      rw [if_neg (by omega), if_pos q]
    rw [eg] at he
    refine zb_Model_act_75 (mc_refusesLend hR hT.1 _ _ _) (by omega) (fun r w hr => ?_)
    obtain ⟨rfl, rfl⟩ := hr
    rcases a_ln0_c hR.1 (nI (a.2.getD 0 0)) (nI (a.2.getD 1 0)) (nI (a.2.getD 2 0)) with ⟨q1, q2⟩ | ⟨b', r', n', eb, er, en, hb, hr, h1, h30, hw, h3, q1, q2⟩
    · refine zb_Model_act_83 (fun z => absurd z q1) (fun _ => ?_)
      refine zb_Model_act_86 ?_
      rw [he, q2, decide_eq_false q1]
      exact ⟨_, rfl, rfl, hR, mX.rf⟩
    · refine zb_Model_act_83 (fun _ => ?_) (fun z => absurd (by rw [q1]; decide) z)
      rw [eb, er, en]
      refine zb_Model_act_88 (mc_goLend hR hb hr) (by omega) (fun r w2 h2 => ?_)
      obtain ⟨rfl, R2, F2⟩ := h2
      refine zb_Model_act_96 ?_
      rw [he, q2, decide_eq_true (show (0 : Int32) ≤ nI (v_y v + n') from zn_ge0 (by omega))]
      exact ⟨_, rfl, rfl, R2, F2.X (by decide) (fun _ h => Or.inl h)⟩
  · exact no 112 (by decide) (by rcases hk with z | z | z | z | z <;> omega) q
  · exact no 113 (by decide) (by rcases hk with z | z | z | z | z <;> omega) q
  · rw [zn_eq (by omega) (by omega)] at q
    have eg : g_act (tE K T) s v a = a_cb s v (nI (a.2.getD 0 0)) := by
      unfold g_act
      rw [if_neg (by omega), if_neg (by omega), if_pos q]
    rw [eg] at he
    refine zb_Model_act_99 (mc_isBook hn hR.2.1.1 _) (by omega) (fun r w hr => ?_)
    obtain ⟨rfl, rfl⟩ := hr
    refine zb_Model_act_104 (fun k => ?_) (fun k => ?_)
    · rw [z_tf_eq0] at k
      refine zb_Model_act_117 ?_
      rw [he, show a_cb s v (nI (a.2.getD 0 0)) = (-1, v) from if_neg (by rw [k]; decide)]
      exact ⟨_, rfl, (show nI 0 = z_tf (decide ((0 : Int32) ≤ -1)) by decide), hR, mX.rf⟩
    rw [z_tf_eq0, Bool.not_eq_false] at k
    obtain ⟨b, hb, eb⟩ := z_isn_t (by omega) k
    have ea : a_cb s v (nI (a.2.getD 0 0)) = if v_w v b = 2 then (nI (v_h v b), a_lift v b 0) else (-2, v) := by
      unfold a_cb
      rw [if_pos k, eb, nI_clamp (by omega)]
    rw [ea] at he
    rw [eb]
    have hw3 := hR.w3 b
    refine zb_Model_act_107 (k1 := b) (z_ixn (by omega)) (fun hw => ?_) (fun hw => ?_)
    · rw [hR.fw hb, zn_eq (by omega) (by omega)] at hw
      have hr := hR.1.lt hb hw
      refine zb_Model_act_119 (mc_goRecall hR hb hw) (by omega) (fun r w2 h2 => ?_)
      obtain ⟨rfl, R2, F2⟩ := h2
      refine zb_Model_act_124 ?_
      rw [he, if_pos hw, decide_eq_true (show (0 : Int32) ≤ nI (v_h v b) from zn_ge0 (by omega))]
      exact ⟨_, rfl, rfl, R2, F2.X (by decide) (fun _ h => Or.inl h)⟩
    · rw [hR.fw hb, zn_eq (by omega) (by omega)] at hw
      refine zb_Model_act_117 ?_
      rw [he, if_neg hw]
      exact ⟨_, rfl, (show nI 0 = z_tf (decide ((0 : Int32) ≤ -2)) by decide), hR, mX.rf⟩
  · rw [zn_eq (by omega) (by omega)] at q
    have hl2 : 1 < a.2.length := by
      rcases Nat.lt_or_ge 1 a.2.length with z | z
      · exact z
      · have : a.2.length = 1 := by omega
        rw [this, q] at hp
        exact absurd hp (by decide)
    have e2' := e2 hl2
    subst e2'
    have eg : g_act (tE K T) s v a = ((a_sh s v (nI (a.2.getD 0 0)) (nI (a.2.getD 1 0))).1, (a_sh s v (nI (a.2.getD 0 0)) (nI (a.2.getD 1 0))).2.1) := by
      unfold g_act
      rw [if_neg (by omega), if_neg (by omega), if_neg (by omega), if_pos q]
    rw [eg] at he
    refine zb_Model_act_127 (mc_refusesShot hR _ _) (by omega) (fun r w hr => ?_)
    obtain ⟨rfl, rfl⟩ := hr
    rcases a_sh0_c hR.1 (nI (a.2.getD 0 0)) (nI (a.2.getD 1 0)) with ⟨q1, q2⟩ | ⟨c', n', ec, en, hc, h1, h4, q1, q2⟩
    · refine zb_Model_act_133 (fun z => absurd z q1) (fun _ => ?_)
      refine zb_Model_act_136 ?_
      rw [he, q2, decide_eq_false q1]
      exact ⟨_, rfl, rfl, hR, mX.rf⟩
    · refine zb_Model_act_133 (fun _ => ?_) (fun z => absurd (by rw [q1]; decide) z)
      rw [ec, en]
      refine zb_Model_act_138 (mc_goShot hR (by decide) hc (by omega)) (by omega) (fun r w2 h2 => ?_)
      obtain ⟨rfl, R2, F2⟩ := h2
      refine zb_Model_act_148 ?_
      have h36 : a_h s (a_shi v c' n').1 c' ≤ 36 := R2.1.h36 hc
      rw [he, q2, decide_eq_true (show (0 : Int32) ≤ nI (a_h s (a_shi v c' n').1 c') from zn_ge0 (by omega))]
      exact ⟨_, rfl, rfl, R2, F2.X (by decide) (by omega)⟩
/-- the model's acts as they were read -/
def gM (A : List gA) (f : Nat → Int32) : Prop := ∀ j a, A[j]? = some a → f (4 * j) = nI a.1 ∧ ∀ t, t < a.2.length → f (4 * j + 1 + t) = nI (a.2.getD t 0)
theorem gM.snoc {A : List gA} {a : gA} {f g : Nat → Int32} (h : gM A f) (hk : ∀ k, k < 4 * A.length → g k = f k) (h3 : ∀ b, b ∈ A → b.2.length ≤ 3) (h0 : g (4 * A.length) = nI a.1) (ht : ∀ t, t < a.2.length → g (4 * A.length + 1 + t) = nI (a.2.getD t 0)) : gM (A ++ [a]) g := by
  intro j b hb
  rcases Nat.lt_or_ge j A.length with q | q
  · rw [List.getElem?_append_left q] at hb
    obtain ⟨k1, k2⟩ := h j b hb
    have := h3 b (List.mem_of_getElem? hb)
    refine ⟨by rw [hk _ (by omega)]; exact k1, fun t ht2 => ?_⟩
    rw [hk _ (by omega)]
    exact k2 t ht2
  · have e : j = A.length := by
      have := (List.getElem?_eq_some_iff.mp hb).1
      simp at this
      omega
    subst e
    simp at hb
    subst hb
    exact ⟨h0, ht⟩
theorem mp_siege (h : mA x σ) {B : Nat} (hT : aT (x_s x) (x_v x) B) (hB : B + 2079 < 1073741824) : z_Ci 347 zm_Model_siege [.inr 63] σ (fun r u => r = (to_siege x).1 ∧ mA (to_siege x).2 u ∧ zU σ u) := by
  have h0 := (m_t0r h).1
  have z0 := (m_t0r h).2
  have hn := h.1.n
  have hr4 := h.1.r4
  obtain ⟨t1, t2, t3⟩ := id h0.2.2.2.1
  have e0 : (0 : Int32) = nI 0 := rfl
  refine z_Ci_of (by decide) (Nat.le_of_ble_eq_true rfl) (fun Γ hd he => ?_)
  show z_J Γ zm_Model_siege 0 [some (.inr 63), none, none, none] [] σ
  refine zb_Model_siege_0 (mc_beginText h0.2.2.2.1 60) (by omega) (fun u hu => ?_)
  subst hu
  generalize hρ : z_pI σ 63 11 (nI 0) = ρ at *
  have hC0 := rd_t_C h0.2.2.2.1 (m := 60) (by decide)
  have fR : ∀ {τ : zS} (q : Nat × Option Nat), zT (fun o => o = 79) (rd_t ρ (x_L x) 60) τ → mA (x_t0 x) (p_s τ q) ∧ zU ρ (p_s τ q) := fun q hT => by
    refine h0.rd (hT.X (by unfold m_sO; omega) ρ q (rd_t_X ρ (x_L x) 60 q)) ?_
    rw [p_s_k _ _ (by decide) (by decide), hT.1 63 (by decide)]
    exact (rd_t_13 ρ (x_L x) 60).2.2
  have f13 : ∀ {τ : zS}, zT (fun o => o = 79) (rd_t ρ (x_L x) 60) τ → τ.1 63 13 = nI (x_L x) := fun hT => by
    rw [hT.1 63 (by decide)]
    exact (rd_t_13 ρ (x_L x) 60).1
  rw [to_siege] at he
  -- a fault was found
  have bad : ∀ (n : Int32) (a p : Nat) (τ : zS), zT (fun o => o = 79) (rd_t ρ (x_L x) 60) τ → a ≤ 80 → p ≤ 80 → g_b x = some p → z_J Γ zm_Model_siege 57 [some (.inr 63), some (.inl n), none, none] [] (p_s τ (a, some p)) := by
    intro n a p τ hT ha hp hb
    rw [hb] at he
    refine zb_Model_siege_57 (mn_wasRight (L := x_L x) (by intro p' h'; simp at h'; omega) (by show a ≤ 100; omega) t1 (f13 hT)) (by omega) (fun r u hr => ?_)
    have ew : d_wr (x_L x) (a, some p) = (a, some p) := by
      unfold d_wr d_flt
      simp
    rw [ew] at hr
    obtain ⟨rfl, rfl⟩ := hr
    refine zb_Model_siege_61 (fun z => absurd (by simp [z_tf]; decide) z) (fun _ => ?_)
    refine zb_Model_siege_64 ?_
    obtain ⟨w1, w2⟩ := fR (a, some p) hT
    rw [he, p_s_wr]
    exact ⟨_, rfl, rfl, w1, z0.tr w2⟩
  -- all was read
  have fin : ∀ (τ : zS), zT (fun o => o = 79) (rd_t ρ (x_L x) 60) τ → g_b x = none → gM (g_acts (g_st (x_X x) (x_L x))) (τ.1 79) → z_J Γ zm_Model_siege 57 [some (.inr 63), some (.inl (nI (g_acts (g_st (x_X x) (x_L x))).length)), none, none] [] (p_s τ (x_L x, none)) := by
    intro τ hTt hb hgM
    rw [hb] at he
    obtain ⟨hok, hfin⟩ := sc_b_none hb
    obtain ⟨hA20, hAI⟩ := g_acts_I hok hfin
    refine zb_Model_siege_57 (mn_wasRight (L := x_L x) (by intro p' h'; simp at h') (by show x_L x ≤ 100; omega) t1 (f13 hTt)) (by omega) (fun r u hr => ?_)
    have ew : d_wr (x_L x) (x_L x, none) = (x_L x, none) := by
      unfold d_wr
      rw [if_neg (by omega)]
    rw [ew] at hr
    obtain ⟨rfl, rfl⟩ := hr
    refine zb_Model_siege_61 (fun _ => ?_) (fun z => absurd z (by simp [z_tf]; decide))
    obtain ⟨w1, hz2⟩ := fR (x_L x, none) hTt
    have gM0 : gM (g_acts (g_st (x_X x) (x_L x))) ((p_s τ (x_L x, none)).1 79) := by
      rw [p_s_o _ _ (by decide)]
      exact hgM
    generalize p_s τ (x_L x, none) = ω at *
    generalize g_acts (g_st (x_X x) (x_L x)) = A at *
    refine zb_Model_siege_71 (mc_copy (a0 := 64) (a1 := 77) (n1 := 53) (k := 0) (by decide) (by decide) (by decide) (by decide) (by decide)) (by omega) (fun u2 h2 => ?_)
    obtain ⟨c1, -, c3⟩ := h2
    refine zb_Model_siege_83 ?_
    have c3' : mX (fun q => q = 77) (fun _ => False) ω u2 := c3.X (by decide) (fun _ h => h)
    have V77 : mV (x_s x) (x_v x) (u2.1 77) := w1.1.2.2.congr hn hr4 (fun k hk => by have := c1 k hk; rwa [Nat.zero_add] at this)
    have R2 : mR (x_s x) (x_v x) u2 64 := w1.1.keepX c3' ⟨id, id, id⟩ (by decide) (by decide) (by decide)
    -- behind the acts
    have last : ∀ n w, n ≤ A.length → (∀ j, j < n → g_sc (x_E x) (x_s x) A (x_v x) j = true) → (n = A.length ∨ (n < A.length ∧ g_sc (x_E x) (x_s x) A (x_v x) n = false)) → mR (x_s x) (g_v (x_E x) (x_s x) A (x_v x) n) w 64 → mX (fun q => q = 64 ∨ q = 74 ∨ q = 75) m_sK u2 w → z_J Γ zm_Model_siege 141 [some (.inr 63), some (.inl (nI A.length)), none, some (.inl (nI n))] [] w := by
      intro n w hn2 hall hend hRw hFw
      have en := g_n_at (E := x_E x) (s := x_s x) (v := x_v x) hall hend
      rw [en] at he
      have Hw : mH (x_s x) (x_H x) w := (w1.2.1.keepX c3' (by decide) id).keepX hFw (by decide) (by unfold m_sK; omega)
      have R77 : mR (x_s x) (x_v x) w 77 := hRw.updX (R := fun _ => False) (K := fun _ => False) mX.rf ⟨id, id, id⟩ ⟨id, id, id⟩ h.1.1 (by rw [(hFw.1 77 (by decide) (by decide)).1]; exact V77)
      have rest : ∀ w2, mH (x_s x) (if n = 0 then x_H x else a_rem (x_H x) (x_v x)) w2 → mX (fun q => q = 76) (fun k => k = 27) w w2 → z_J Γ zm_Model_siege 153 [some (.inr 63), some (.inl (nI A.length)), none, some (.inl (nI n))] [] w2 := by
        intro w2 H2 F2
        have Rw2 := hRw.keepX F2 (by decide) (by decide) (by decide) (by decide)
        have f10 : mX (fun _ => False) (fun k => k = 10) w2 (z_pI w2 63 10 (nI 0)) := mX.rf.pK rfl
        have go : ∀ y : Int32, y = (if n < A.length then nI 1 else nI 0) → z_J Γ zm_Model_siege 169 [some (.inr 63), none, none, some (.inl (nI n))] [.inl y, .inr 63] (z_pI w2 63 10 (nI 0)) := by
          intro y hy
          refine zb_Model_siege_169 (mc_tell mRow.nil (by decide) _) (by omega) (fun w3 h3 => ?_)
          obtain ⟨r3, F3⟩ := h3
          have Rw3 := (Rw2.keepX f10 (by decide) ⟨id, id, id⟩ id (by decide)).keepX F3 (by decide) (by decide) (by decide) (by decide)
          refine zb_Model_siege_172 (mc_whereBits Rw3.nb (by decide) (v := g_v (x_E x) (x_s x) A (x_v x) n) (fun b hb => ⟨Rw3.w3 b, Rw3.fw hb⟩) (by decide)) (by omega) (fun r w4 hr => ?_)
          obtain ⟨rfl, rfl⟩ := hr
          refine zb_Model_siege_182 (mc_tell r3 (by simp) _) (by omega) (fun w5 h5 => ?_)
          obtain ⟨r5, F5⟩ := h5
          refine zb_Model_siege_188 ?_
          rw [he]
          rw [hy] at r5
          have Ft : mX (fun q => q = 69) (fun k => k = 10) w2 w5 := (f10.mono (fun _ h => h.elim) (fun _ h => h)).tr (F3.tr F5)
          have FF : mW ω w5 := ((mX.mono c3' (by unfold m_aO m_sO; omega) (fun _ h => h.elim)).tr (hFw.mono (by unfold m_aO m_sO; omega) (fun _ h => Or.inl h))).tr ((F2.mono (by unfold m_aO; omega) (fun _ h => Or.inr (Or.inr h))).tr (Ft.mono (by unfold m_aO; omega) (fun _ h => Or.inr (Or.inl h))))
          have := w1.act FF (Rw2.keepX Ft (by decide) (by decide) (by decide) (by decide)) (H2.keepX Ft (by decide) (by decide)) r5
          exact ⟨_, rfl, rfl, this, z0.tr (hz2.tr (mW.zU FF))⟩
        refine zb_Model_siege_153 (fun z => ?_) (fun z => ?_)
        · rw [zn_le (by omega) (by omega)] at z
          exact zb_Model_siege_168 (go _ (by rw [if_neg (by omega)]))
        · rw [zn_le (by omega) (by omega)] at z
          exact zb_Model_siege_164 (go _ (by rw [if_pos (by omega)]))
      refine zb_Model_siege_141 (fun z => ?_) (fun z => ?_)
      · rw [e0, zn_le (by omega) (by omega)] at z
        refine rest w ?_ mX.rf
        rw [if_pos (by omega)]
        exact Hw
      · rw [e0, zn_le (by omega) (by omega)] at z
        refine zb_Model_siege_145 (mc_remember R77 Hw (by decide)) (by omega) (fun w2 h2 => ?_)
        refine rest w2 ?_ h2.2
        rw [if_neg (by omega)]
        exact h2.1
    refine zj_forM (fun k Ls w => ∃ i, k = A.length - i ∧ i ≤ A.length ∧ Ls = [some (.inr 63), some (.inl (nI A.length)), none, some (.inl (nI i))] ∧ (∀ j, j < i → g_sc (x_E x) (x_s x) A (x_v x) j = true) ∧ mR (x_s x) (g_v (x_E x) (x_s x) A (x_v x) i) w 64 ∧ mX (fun q => q = 64 ∨ q = 74 ∨ q = 75) m_sK u2 w) (fun k Ls w hI kk => ?_) A.length _ u2 ⟨0, rfl, Nat.zero_le _, rfl, fun j hj => absurd hj (by omega), R2, mX.rf⟩
    obtain ⟨i, rfl, hi, rfl, hall, hRw, hFw⟩ := hI
    refine zb_Model_siege_85 (fun z => ?_) (fun z => ?_)
    · rw [zn_le (by omega) (by omega)] at z
      exact last i w hi hall (Or.inl (by omega)) hRw hFw
    rw [zn_le (by omega) (by omega)] at z
    have hi2 : i < A.length := by omega
    have ea : A[i]? = some (A.getD i (0, [])) := by
      rw [List.getD_eq_getElem?_getD, List.getElem?_eq_getElem hi2]
      rfl
    have hm := hAI _ (List.mem_of_getElem? ea)
    have gvI := g_v_I (E := x_E x) (A := A) h.1.1 hT hAI i (by omega) (by omega)
    have e79 : w.1 79 = ω.1 79 := by rw [(hFw.1 79 (by decide) (by decide)).1, (c3 79 (by decide)).1]
    obtain ⟨k1, k2⟩ := gM0 i _ ea
    rw [← e79] at k1 k2
    have Uw : mRr (x_K x) (x_T x) w := (w1.2.2.1.keepX c3' (by decide) id).keepX hFw (by decide) (by unfold m_sK; omega)
    have hl : 0 < (A.getD i (0, [])).2.length := by
      rcases Nat.lt_or_ge 0 (A.getD i (0, [])).2.length with z | z
      · exact z
      · have hz : (A.getD i (0, [])).2.length = 0 := by omega
        have := hm.2
        rw [hz] at this
        exact absurd this (g_po0 _)
    refine zb_Model_siege_90 (k1 := 4 * i) (k2 := 4 * i + 1) (k3 := 4 * i + 2) (k4 := 4 * i + 3) (dc := 345) (P := fun r u => r = z_tf (decide (0 ≤ (g_act (x_E x) (x_s x) (g_v (x_E x) (x_s x) A (x_v x) i) (A.getD i (0, []))).1)) ∧ mR (x_s x) (g_act (x_E x) (x_s x) (g_v (x_E x) (x_s x) A (x_v x) i) (A.getD i (0, []))).2 u 64 ∧ mX (fun q => q = 64 ∨ q = 74 ∨ q = 75) m_sK w u) ⟨pk_mul _ _, by omega⟩ ⟨by rw [pk_mul, nI_add], by omega⟩ ⟨by rw [pk_mul, nI_add], by omega⟩ ⟨by rw [pk_mul, nI_add], by omega⟩ ?_ (by omega) (fun r w2 hr => ?_)
    · rw [k1]
      exact mc_act Uw.1 (by rw [Uw.2]; decide) hRw gvI.2 (by omega) hm.1 hm.2 (k2 0 hl) (fun z => k2 1 z) (fun z => k2 2 z)
    obtain ⟨rfl, R4, F4⟩ := hr
    refine zb_Model_siege_132 (fun z2 => ?_) (fun z2 => ?_)
    · rw [z_tf_eq0, decide_eq_false_iff_not] at z2
      have hno := g_act_no (E := x_E x) gvI.1 gvI.2 (by omega) hm.1 z2
      rw [hno] at R4
      exact last i w2 hi hall (Or.inr ⟨hi2, decide_eq_false z2⟩) R4 (hFw.tr F4)
    · rw [z_tf_eq0, Bool.not_eq_false, decide_eq_true_eq] at z2
      refine zb_Model_siege_135 ?_
      rw [nI_add]
      refine kk _ _ w2 (show A.length - (i + 1) < A.length - i by omega) ⟨i + 1, rfl, by omega, rfl, fun j hj => ?_, R4, hFw.tr F4⟩
      by_cases e : j = i
      · subst e
        exact decide_eq_true z2
      · exact hall j (by omega)
  refine zb_Model_siege_11 (fun z => ?_) (fun z => ?_)
  · have f := f13 (τ := rd_t ρ (x_L x) 60) zT.rf
    rw [p_s_k _ _ (by decide) (by decide), f, e0, zn_le (by omega) (by omega)] at z
    have eL : x_L x = 0 := by omega
    refine zb_Model_siege_24 (zb_Model_siege_25 (zb_Model_siege_26 (fun _ => ?_) (fun z => absurd rfl z)))
    have hb : g_b x = none := by
      show sc_b _ _ _ = none
      rw [sc_b_end (fun j hj => absurd hj (by omega)), if_pos (by simp [eL])]
    have := fin (rd_t ρ (x_L x) 60) zT.rf hb (by rw [eL]; intro j a ha; exact absurd ha (by simp [g_st, g_acts]))
    rw [eL] at this ⊢
    exact this
  have f := f13 (τ := rd_t ρ (x_L x) 60) zT.rf
  rw [p_s_k _ _ (by decide) (by decide), f, e0, zn_le (by omega) (by omega)] at z
  have hL0 : x_L x ≠ 0 := by omega
  refine zb_Model_siege_20 (zb_Model_siege_25 ?_)
  refine zj_forM (fun m Lc u => ∃ i D g τ, m = 100 - i ∧ i ≤ min (x_L x) 60 ∧ Lc = [some (.inr 63), some (.inl (nI D.length)), some (.inl (nI 1)), none] ∧ u = p_s τ (i, none) ∧ zT (fun o => o = 79) (rd_t ρ (x_L x) 60) τ ∧ (∀ j, j < i → g_okk (x_X x) j = true) ∧ g_st (x_X x) i = (D, none, g) ∧ gM D (τ.1 79)) (fun m Lc u hI kk => ?_) 100 _ _ ⟨0, [], false, rd_t ρ (x_L x) 60, rfl, Nat.zero_le _, rfl, rfl, zT.rf, fun j hj => absurd hj (by omega), rfl, fun j a ha => absurd ha (by simp)⟩
  obtain ⟨i, D, g, τ, rfl, hi, rfl, rfl, hTt, hok, hst, hgM⟩ := hI
  have hC := hC0.kT hTt (by decide) (by decide) (by rw [(rd_t_2 ρ (x_L x) 60).1]; decide)
  have hr12 : τ.2 63 12 = 68 := by rw [hTt.2]; exact (rd_t_2 ρ (x_L x) 60).1
  have hgI := gI_st i hok
  rw [hst] at hgI
  have hD20 : 3 * D.length ≤ i := hgI.2.1 rfl
  refine zb_Model_siege_26 (fun z => absurd z (by decide)) (fun _ => ?_)
  refine zb_Model_siege_30 (mn_fine (by intro p' h'; simp at h')) (by omega) (fun r u hr => ?_)
  obtain ⟨rfl, rfl⟩ := hr
  refine zb_Model_siege_34 (fun z => absurd z (by simp [z_tf]; decide)) (fun _ => ?_)
  refine zb_Model_siege_37 (dc := 5) (P := gO (x_X x) (x_L x) D.length i D τ) (by rw [pk_mul]; exact mc_readAct t1 hL0 hC hr12 hok hi hst (by omega)) (by omega) (fun u hu => ?_)
  obtain ⟨τ', q', rfl, hT', hk', hor⟩ := hu
  have hTt' : zT (fun o => o = 79) (rd_t ρ (x_L x) 60) τ' := ⟨fun o ho => (hT'.1 o ho).trans (hTt.1 o ho), hT'.2.trans hTt.2⟩
  rcases hor with ⟨a, p, rfl, ha, hp, hb⟩ | ⟨j, a, g', rfl, hij, hj, hP, hp, r0, rt, hstop⟩
  · refine zb_Model_siege_44 (mf_passes (by omega) _) (by omega) (fun r u hr => ?_)
    obtain ⟨rfl, rfl⟩ := hr
    refine zb_Model_siege_53 (zb_Model_siege_26 (fun _ => ?_) (fun z => absurd rfl z))
    exact bad _ a p τ' hTt' ha hp hb
  · have hC' := hC0.kT hTt' (by decide) (by decide) (by rw [(rd_t_2 ρ (x_L x) 60).1]; decide)
    have gM' : gM (D ++ [a]) (τ'.1 79) := hgM.snoc hk' (fun b hb => (hgI.1 b hb).1.2.1) r0 rt
    refine zb_Model_siege_44 (mc_passes hC' (q := (j, none)) ⟨hj, fun p hp => by cases hp⟩ (c := 59) (by decide)) (by omega) (fun r u hr => ?_)
    obtain ⟨rfl, rfl⟩ := hr
    rw [nI_add]
    by_cases hd : j < min (x_L x) 60 ∧ x_X x j = 59
    · rw [d_pas_t ⟨rfl, hd⟩]
      refine zb_Model_siege_53 ?_
      have okj : ∀ i, i < j + 1 → g_okk (x_X x) i = true := g_next hP.1 (by omega) (by
        rw [hP.2, hd.2]
        simp [g_ok, hp])
      have stj : g_st (x_X x) (j + 1) = (D ++ [a], none, g') := by
        rw [g_st, hP.2, hd.2]
        simp [g_go, hp]
      have el : D.length + 1 = (D ++ [a]).length := by simp
      rw [el]
      exact kk _ _ _ (show 100 - (j + 1) < 100 - i by omega) ⟨j + 1, D ++ [a], g', τ', rfl, by omega, rfl, rfl, hTt', okj, stj, gM'⟩
    · rw [d_pas_f (fun z => hd z.2)]
      refine zb_Model_siege_53 (zb_Model_siege_26 (fun _ => ?_) (fun z => absurd rfl z))
      by_cases hlt : j < x_L x
      · -- more signs
        have hbj : g_b x = some j := by
          refine sc_b_at hP.1 hlt ?_
          by_cases h60 : j < min (x_L x) 60
          · exact hstop h60 (fun z => hd ⟨h60, z⟩)
          · unfold g_okk
            rw [decide_eq_false (fun z => z (by omega))]
            rfl
        rw [hbj] at he
        refine zb_Model_siege_57 (mn_wasRight (L := x_L x) (by intro p' h'; simp at h') (by show j ≤ 100; omega) t1 (f13 hTt')) (by omega) (fun r u hr => ?_)
        have ew : d_wr (x_L x) (j, none) = (j, some j) := by
          unfold d_wr d_flt
          rw [if_pos hlt]
          rfl
        rw [ew] at hr
        obtain ⟨rfl, rfl⟩ := hr
        refine zb_Model_siege_61 (fun z => absurd (by simp [z_tf]; decide) z) (fun _ => ?_)
        refine zb_Model_siege_64 ?_
        obtain ⟨w1, w2⟩ := fR (j, some j) hTt'
        rw [he, p_s_wr]
        exact ⟨_, rfl, rfl, w1, z0.tr w2⟩
      · have eL : x_L x = j := by omega
        have hb : g_b x = none := by
          show sc_b _ _ _ = none
          rw [sc_b_end (fun i hi => hP.1 i (by omega)), if_pos]
          rw [eL, hP.2]
          have : g_fin (D, some a, g') = true := decide_eq_true hp
          rw [this, Bool.or_true]
        have ea : g_acts (g_st (x_X x) (x_L x)) = D ++ [a] := by
          rw [eL, hP.2]
          rfl
        have := fin τ' hTt' hb (by rw [ea]; exact gM')
        rw [ea] at this
        rw [eL] at this
        simp only [List.length_append, List.length_cons, List.length_nil] at this
        exact this
end
