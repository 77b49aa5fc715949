/-! what is out by a height that was seen; how many heights a column shows -/
def a_ou (s : aS) (l : List Nat) (h : Nat) : Nat → Nat × Nat × Nat
  | 0 => (0, 0, l_bits l (s_n s))
  | i + 1 => if n_dif i (l_bits l (s_n s)) = 0 ∧ l_h (s_t s) (l_bt l i) = h then ((a_ou s l h i).1 + 1, if (a_ou s l h i).1 = 0 then i else (a_ou s l h i).2.1, (a_ou s l h i).2.2 &&& i) else a_ou s l h i
abbrev a_oub (s : aS) (l : List Nat) (h : Nat) : Nat × Nat × Nat := a_ou s l h (l_bits l (s_n s) + 1)
def to_out (x : tX) (a : Int32) : Int32 × tX := if z_isn a (s_c (x_s x)) = true then (match x_e x a.toNatClampNeg with
  | none => (-2, x)
  | some h => (nI (a_oub (x_s x) (v_p (x_v x) a.toNatClampNeg) h).1, x_row x [if (a_oub (x_s x) (v_p (x_v x) a.toNatClampNeg) h).1 = 0 then -1 else nI (a_oub (x_s x) (v_p (x_v x) a.toNatClampNeg) h).2.1, if (a_oub (x_s x) (v_p (x_v x) a.toNatClampNeg) h).1 = 0 then nI 0 else nI (a_oub (x_s x) (v_p (x_v x) a.toNatClampNeg) h).2.2])) else (-1, x)
def a_shw (s : aS) (l : List Nat) : Nat → Nat × (Nat → Bool)
  | 0 => (0, fun _ => false)
  | i + 1 => if n_dif i (l_bits l (s_n s)) = 0 then ((a_shw s l i).1 + (if (a_shw s l i).2 (m_thk (s_t s) i (s_n s)) = true then 0 else 1), fun j => if j = m_thk (s_t s) i (s_n s) then true else (a_shw s l i).2 j) else a_shw s l i
abbrev a_shc (s : aS) (l : List Nat) : Nat := (a_shw s l (l_bits l (s_n s) + 1)).1
def a_lk (s : aS) (v : aV) (e : Nat → Option Nat) : Nat → Option Nat × Nat
  | 0 => (none, 0)
  | c + 1 => if e c = none ∧ (a_lk s v e c).2 < a_shc s (v_p v c) then (some c, a_shc s (v_p v c)) else a_lk s v e c
def to_look (x : tX) : Int32 × tX := match (a_lk (x_s x) (x_v x) (x_e x) (s_c (x_s x))).1 with
  | none => (-2, x)
  | some c => (nI c, x_row x [nI (a_lk (x_s x) (x_v x) (x_e x) (s_c (x_s x))).2])
theorem a_ou_le (s : aS) (l : List Nat) (h : Nat) : ∀ i, (a_ou s l h i).1 ≤ i
  | 0 => Nat.le_refl _
  | i + 1 => by
    have ih := a_ou_le s l h i
    rw [a_ou]
    split
    · show (a_ou s l h i).1 + 1 ≤ i + 1
      omega
    · omega
theorem a_shw_le (s : aS) (l : List Nat) : ∀ i, (a_shw s l i).1 ≤ i
  | 0 => Nat.le_refl _
  | i + 1 => by
    have ih := a_shw_le s l i
    rw [a_shw]
    split
    · show (a_shw s l i).1 + (if (a_shw s l i).2 (m_thk (s_t s) i (s_n s)) = true then 0 else 1) ≤ i + 1
      have : (if (a_shw s l i).2 (m_thk (s_t s) i (s_n s)) = true then 0 else 1) ≤ 1 := by split <;> omega
      omega
    · omega
section
variable {x : tX} {σ u : zS}
theorem m_thk36 {s : aS} {v : aV} (hI : aI s v) {c i : Nat} (hc : c < s_c s) (h : n_dif i (l_bits (v_p v c) (s_n s)) = 0) : m_thk (s_t s) i (s_n s) ≤ 36 := by
  have e := l_sub h
  have hl : ∀ b, b ∈ v_p v c → b < s_n s := fun b hb => ((hI.mm hc b).mp hb).1
  rw [e, m_thk_l ((hI.nd hc).filter _) (fun b hb => hl b (List.mem_filter.mp hb).1)]
  exact l_h36 (x := (s, v, [], (0, fun _ => 0), (0, fun _ => 0), [], fun _ => none, fun _ => none, 0)) hI (fun b hb => hl b (List.mem_filter.mp hb).1) (Nat.le_trans (List.length_filter_le _ _) (hI.l4 hc))
theorem mp_out (h : mA x σ) (hs : ∀ c t, x_e x c = some t → t ≤ 99) (a : Int32) : z_Ci 3 zm_Model_out [.inr 63, .inl a] σ (fun r u => r = (to_out x a).1 ∧ mA (to_out x a).2 u ∧ zU σ u) := by
  have h0 := m_t0 h
  have h6 := h.1.c6
  have hn := h.1.n
  refine z_Ci_of (by decide) (Nat.le_of_ble_eq_true rfl) (fun Γ hd he => ?_)
  show z_J Γ zm_Model_out 0 [some (.inr 63), some (.inl a), none, none, none, none, none] [] σ
  refine zb_Model_out_0 (mc_isColumn h6 h0.1.2.1.2.1 a) (by omega) (fun r u hr => ?_)
  obtain ⟨rfl, rfl⟩ := hr
  refine zb_Model_out_10 (fun k => ?_) (fun k => ?_)
  · rw [z_tf_eq0, Bool.not_eq_false] at k
    obtain ⟨c, hc, rfl⟩ := z_isn_t (by omega) k
    have et : to_out x (nI c) = (match x_e x c with
      | none => (-2, x)
      | some h => (nI (a_oub (x_s x) (v_p (x_v x) c) h).1, x_row x [if (a_oub (x_s x) (v_p (x_v x) c) h).1 = 0 then -1 else nI (a_oub (x_s x) (v_p (x_v x) c) h).2.1, if (a_oub (x_s x) (v_p (x_v x) c) h).1 = 0 then nI 0 else nI (a_oub (x_s x) (v_p (x_v x) c) h).2.2])) := by
      unfold to_out
      rw [if_pos k, nI_clamp (by omega)]
    rw [et] at he
    have hsb : se_b (x_e x) (s_c (x_s x)) < 64 := Nat.lt_of_lt_of_le (se_b_lt _ _) (Nat.pow_le_pow_right (n := 2) (by decide) h6)
    have ebit : (se_b (x_e x) (s_c (x_s x))).testBit c = (x_e x c).isSome := by rw [se_b_bit]; simp [hc]
    refine zb_Model_out_15 (dc := 0) (P := z_is (z_tf (x_e x c).isSome) (z_pI σ 63 11 (nI 0))) (by rw [h0.2.2.2.2.2.1.1, ← ebit]; exact mc_has _ c (by omega) (by omega) _) (by omega) (fun r u hr => ?_)
    obtain ⟨rfl, rfl⟩ := hr
    cases hec : x_e x c with
    | none =>
      rw [hec] at he
      refine zb_Model_out_23 (fun q => absurd rfl q) (fun _ => ?_)
      refine zb_Model_out_26 ?_
      rw [he]
      exact ⟨_, rfl, rfl, h0, mW.zU m_t0W⟩
    | some t =>
      rw [hec] at he
      have ht99 := hs c t hec
      refine zb_Model_out_23 (fun _ => ?_) (fun q => absurd q (by show ¬ z_tf true = 0; decide))
      refine zb_Model_out_29 (mc_inColumn h0.1.nb (by decide) (h0.1.I hc)) (by omega) (fun r u hr => ?_)
      obtain ⟨rfl, rfl⟩ := hr
      refine zb_Model_out_38 ?_
      have hN := h.1.1.nd hc
      have hl : ∀ b, b ∈ v_p (x_v x) c → b < s_n (x_s x) := fun b hb => ((h.1.1.mm hc b).mp hb).1
      have hal := l_bits_12 (l := v_p (x_v x) c) hn
      have e0 : (0 : Int32) = nI 0 := rfl
      have e0' : a_ou (x_s x) (v_p (x_v x) c) t 0 = (0, 0, l_bits (v_p (x_v x) c) (s_n (x_s x))) := rfl
      refine zj_for (b := l_bits (v_p (x_v x) c) (s_n (x_s x)) + 1) (fun i => [some (.inr 63), some (.inl (nI c)), some (.inl (nI (l_bits (v_p (x_v x) c) (s_n (x_s x))))), some (.inl (nI (a_ou (x_s x) (v_p (x_v x) c) t i).1)), some (.inl (if (a_ou (x_s x) (v_p (x_v x) c) t i).1 = 0 then -1 else nI (a_ou (x_s x) (v_p (x_v x) c) t i).2.1)), some (.inl (nI (a_ou (x_s x) (v_p (x_v x) c) t i).2.2)), some (.inl (nI i))]) (fun _ => z_pI σ 63 11 (nI 0)) (fun i hi kk => ?_) ?_ 0 (Nat.zero_le _)
      · refine zb_Model_out_50 (fun p => ?_) (fun _ => ?_)
        · rw [zn_lt (by omega) (by omega)] at p
          omega
        have skip : ¬ (n_dif i (l_bits (v_p (x_v x) c) (s_n (x_s x))) = 0 ∧ l_h (s_t (x_s x)) (l_bt (v_p (x_v x) c) i) = t) → z_J Γ zm_Model_out 110 [some (.inr 63), some (.inl (nI c)), some (.inl (nI (l_bits (v_p (x_v x) c) (s_n (x_s x))))), some (.inl (nI (a_ou (x_s x) (v_p (x_v x) c) t i).1)), some (.inl (if (a_ou (x_s x) (v_p (x_v x) c) t i).1 = 0 then -1 else nI (a_ou (x_s x) (v_p (x_v x) c) t i).2.1)), some (.inl (nI (a_ou (x_s x) (v_p (x_v x) c) t i).2.2)), some (.inl (nI i))] [] (z_pI σ 63 11 (nI 0)) := by
          intro p
          refine zb_Model_out_110 ?_
          rw [nI_add]
          rw [a_ou, if_neg p] at kk
          exact kk
        have hd1 := n_dif_le i (l_bits (v_p (x_v x) c) (s_n (x_s x)))
        have hd2 := n_dif_le (l_bits (v_p (x_v x) c) (s_n (x_s x))) i
        refine zb_Model_out_56 (fun p => ?_) (fun p => ?_)
        · rw [zn_andn, e0, zn_eq (by omega) (by omega)] at p
          exact skip (fun z => p z.1)
        rw [zn_andn, e0, zn_eq (by omega) (by omega)] at p
        refine zb_Model_out_65 (dc := 1) (P := z_is (nI (l_h (s_t (x_s x)) (l_bt (v_p (x_v x) c) i))) (z_pI σ 63 11 (nI 0))) ?_ (by omega) (fun r w2 hr => ?_)
        · rw [zn_andn, ← m_thk_bt hN hl]
          exact mc_thickOf h0.1.Bk (by omega)
        obtain ⟨rfl, rfl⟩ := hr
        have hb36 := l_bt36 h.1.1 hc i
        have e83 : (z_pI σ 63 11 (nI 0)).1 83 c = nI t := h0.2.2.2.2.2.1.2 c hc t hec
        refine zb_Model_out_75 (k1 := c) (z_ixn (by omega)) (fun p2 => ?_) (fun p2 => ?_)
        · rw [e83, zn_eq (by omega) (by omega)] at p2
          have hle := a_ou_le (x_s x) (v_p (x_v x) c) t i
          have e1 : a_ou (x_s x) (v_p (x_v x) c) t (i + 1) = ((a_ou (x_s x) (v_p (x_v x) c) t i).1 + 1, if (a_ou (x_s x) (v_p (x_v x) c) t i).1 = 0 then i else (a_ou (x_s x) (v_p (x_v x) c) t i).2.1, (a_ou (x_s x) (v_p (x_v x) c) t i).2.2 &&& i) := by rw [a_ou, if_pos ⟨p, p2⟩]
          have kk' : z_J Γ zm_Model_out 50 [some (.inr 63), some (.inl (nI c)), some (.inl (nI (l_bits (v_p (x_v x) c) (s_n (x_s x))))), some (.inl (nI ((a_ou (x_s x) (v_p (x_v x) c) t i).1 + 1))), some (.inl (nI (if (a_ou (x_s x) (v_p (x_v x) c) t i).1 = 0 then i else (a_ou (x_s x) (v_p (x_v x) c) t i).2.1))), some (.inl (nI ((a_ou (x_s x) (v_p (x_v x) c) t i).2.2 &&& i))), some (.inl (nI (i + 1)))] [] (z_pI σ 63 11 (nI 0)) := by
            rw [e1] at kk
            simp only at kk
            rw [if_neg (by omega)] at kk
            exact kk
          refine zb_Model_out_87 (fun p3 => ?_) (fun p3 => ?_)
          · rw [e0, zn_eq (by omega) (by omega)] at p3
            rw [if_neg p3] at kk' ⊢
            refine zb_Model_out_96 (zb_Model_out_98 (zb_Model_out_110 ?_))
            rw [nI_add, nI_add, zn_and]
            exact kk'
          · rw [e0, zn_eq (by omega) (by omega)] at p3
            rw [if_pos p3] at kk'
            refine zb_Model_out_91 (zb_Model_out_98 (zb_Model_out_110 ?_))
            rw [nI_add, nI_add, zn_and]
            exact kk'
        · rw [e83, zn_eq (by omega) (by omega)] at p2
          exact zb_Model_out_84 (skip (fun z => p2 z.2))
      · have hle := a_ou_le (x_s x) (v_p (x_v x) c) t (l_bits (v_p (x_v x) c) (s_n (x_s x)) + 1)
        refine zb_Model_out_50 (fun _ => ?_) (fun p => ?_)
        · refine zb_Model_out_116 (mc_tell mRow.nil (by decide) _) (by omega) (fun u2 h2 => ?_)
          obtain ⟨r1, r2⟩ := h2
          have last : ∀ y : Int32, y = (if (a_oub (x_s x) (v_p (x_v x) c) t).1 = 0 then nI 0 else nI (a_oub (x_s x) (v_p (x_v x) c) t).2.2) → z_J Γ zm_Model_out 138 [none, none, none, some (.inl (nI (a_oub (x_s x) (v_p (x_v x) c) t).1)), none, none, none] [.inl y, .inr 63] u2 := by
            intro y hy
            refine zb_Model_out_138 (mc_tell r1 (by simp) _) (by omega) (fun u3 h3 => ?_)
            obtain ⟨r3, r4⟩ := h3
            refine zb_Model_out_141 ?_
            rw [he]
            rw [hy] at r3
            exact ⟨_, rfl, rfl, h.row (mQ.t0.tr (mQ.r0.tr ((mQ.tl r2).tr (mQ.tl r4)))) r3⟩
          refine zb_Model_out_127 (fun p3 => ?_) (fun p3 => ?_)
          · rw [e0, zn_eq (by omega) (by omega)] at p3
            exact zb_Model_out_136 (last _ (by rw [if_neg p3]))
          · rw [e0, zn_eq (by omega) (by omega)] at p3
            exact zb_Model_out_132 (last _ (by rw [if_pos p3]))
        · rw [zn_lt (by omega) (by omega)] at p
          omega
  · rw [z_tf_eq0] at k
    refine zb_Model_out_13 ?_
    rw [he, to_out, if_neg (by rw [k]; decide)]
    exact ⟨_, rfl, rfl, h0, mW.zU m_t0W⟩
theorem mc_shows (h : mA x σ) {c : Nat} (hc : c < s_c (x_s x)) : z_Ci 2 zm_Model_shows [.inr 63, .inl (nI c)] σ (fun r u => r = nI (a_shc (x_s x) (v_p (x_v x) c)) ∧ z_fr (fun q => q = 84) σ u) := by
  have hn := h.1.n
  have hal := l_bits_12 (l := v_p (x_v x) c) hn
  have e0 : (0 : Int32) = nI 0 := rfl
  have eb0 : vp_nar .boolean (nI 0) = nI 0 := by decide
  have eb1 : vp_nar .boolean (nI 1) = nI 1 := by decide
  refine z_Ci_of (by decide) (Nat.le_of_ble_eq_true rfl) (fun Γ hd he => ?_)
  show z_J Γ zm_Model_shows 0 [some (.inr 63), some (.inl (nI c)), none, none, none] [] σ
  refine zb_Model_shows_0 (mc_inColumn h.1.nb (by decide) (h.1.I hc)) (by omega) (fun r u hr => ?_)
  obtain ⟨rfl, rfl⟩ := hr
  refine zb_Model_shows_9 ?_
  refine zj_forS (b := 37) (fun i => [some (.inr 63), none, some (.inl (nI (l_bits (v_p (x_v x) c) (s_n (x_s x))))), some (.inl (nI 0)), some (.inl (nI i))])
    (fun i w => (∀ j, j < i → w.1 84 j = nI 0) ∧ z_fr (fun q => q = 84) u w) (fun i w hi hI kk => ?_) (fun w hI => ?_) 0 (Nat.zero_le _) _ ⟨fun _ q => absurd q (by omega), z_fr.rf⟩
  · refine zb_Model_shows_15 (fun q => absurd q (nI_ge hi (by omega))) (fun _ => ?_)
    refine zb_Model_shows_25 (k1 := i) (z_ixn (by omega)) ?_
    rw [nI_add, eb0]
    refine kk _ ⟨fun j hj => ?_, hI.2.pI rfl⟩
    by_cases e : j = i
    · subst e; exact z_pI_at _ _ _ _
    · rw [z_pI_ne2 e]; exact hI.1 j (by omega)
  · refine zb_Model_shows_15 (fun _ => ?_) (fun q => absurd (Int32.le_refl _) q)
    refine zb_Model_shows_39 ?_
    obtain ⟨hz, hf⟩ := hI
    refine zj_forS (b := l_bits (v_p (x_v x) c) (s_n (x_s x)) + 1) (fun i => [some (.inr 63), none, some (.inl (nI (l_bits (v_p (x_v x) c) (s_n (x_s x))))), some (.inl (nI (a_shw (x_s x) (v_p (x_v x) c) i).1)), some (.inl (nI i))])
      (fun i w => (∀ j, j < 37 → w.1 84 j = z_tf ((a_shw (x_s x) (v_p (x_v x) c) i).2 j)) ∧ z_fr (fun q => q = 84) u w) (fun i w hi hI kk => ?_) (fun w hI => ?_) 0 (Nat.zero_le _) _ ⟨fun j hj => hz j hj, hf⟩
    · obtain ⟨q1, q2⟩ := hI
      have fX : mX m_sO m_sK u w := q2.X (by decide) (by unfold m_sO; omega)
      have hw := (h.low fX).1
      refine zb_Model_shows_42 (fun p => ?_) (fun _ => ?_)
      · rw [zn_lt (by omega) (by omega)] at p
        omega
      have hd1 := n_dif_le i (l_bits (v_p (x_v x) c) (s_n (x_s x)))
      refine zb_Model_shows_48 (fun p => ?_) (fun p => ?_)
      · rw [zn_andn, e0, zn_eq (by omega) (by omega)] at p
        have h36 := m_thk36 h.1.1 hc p
        refine zb_Model_shows_60 (mc_thickOf hw.1.Bk (by omega)) (by omega) (fun r w2 hr => ?_)
        obtain ⟨rfl, rfl⟩ := hr
        have last : ∀ y : Nat, y = (if (a_shw (x_s x) (v_p (x_v x) c) i).2 (m_thk (s_t (x_s x)) i (s_n (x_s x))) = true then 0 else 1) → z_J Γ zm_Model_shows 80 [some (.inr 63), none, some (.inl (nI (l_bits (v_p (x_v x) c) (s_n (x_s x))))), none, some (.inl (nI i))] [.inl (nI y), .inl (nI (a_shw (x_s x) (v_p (x_v x) c) i).1)] w2 := by
          intro y hy
          refine zb_Model_shows_80 (mc_thickOf hw.1.Bk (by omega)) (by omega) (fun r w3 hr => ?_)
          obtain ⟨rfl, rfl⟩ := hr
          refine zb_Model_shows_92 (k1 := m_thk (s_t (x_s x)) i (s_n (x_s x))) (z_ixn (by omega)) (zb_Model_shows_94 ?_)
          rw [nI_add, nI_add, eb1, hy]
          rw [a_shw, if_pos p] at kk
          refine kk _ ⟨fun j hj => ?_, q2.pI rfl⟩
          show _ = z_tf (if j = _ then true else _)
          by_cases e : j = m_thk (s_t (x_s x)) i (s_n (x_s x))
          · rw [if_pos e, e, z_pI_at]
            rfl
          · rw [if_neg e, z_pI_ne2 e]
            exact q1 j hj
        refine zb_Model_shows_71 (k1 := m_thk (s_t (x_s x)) i (s_n (x_s x))) (z_ixn (by omega)) (fun p2 => ?_) (fun p2 => ?_)
        · rw [q1 _ (by omega), z_tf_eq0] at p2
          exact zb_Model_shows_79 (last 1 (by rw [if_neg (by rw [p2]; decide)]))
        · rw [q1 _ (by omega), z_tf_eq0, Bool.not_eq_false] at p2
          exact zb_Model_shows_75 (last 0 (by rw [if_pos p2]))
      · rw [zn_andn, e0, zn_eq (by omega) (by omega)] at p
        refine zb_Model_shows_57 (zb_Model_shows_94 ?_)
        rw [nI_add]
        rw [a_shw, if_neg p] at kk
        exact kk w ⟨q1, q2⟩
    · refine zb_Model_shows_42 (fun _ => ?_) (fun p => ?_)
      · refine zb_Model_shows_100 ?_
        rw [he]
        exact ⟨_, rfl, rfl, hI.2⟩
      · rw [zn_lt (by omega) (by omega)] at p
        omega
theorem mp_look (h : mA x σ) : z_Ci 4 zm_Model_look [.inr 63] σ (fun r u => r = (to_look x).1 ∧ mA (to_look x).2 u ∧ zU σ u) := by
  have h0 := m_t0 h
  have h6 := h.1.c6
  have hn := h.1.n
  have hsb : se_b (x_e x) (s_c (x_s x)) < 64 := Nat.lt_of_lt_of_le (se_b_lt _ _) (Nat.pow_le_pow_right (n := 2) (by decide) h6)
  have hsh : ∀ c, a_shc (x_s x) (v_p (x_v x) c) ≤ 4096 := fun c => by
    have h1 := a_shw_le (x_s x) (v_p (x_v x) c) (l_bits (v_p (x_v x) c) (s_n (x_s x)) + 1)
    have h2 := l_bits_12 (l := v_p (x_v x) c) hn
    show (a_shw (x_s x) (v_p (x_v x) c) (l_bits (v_p (x_v x) c) (s_n (x_s x)) + 1)).1 ≤ 4096
    omega
  have hlk : ∀ c, (a_lk (x_s x) (x_v x) (x_e x) c).2 ≤ 4096 ∧ ∀ i, (a_lk (x_s x) (x_v x) (x_e x) c).1 = some i → i < c := by
    intro c
    induction c with
    | zero => exact ⟨Nat.zero_le _, fun i hi => absurd hi (by simp [a_lk])⟩
    | succ c ih =>
      rw [a_lk]
      split
      · exact ⟨hsh c, fun i hi => by have : c = i := Option.some.inj hi; omega⟩
      · exact ⟨ih.1, fun i hi => by have := ih.2 i hi; omega⟩
  refine z_Ci_of (by decide) (Nat.le_of_ble_eq_true rfl) (fun Γ hd he => ?_)
  show z_J Γ zm_Model_look 0 [some (.inr 63), none, none, none] [] σ
  refine zb_Model_look_0 ?_
  let w2 : Option Nat → Int32 := fun o => match o with
    | none => -2
    | some c => nI c
  refine zj_forS (b := s_c (x_s x)) (fun i => [some (.inr 63), some (.inl (w2 (a_lk (x_s x) (x_v x) (x_e x) i).1)), some (.inl (nI (a_lk (x_s x) (x_v x) (x_e x) i).2)), some (.inl (nI i))])
    (fun _ w => mX m_sO m_sK (z_pI σ 63 11 (nI 0)) w) (fun i w hi hI kk => ?_) (fun w hI => ?_) 0 (Nat.zero_le _) _ mX.rf
  · have hw := (h0.low hI).1
    refine zb_Model_look_12 (fun q => ?_) (fun _ => ?_)
    · rw [hw.1.2.1.2.1] at q
      exact absurd q (nI_ge hi (by omega))
    have skip : ∀ w', mX m_sO m_sK (z_pI σ 63 11 (nI 0)) w' → ¬ (x_e x i = none ∧ (a_lk (x_s x) (x_v x) (x_e x) i).2 < a_shc (x_s x) (v_p (x_v x) i)) → z_J Γ zm_Model_look 51 [some (.inr 63), some (.inl (w2 (a_lk (x_s x) (x_v x) (x_e x) i).1)), some (.inl (nI (a_lk (x_s x) (x_v x) (x_e x) i).2)), some (.inl (nI i))] [] w' := by
      intro w' hw' p
      refine zb_Model_look_51 ?_
      rw [nI_add]
      rw [a_lk, if_neg p] at kk
      exact kk w' hw'
    have ebit : (se_b (x_e x) (s_c (x_s x))).testBit i = (x_e x i).isSome := by rw [se_b_bit]; simp [hi]
    refine zb_Model_look_20 (dc := 0) (P := z_is (z_tf (x_e x i).isSome) w) (by rw [hw.2.2.2.2.2.1.1, ← ebit]; exact mc_has _ i (by omega) (by omega) _) (by omega) (fun r u hr => ?_)
    obtain ⟨rfl, rfl⟩ := hr
    refine zb_Model_look_28 (fun q => ?_) (fun q => ?_)
    · rw [z_tf_eq0, Bool.not_eq_false] at q
      refine skip _ hI (fun z => ?_)
      rw [z.1] at q
      exact absurd q (by decide)
    rw [z_tf_eq0] at q
    have hnone : x_e x i = none := Option.not_isSome_iff_eq_none.mp (by rw [q]; decide)
    refine zb_Model_look_31 (mc_shows hw hi) (by omega) (fun r w2' hr => ?_)
    obtain ⟨rfl, hF2⟩ := hr
    have f2 : mX m_sO m_sK (z_pI σ 63 11 (nI 0)) w2' := hI.tr (hF2.X (by decide) (by unfold m_sO; omega))
    have b1 := hsh i
    have b2 := (hlk i).1
    refine zb_Model_look_36 (fun p => ?_) (fun p => ?_)
    · rw [zn_lt (by omega) (by omega)] at p
      refine zb_Model_look_43 (mc_shows (h0.low f2).1 hi) (by omega) (fun r w3 hr => ?_)
      obtain ⟨rfl, hF3⟩ := hr
      have f3 : mX m_sO m_sK (z_pI σ 63 11 (nI 0)) w3 := f2.tr (hF3.X (by decide) (by unfold m_sO; omega))
      refine zb_Model_look_50 (zb_Model_look_51 ?_)
      rw [nI_add]
      rw [a_lk, if_pos ⟨hnone, p⟩] at kk
      exact kk w3 f3
    · rw [zn_lt (by omega) (by omega)] at p
      exact zb_Model_look_40 (skip _ f2 (fun z => p z.2))
  · have hw := (h0.low hI).1
    refine zb_Model_look_12 (fun _ => ?_) (fun q => ?_)
    · cases hk : (a_lk (x_s x) (x_v x) (x_e x) (s_c (x_s x))).1 with
      | none =>
        refine zb_Model_look_57 (fun q => absurd q (by show ¬ (0 : Int32) ≤ -2; decide)) (fun _ => ?_)
        refine zb_Model_look_61 ?_
        have et : to_look x = (-2, x) := by unfold to_look; rw [hk]
        rw [he, et]
        exact ⟨_, rfl, rfl, hw, (mW.zU m_t0W).tr (h0.low hI).2⟩
      | some c =>
        have hc := (hlk (s_c (x_s x))).2 c hk
        refine zb_Model_look_57 (fun _ => ?_) (fun q => absurd (zn_ge0 (show c < 2147483648 by omega)) q)
        refine zb_Model_look_64 (mc_tell mRow.nil (by decide) _) (by omega) (fun u2 h2 => ?_)
        obtain ⟨r1, r2⟩ := h2
        refine zb_Model_look_74 ?_
        have et : to_look x = (nI c, x_row x [nI (a_lk (x_s x) (x_v x) (x_e x) (s_c (x_s x))).2]) := by unfold to_look; rw [hk]
        rw [he, et]
        exact ⟨_, rfl, rfl, h.row (mQ.t0.tr ((mQ.of hI).tr (mQ.r0.tr (mQ.tl r2)))) r1⟩
    · rw [hw.1.2.1.2.1] at q
      exact absurd (Int32.le_refl _) q
end
