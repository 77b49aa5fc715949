/-! the model: build, calls, tallest -/
theorem a_bw_bit (v : aV) (w : Nat) : ∀ n b, (a_bw v w n).testBit b = decide (b < n ∧ v_w v b = w)
  | 0, b => by simp [a_bw]
  | n + 1, b => by
    have ih := a_bw_bit v w n b
    rw [a_bw]
    by_cases q : v_w v n = w
    · rw [if_pos q, Nat.testBit_or, ih, Nat.testBit_two_pow]
      by_cases e : n = b
      · subst e
        simp [q]
      · have : (b < n + 1 ∧ v_w v b = w) ↔ (b < n ∧ v_w v b = w) := by
          constructor
          · rintro ⟨h1, h2⟩; exact ⟨by omega, h2⟩
          · rintro ⟨h1, h2⟩; exact ⟨by omega, h2⟩
        simp [e, this]
    · rw [if_neg q, ih]
      have : (b < n + 1 ∧ v_w v b = w) ↔ (b < n ∧ v_w v b = w) := by
        constructor
        · rintro ⟨h1, h2⟩
          refine ⟨?_, h2⟩
          by_cases e : b = n
          · subst e; exact absurd h2 q
          · omega
        · rintro ⟨h1, h2⟩; exact ⟨by omega, h2⟩
      simp only [this]
theorem a_bw_12 {v : aV} {w n : Nat} (hn : n ≤ 12) : a_bw v w n < 4096 := by
  rcases Nat.lt_or_ge (a_bw v w n) 4096 with q | q
  · exact q
  · exfalso
    obtain ⟨i, hi, hb⟩ := Nat.exists_ge_and_testBit_of_ge_two_pow (n := 12) q
    rw [a_bw_bit, decide_eq_true_eq] at hb
    omega
/-- the books that are at a place -/
def b_S (s : aS) (v : aV) (w : Nat) : List Nat := b_sk (a_bw v w (s_n s)) (s_n s) 0
theorem b_S_bc {s : aS} {v : aV} {w : Nat} (hn : s_n s ≤ 12) : n_bc (a_bw v w (s_n s)) = (b_S s v w).length := by
  unfold n_bc b_S b_sk
  rw [m_thk_sum, List.drop_zero]
  have e : (List.range 12).filter (fun b => (a_bw v w (s_n s)).testBit b) = (List.range (s_n s)).filter (fun b => (a_bw v w (s_n s)).testBit b) := by
    obtain ⟨d, hd⟩ : ∃ d, 12 = s_n s + d := ⟨12 - s_n s, by omega⟩
    rw [hd, List.range_add, List.filter_append]
    have : ((List.range d).map (fun x => s_n s + x)).filter (fun b => (a_bw v w (s_n s)).testBit b) = [] := by
      rw [List.filter_eq_nil_iff]
      intro b hb
      rw [List.mem_map] at hb
      obtain ⟨y, -, rfl⟩ := hb
      rw [a_bw_bit, decide_eq_true_eq]
      omega
    rw [this, List.append_nil]
  rw [e, List.map_const']
  simp
def to_bld (x : tX) (w h : Nat) : Int32 × tX := match b_bst (x_E x) (x_s x) (v_y (x_v x)) h 6 (v_p (x_v x)) (b_S (x_s x) (x_v x) w) with
  | none => (-2, x)
  | some t => (nI t.length, x_row x ((b_fa t).map nI))
def to_builds (w : Nat) (x : tX) (a : Int32) : Int32 × tX := if nI 0 ≤ a ∧ a ≤ nI 99 then (if (b_S (x_s x) (x_v x) w).length ≤ 6 then to_bld x w a.toNatClampNeg else (-3, x)) else (-1, x)
def b_top (x : tX) : Nat := b_mx (x_E x) (x_s x) (v_y (x_v x)) 6 (v_p (x_v x)) (b_S (x_s x) (x_v x) 0) 0
def to_tallest (x : tX) : Int32 × tX := if (b_S (x_s x) (x_v x) 0).length ≤ 6 then (nI (b_top x), x_row x [(to_bld x 0 (b_top x)).1]) else (-3, x)
section
variable {x : tX} {σ u : zS}
theorem m_cp78 (h : mA x σ) {u2 : zS} (p1 : ∀ i, i < 53 → u2.1 78 (0 + i) = σ.1 64 i) (p3 : z_fr (fun q => q = 78) σ u2) : mX m_sO m_sK σ u2 ∧ mR (x_s x) (x_v x) u2 78 ∧ mRr (x_K x) (x_T x) u2 := by
  have f1 : mX m_sO m_sK σ u2 := p3.X (by decide) (by unfold m_sO; omega)
  exact ⟨f1, h.1.updX f1 (by unfold m_sK; omega) (by unfold m_sO; omega) h.1.1 (h.1.2.2.congr h.1.n h.1.r4 (fun k hk => by have := p1 k hk; rw [Nat.zero_add] at this; rw [this])), h.2.2.1.keepX f1 (by unfold m_sO; omega) (by unfold m_sK; omega)⟩
theorem mc_tellBuild (h : mA x σ) {w hh : Nat} (hw : w ≠ 1) (hh9 : hh ≤ 99) (hl : (b_S (x_s x) (x_v x) w).length ≤ 6) : z_Ci 354 zm_Model_tellBuild [.inr 63, .inl (nI (a_bw (x_v x) w (s_n (x_s x)))), .inl (nI hh)] σ (fun r u => r = (to_bld x w hh).1 ∧ mA (to_bld x w hh).2 u ∧ mQ σ u) := by
  have hn := h.1.n
  refine z_Ci_of (by decide) (Nat.le_of_ble_eq_true rfl) (fun Γ hd he => ?_)
  show z_J Γ zm_Model_tellBuild 0 [some (.inr 63), some (.inl (nI (a_bw (x_v x) w (s_n (x_s x))))), some (.inl (nI hh)), none] [] σ
  refine zb_Model_tellBuild_0 (mc_copy (a0 := 64) (a1 := 78) (n1 := 53) (k := 0) (by decide) (by decide) (by decide) (by decide) (by decide)) (by omega) (fun u2 h2 => ?_)
  obtain ⟨p1, -, p3⟩ := h2
  obtain ⟨f1, R2, U2⟩ := m_cp78 h p1 p3
  have fX : mX bO m_sK u2 (z_pI u2 63 35 (nI 1000000)) := mX.pK mX.rf (by unfold m_sK; omega)
  have R3 := R2.keepX fX (by unfold m_sK; omega) (by unfold bO; omega) (by unfold bO; omega) (by decide)
  have U3 : mRr (x_K x) (x_T x) (z_pI u2 63 35 (nI 1000000)) := U2.keepX fX (by unfold bO; omega) (by unfold m_sK; omega)
  have hg := mb_A (a_bw_12 (v := x_v x) (w := w) hn) hh9 6 0 0 [] (1000000, []) (x_v x) (z_pI u2 63 35 (nI 1000000)) R3 U3 rfl (Nat.zero_le _) (fun b _ hb hbt => by
    rw [a_bw_bit, decide_eq_true_eq] at hbt
    rw [hbt.2]
    exact hw) hl rfl (Nat.le_refl _) (fun i hi => absurd hi (by simp)) ⟨z_pI_at _ _ _ _, Nat.le_refl _, fun z => absurd rfl z⟩
  refine zb_Model_tellBuild_12 hg (by omega) (fun u4 h4 => ?_)
  obtain ⟨M4, F4, -⟩ := h4
  have f4 : mX m_sO m_sK σ u4 := f1.tr (mX.tr (mX.pK mX.rf (by unfold m_sK; omega)) (F4.mono (by unfold bO m_sO; omega) (fun _ q => q)))
  have ebs : b_bst (tE (x_K x) (x_T x)) (x_s x) (v_y (x_v x)) hh 6 (v_p (x_v x)) (b_sk (a_bw (x_v x) w (s_n (x_s x))) (s_n (x_s x)) 0) = b_bst (x_E x) (x_s x) (v_y (x_v x)) hh 6 (v_p (x_v x)) (b_S (x_s x) (x_v x) w) := rfl
  have M4' : bMA (b_co (1000000, []) 0 [] (b_bst (x_E x) (x_s x) (v_y (x_v x)) hh 6 (v_p (x_v x)) (b_S (x_s x) (x_v x) w))) u4 := M4
  have hok := b_bst_ok (E := x_E x) (s := x_s x) (dy := v_y (x_v x)) (h := hh) 6 (v_p (x_v x)) (b_S (x_s x) (x_v x) w)
  cases hb : b_bst (x_E x) (x_s x) (v_y (x_v x)) hh 6 (v_p (x_v x)) (b_S (x_s x) (x_v x) w) with
  | none =>
    rw [hb] at M4'
    have et : to_bld x w hh = (-2, x) := by unfold to_bld; rw [hb]
    refine zb_Model_tellBuild_30 (fun z => absurd M4'.1 z) (fun _ => ?_)
    refine zb_Model_tellBuild_39 ?_
    rw [he, et]
    exact ⟨_, rfl, rfl, (h.low f4).1, mQ.of f4⟩
  | some t =>
    rw [hb] at M4'
    have et : to_bld x w hh = (nI t.length, x_row x ((b_fa t).map nI)) := by unfold to_bld; rw [hb]
    have ht : t.length ≤ 6 := by
      have := (b_va_sub _ _ _ (hok t hb).1).length_le
      rw [List.length_map] at this
      omega
    have ec : b_co (1000000, []) 0 [] (some t) = (t.length, b_fa t) := by
      show (if 0 + t.length < 1000000 then (0 + t.length, [] ++ b_fa t) else _) = _
      rw [if_pos (by omega), Nat.zero_add, List.nil_append]
    rw [ec] at M4'
    obtain ⟨g1, -, g3⟩ := M4'
    obtain ⟨-, g4, g5⟩ := g3 (by show t.length ≠ _; omega)
    refine zb_Model_tellBuild_30 (fun _ => ?_) (fun z => absurd z (by rw [g1]; exact fun q => absurd ((zn_eq (b := 1000000) (by show t.length < _; omega) (by omega)).mp q) (by show t.length ≠ _; omega)))
    refine zb_Model_tellBuild_42 ?_
    have hfl := b_fa_len t
    refine zj_forS (b := 2 * t.length) (fun i => [some (.inr 63), none, none, some (.inl (nI i))])
      (fun i w => mRow (((b_fa t).take i).map nI) w ∧ mQ σ w ∧ w.1 63 35 = nI t.length ∧ w.1 81 = u4.1 81) (fun i w hi hI kk => ?_) (fun w hI => ?_) 0 (Nat.zero_le _) _ ⟨mRow.nil, (mQ.of f4).tr mQ.r0, by rw [z_pI_ne2 (by decide)]; exact g1, by rw [z_pI_ne (by decide)]⟩
    · obtain ⟨i1, i2, i3, i4⟩ := hI
      refine zb_Model_tellBuild_49 (fun z => ?_) (fun _ => ?_)
      · rw [i3, pk_mul, zn_le (by omega) (by omega)] at z
        omega
      refine zb_Model_tellBuild_59 (k1 := i) (z_ixn (by omega)) (mc_tell i1 (by simp; omega) _) (by omega) (fun w2 h2 => ?_)
      obtain ⟨r1, r2⟩ := h2
      refine zb_Model_tellBuild_69 ?_
      rw [nI_add]
      refine kk w2 ⟨?_, i2.tr (mQ.tl r2), by rw [r2.2.1 35 (by decide)]; exact i3, by rw [(r2.1 81 (by decide) (by decide)).1]; exact i4⟩
      have e : ((b_fa t).take (i + 1)).map nI = ((b_fa t).take i).map nI ++ [w.1 81 i] := by
        rw [List.take_succ, List.map_append, i4, g5 i (by show i < (b_fa t).length; omega)]
        congr 1
        rw [List.getElem?_eq_getElem (by omega)]
        simp only [List.getD_eq_getElem?_getD]
        rw [List.getElem?_eq_getElem (by omega)]
        rfl
      rw [e]
      exact r1
    · obtain ⟨i1, i2, i3, i4⟩ := hI
      refine zb_Model_tellBuild_49 (fun _ => ?_) (fun z => absurd (by rw [i3, pk_mul]; exact Int32.le_refl _) z)
      refine zb_Model_tellBuild_75 ?_
      rw [he, et, i3]
      rw [List.take_of_length_le (by omega)] at i1
      exact ⟨_, rfl, rfl, (h.row i2 i1).1, i2⟩
theorem mc_builds (h : mA x σ) {w : Nat} (hw : w ≠ 1) (a : Int32) : z_Ci 355 zm_Model_builds [.inr 63, .inl (nI (a_bw (x_v x) w (s_n (x_s x)))), .inl a] σ (fun r u => r = (to_builds w x a).1 ∧ mA (to_builds w x a).2 u ∧ mQ σ u) := by
  have hn := h.1.n
  refine z_Ci_of (by decide) (Nat.le_of_ble_eq_true rfl) (fun Γ hd he => ?_)
  show z_J Γ zm_Model_builds 0 [some (.inr 63), some (.inl (nI (a_bw (x_v x) w (s_n (x_s x))))), some (.inl a)] [] σ
  have hS := b_S_bc (s := x_s x) (v := x_v x) (w := w) hn
  have hle := n_bc_le (a_bw (x_v x) w (s_n (x_s x)))
  refine zb_Model_builds_0 (mc_in _ _ _ _) (by omega) (fun r u hr => ?_)
  obtain ⟨rfl, rfl⟩ := hr
  refine zb_Model_builds_7 (fun k => ?_) (fun k => ?_)
  rotate_left
  · rw [z_tf_eq0] at k
    refine zb_Model_builds_10 ?_
    rw [he, to_builds, if_neg (fun q => by simp [q.1, q.2] at k)]
    exact ⟨_, rfl, rfl, h, mX.rf⟩
  rw [z_tf_eq0, Bool.not_eq_false, Bool.and_eq_true, decide_eq_true_eq, decide_eq_true_eq] at k
  obtain ⟨n, hn1, rfl⟩ := z_0to (by decide) k
  refine zb_Model_builds_12 (by omega) (fun z => ?_) (fun z => ?_)
  · rw [zn_bc _ (a_bw_12 hn), zn_le (by unfold n_bc at hle; omega) (by omega)] at z
    have z' : (b_S (x_s x) (x_v x) w).length ≤ 6 := by rw [← hS]; exact z
    refine zb_Model_builds_26 (mc_tellBuild h hw (hh := n) (by omega) z') (by omega) (fun r u' hr => ?_)
    obtain ⟨r1, r2, r3⟩ := hr
    refine zb_Model_builds_32 ?_
    rw [he, to_builds, if_pos k, if_pos z', nI_clamp (by omega)]
    exact ⟨_, rfl, r1, r2, r3⟩
  · rw [zn_bc _ (a_bw_12 hn), zn_le (by unfold n_bc at hle; omega) (by omega)] at z
    have z' : ¬ (b_S (x_s x) (x_v x) w).length ≤ 6 := by rw [← hS]; exact z
    refine zb_Model_builds_21 (zb_Model_builds_32 ?_)
    rw [he, to_builds, if_pos k, if_neg z']
    exact ⟨_, rfl, rfl, h, mX.rf⟩
theorem mp_build (h : mA x σ) (a : Int32) : z_Ci 356 zm_Model_build [.inr 63, .inl a] σ (fun r u => r = (to_builds 0 x a).1 ∧ mA (to_builds 0 x a).2 u ∧ zU σ u) := by
  have h0 := m_t0 h
  refine z_Ci_of (by decide) (Nat.le_of_ble_eq_true rfl) (fun Γ hd he => ?_)
  show z_J Γ zm_Model_build 0 [some (.inr 63), some (.inl a)] [] σ
  refine zb_Model_build_0 (mc_whereBits h0.1.nb (by decide) (v := x_v x) (fun b hb => ⟨h0.1.w3 b, h0.1.fw hb⟩) (by decide)) (by omega) (fun r u hr => ?_)
  obtain ⟨rfl, rfl⟩ := hr
  refine zb_Model_build_15 (mc_builds h0 (w := 0) (by decide) a) (by omega) (fun r u hr => ?_)
  obtain ⟨r1, r2, r3⟩ := hr
  refine zb_Model_build_19 ?_
  rw [he]
  exact ⟨_, rfl, r1, r2, (mQ.t0.tr r3).zU (by unfold m_sO; omega)⟩
theorem mp_calls (h : mA x σ) (a : Int32) : z_Ci 356 zm_Model_calls [.inr 63, .inl a] σ (fun r u => r = (to_builds 2 x a).1 ∧ mA (to_builds 2 x a).2 u ∧ zU σ u) := by
  have h0 := m_t0 h
  refine z_Ci_of (by decide) (Nat.le_of_ble_eq_true rfl) (fun Γ hd he => ?_)
  show z_J Γ zm_Model_calls 0 [some (.inr 63), some (.inl a)] [] σ
  refine zb_Model_calls_0 (mc_whereBits h0.1.nb (by decide) (v := x_v x) (fun b hb => ⟨h0.1.w3 b, h0.1.fw hb⟩) (by decide)) (by omega) (fun r u hr => ?_)
  obtain ⟨rfl, rfl⟩ := hr
  refine zb_Model_calls_15 (mc_builds h0 (w := 2) (by decide) a) (by omega) (fun r u hr => ?_)
  obtain ⟨r1, r2, r3⟩ := hr
  refine zb_Model_calls_19 ?_
  rw [he]
  exact ⟨_, rfl, r1, r2, (mQ.t0.tr r3).zU (by unfold m_sO; omega)⟩
theorem mp_tallest (h : mA x σ) : z_Ci 356 zm_Model_tallest [.inr 63] σ (fun r u => r = (to_tallest x).1 ∧ mA (to_tallest x).2 u ∧ zU σ u) := by
  have h0 := m_t0 h
  have hn := h.1.n
  have hS := b_S_bc (s := x_s x) (v := x_v x) (w := 0) hn
  have hle := n_bc_le (a_bw (x_v x) 0 (s_n (x_s x)))
  refine z_Ci_of (by decide) (Nat.le_of_ble_eq_true rfl) (fun Γ hd he => ?_)
  show z_J Γ zm_Model_tallest 0 [some (.inr 63), none, none, none] [] σ
  refine zb_Model_tallest_0 (mc_whereBits h0.1.nb (by decide) (v := x_v x) (fun b hb => ⟨h0.1.w3 b, h0.1.fw hb⟩) (by decide)) (by omega) (fun r u hr => ?_)
  obtain ⟨rfl, rfl⟩ := hr
  refine zb_Model_tallest_14 (by omega) (fun z => ?_) (fun z => ?_)
  rotate_left
  · rw [zn_bc _ (a_bw_12 hn), zn_le (by unfold n_bc at hle; omega) (by omega)] at z
    have z' : ¬ (b_S (x_s x) (x_v x) 0).length ≤ 6 := by rw [← hS]; exact z
    refine zb_Model_tallest_24 ?_
    rw [he, to_tallest, if_neg z']
    exact ⟨_, rfl, rfl, h0, mW.zU m_t0W⟩
  rw [zn_bc _ (a_bw_12 hn), zn_le (by unfold n_bc at hle; omega) (by omega)] at z
  have z' : (b_S (x_s x) (x_v x) 0).length ≤ 6 := by rw [← hS]; exact z
  refine zb_Model_tallest_27 (mc_copy (a0 := 64) (a1 := 78) (n1 := 53) (k := 0) (by decide) (by decide) (by decide) (by decide) (by decide)) (by omega) (fun u2 h2 => ?_)
  obtain ⟨p1, -, p3⟩ := h2
  obtain ⟨f1, R2, U2⟩ := m_cp78 h0 p1 p3
  have fX : mX bO m_sK u2 (z_pI u2 63 36 (nI 0)) := mX.pK mX.rf (by unfold m_sK; omega)
  have R3 := R2.keepX fX (by unfold m_sK; omega) (by unfold bO; omega) (by unfold bO; omega) (by decide)
  have U3 : mRr (x_K x) (x_T x) (z_pI u2 63 36 (nI 0)) := U2.keepX fX (by unfold bO; omega) (by unfold m_sK; omega)
  have hg := mb_B (a_bw_12 (v := x_v x) (w := 0) hn) 6 0 0 [] 0 (x_v x) (z_pI u2 63 36 (nI 0)) R3 U3 rfl (Nat.zero_le _) (fun b _ hb hbt => by
    rw [a_bw_bit, decide_eq_true_eq] at hbt
    rw [hbt.2]
    decide) z' rfl (Nat.le_refl _) (fun i hi => absurd hi (by simp)) ⟨z_pI_at _ _ _ _, Nat.zero_le _⟩
  refine zb_Model_tallest_39 hg (by omega) (fun u4 h4 => ?_)
  obtain ⟨M4, F4, -⟩ := h4
  have M4' : bMB (b_top x) u4 := M4
  have f4 : mX m_sO m_sK (z_pI σ 63 11 (nI 0)) u4 := f1.tr (mX.tr (mX.pK mX.rf (by unfold m_sK; omega)) (F4.mono (by unfold bO m_sO; omega) (fun _ q => q)))
  have h4 := (h0.low f4).1
  have h99 := M4'.2
  have emin : z_min (nI 99) (u4.1 63 36) = nI (b_top x) := by
    rw [M4'.1, zn_min (by omega) (by omega)]
    split
    · rfl
    · have : b_top x = 99 := by omega
      rw [this]
  refine zb_Model_tallest_56 (dc := 354) (P := fun r u => r = (to_bld x 0 (b_top x)).1 ∧ mA (to_bld x 0 (b_top x)).2 u ∧ mQ u4 u) (by rw [emin]; exact mc_tellBuild h4 (by decide) h99 z') (by omega) (fun r u5 h5 => ?_)
  obtain ⟨rfl, -, g3⟩ := h5
  refine zb_Model_tallest_72 (mc_tell mRow.nil (by decide) _) (by omega) (fun u6 h6 => ?_)
  obtain ⟨r1, r2⟩ := h6
  refine zb_Model_tallest_83 ?_
  rw [he, to_tallest, if_pos z', emin]
  exact ⟨_, rfl, rfl, h.row (mQ.t0.tr ((mQ.of f4).tr (g3.tr (mQ.r0.tr (mQ.tl r2))))) r1⟩
end
