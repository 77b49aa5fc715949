/-! the model: build, calls, tallest -/
theorem b_lhi_ge {s : aS} {v : aV} {h : Nat} (hh : h ≤ 99) : ∀ n, h ≤ a_lhi s v n ↔ ∀ c, c < n → h ≤ a_h s v c
  | 0 => ⟨fun _ c hc => absurd hc (by omega), fun _ => hh⟩
  | n + 1 => by
    have ih := b_lhi_ge (s := s) (v := v) hh n
    rw [a_lhi]
    by_cases q : a_h s v n < a_lhi s v n
    · rw [if_pos q]
      constructor
      · intro z c hc
        rcases Nat.lt_or_eq_of_le (Nat.le_of_lt_succ hc) with e | e
        · exact ih.mp (by omega) c e
        · rw [e]; exact z
      · intro z
        exact z n (by omega)
    · rw [if_neg q]
      constructor
      · intro z c hc
        rcases Nat.lt_or_eq_of_le (Nat.le_of_lt_succ hc) with e | e
        · exact ih.mp z c e
        · rw [e]; omega
      · intro z
        exact ih.mpr (fun c hc => z c (by omega))
theorem b_gd_lh {s : aS} {P : bP} {h : Nat} (hh : h ≤ 99) : b_gd s h P = true ↔ h ≤ b_lh s P := by
  rw [b_gd_iff]
  unfold b_lh
  rw [b_lhi_ge hh]
theorem b_co_fold {E : (Nat → Int32) → Int32} {s : aS} {dy h n : Nat} {P : bP} {k : Nat} {ln : List Nat} (acc : Nat × List Nat) : ∀ (l : List (Nat × Nat × List Nat)) (o : Option bW), l.foldl (bLp s dy E (fun P bs k ln acc => b_co acc k ln (b_bst E s dy h n P bs)) P k ln) (b_co acc k ln o) = b_co acc k ln (l.foldl (fun o x => b_bet o (b_cd E s dy P (b_bst E s dy h n) x)) o)
  | [], o => rfl
  | x :: l, o => by
    rw [List.foldl_cons, List.foldl_cons, ← b_co_fold acc l]
    congr 1
    unfold bLp b_cd
    by_cases q : b_al E s dy P x.1 x.2.1 = true
    · rw [if_pos q, if_pos q]
      exact b_co_step _ _ _ _ _ _ _
    · rw [if_neg q, if_neg q]
      rfl
def bMA (acc : Nat × List Nat) (τ : zS) : Prop := τ.1 63 35 = nI acc.1 ∧ acc.1 ≤ 1000000 ∧ (acc.1 ≠ 1000000 → acc.1 ≤ 6 ∧ acc.2.length = 2 * acc.1 ∧ ∀ i, i < acc.2.length → τ.1 81 i = nI (acc.2.getD i 0))
theorem bMA.k : ∀ (acc : Nat × List Nat) (σ u : zS), u.1 81 = σ.1 81 → u.1 63 35 = σ.1 63 35 → u.1 63 36 = σ.1 63 36 → bMA acc σ → bMA acc u := by
  intro acc σ u h1 h2 _ h
  unfold bMA
  rw [h1, h2]
  exact h
section
variable {s : aS} {dy th K h : Nat} {T : Nat → Nat}
theorem mb_A1 (hth : th < 4096) (hh : h ≤ 99) (N : Nat) (hch : ∀ n, N = n + 1 → mbC s dy th K T (nI h) bMA (fun P bs k ln acc => b_co acc k ln (b_bst (tE K T) s dy h n P bs)) (345 + N) n) : mbC s dy th K T (nI h) bMA (fun P bs k ln acc => b_co acc k ln (b_bst (tE K T) s dy h N P bs)) (346 + N) N := by
  intro fr k ln acc w τ hR hM hy hfr hw hl hln hk hbl hm
  refine z_Cv_of (by decide) (Nat.le_of_ble_eq_true rfl) (fun Γ hd he => ?_)
  show z_J Γ zm_Model_goBuild 0 [some (.inr 63), some (.inr 78), some (.inl (nI th)), some (.inl (nI fr)), some (.inl (nI k)), some (.inl (nI h)), none, none, none, none, none, none] [] τ
  have hlh : a_lh s w ≤ 99 := a_lhi_le s w (s_c s)
  refine zb_Model_goBuild_0 rfl (mc_lh hR (by decide)) (by omega) (fun r u hr => ?_)
  obtain ⟨rfl, rfl⟩ := hr
  refine zb_Model_goBuild_5 rfl (fun _ => ?_) (fun z => absurd (by rw [show (0 : Int32) = nI 0 from rfl, zn_le (by omega) (by omega)]; omega) z)
  refine zb_Model_goBuild_25 rfl (fun z => absurd z (by rw [show (0 : Int32) = nI 0 from rfl, zn_lt (by omega) (by omega)]; omega)) (fun _ => ?_)
  have hm2 := hm.2.1
  refine zb_Model_goBuild_30 rfl (fun z => ?_) (fun z => ?_)
  rotate_left
  · rw [hm.1, zn_lt (by omega) (by omega)] at z
    refine zb_Model_goBuild_39 ?_
    rw [he]
    refine ⟨rfl, ?_, mX.rf, hbl⟩
    show bMA (b_co acc k ln (b_bst (tE K T) s dy h N (v_p w) (b_sk th (s_n s) fr))) u
    cases b_bst (tE K T) s dy h N (v_p w) (b_sk th (s_n s) fr) with
    | none => exact hm
    | some t =>
      show bMA (if k + t.length < acc.1 then _ else acc) u
      rw [if_neg (by omega)]
      exact hm
  rw [hm.1, zn_lt (by omega) (by omega)] at z
  refine zb_Model_goBuild_40 rfl (fun z => absurd z (by rw [show (0 : Int32) = nI 0 from rfl, zn_lt (by omega) (by omega)]; omega)) (fun _ => ?_)
  have egd := b_gd_lh (s := s) (P := v_p w) hh
  rw [← b_lh_v] at egd
  refine zb_Model_goBuild_45 rfl (fun z2 => ?_) (fun z2 => ?_)
  · rw [zn_lt (by omega) (by omega)] at z2
    have ng : ¬ b_gd s h (v_p w) = true := fun q => by have := egd.mp q; omega
    cases N with
    | zero =>
      refine mb_loop (f := fun P bs k ln acc => b_co acc k ln (b_bst (tE K T) s dy h 0 P bs)) (D := 345) (N := 0) bMA.k (Nat.le_refl _) (fun n e => absurd e (by omega)) hth hR hM hy hfr hw hl hln hk hbl hm (by omega) (fun u' a1 a2 a3 => ?_)
      rw [he]
      refine ⟨rfl, ?_, a2, a3⟩
      have e0 : b_sk th (s_n s) fr = [] := List.eq_nil_of_length_eq_zero (by omega)
      rw [e0] at a1
      show bMA (b_co acc k ln (if b_gd s h (v_p w) = true then some [] else none)) u'
      rw [if_neg ng]
      exact a1
    | succ n =>
      refine mb_loop (f := fun P bs k ln acc => b_co acc k ln (b_bst (tE K T) s dy h n P bs)) (D := 345 + (n + 1)) (N := n + 1) bMA.k (by omega) (fun m e => (show n = m by omega) ▸ hch n rfl) hth hR hM hy hfr hw hl hln hk hbl hm (by omega) (fun u' a1 a2 a3 => ?_)
      rw [he]
      refine ⟨rfl, ?_, a2, a3⟩
      have := b_co_fold (E := tE K T) (s := s) (dy := dy) (h := h) (n := n) (P := v_p w) (k := k) (ln := ln) acc (b_ch (s_c s) (b_sk th (s_n s) fr)) none
      rw [show b_co acc k ln none = acc from rfl] at this
      rw [this] at a1
      show bMA (b_co acc k ln (if b_gd s h (v_p w) = true then some [] else _)) u'
      rw [if_neg ng]
      exact a1
  · rw [zn_lt (by omega) (by omega)] at z2
    have gd : b_gd s h (v_p w) = true := egd.mpr (by omega)
    have eb : b_co acc k ln (b_bst (tE K T) s dy h N (v_p w) (b_sk th (s_n s) fr)) = (k, ln) := by
      have : b_bst (tE K T) s dy h N (v_p w) (b_sk th (s_n s) fr) = some [] := by
        cases N with
        | zero => exact if_pos gd
        | succ n => exact if_pos gd
      rw [this]
      show (if k + 0 < acc.1 then (k + 0, ln ++ []) else acc) = _
      rw [if_pos (by omega), List.append_nil, Nat.add_zero]
    refine zb_Model_goBuild_52 ?_
    refine zj_forS (b := 2 * k) (fun i => [some (.inr 63), none, none, none, some (.inl (nI k)), none, none, some (.inl (nI i)), none, none, none, none])
      (fun i u' => (∀ j, j < i → u'.1 81 j = nI (ln.getD j 0)) ∧ mX (fun q => q = 81) (fun _ => False) (z_pI u 63 35 (nI k)) u') (fun i u' hi hI kk => ?_) (fun u' hI => ?_) 0 (Nat.zero_le _) _ ⟨fun j hj => absurd hj (by omega), mX.rf⟩
    · obtain ⟨i1, i2⟩ := hI
      refine zb_Model_goBuild_61 (fun z => ?_) (fun _ => ?_)
      · rw [pk_mul, zn_le (by omega) (by omega)] at z
        omega
      refine zb_Model_goBuild_70 (k1 := i) (k2 := i) (z_ixn (by omega)) (z_ixn (by omega)) ?_
      rw [nI_add]
      refine kk _ ⟨fun j hj => ?_, mX.pR i2 rfl (by decide)⟩
      by_cases e : j = i
      · subst e
        rw [z_pI_at, (i2.1 80 (by decide) (by decide)).1, z_pI_ne (by decide)]
        exact hbl j (by omega)
      · rw [z_pI_ne2 e]
        exact i1 j (by omega)
    · obtain ⟨i1, i2⟩ := hI
      refine zb_Model_goBuild_61 (fun _ => ?_) (fun z => absurd (by rw [pk_mul]; exact Int32.le_refl _) z)
      refine zb_Model_goBuild_90 ?_
      rw [he]
      refine ⟨rfl, ?_, ?_, ?_⟩
      · show bMA (b_co acc k ln (b_bst (tE K T) s dy h N (v_p w) (b_sk th (s_n s) fr))) u'
        rw [eb]
        exact ⟨by rw [i2.2.1 35 id, z_pI_at], by show k ≤ _; omega, fun _ => ⟨by show k ≤ 6; omega, hln, fun i hi => i1 i (by rw [← hln]; exact hi)⟩⟩
      · exact mX.tr (mX.pK mX.rf (by unfold m_sK; omega)) (i2.mono (by unfold bO; omega) (fun _ q => q.elim))
      · unfold bMl
        rw [(i2.1 80 (by decide) (by decide)).1, z_pI_ne (by decide)]
        exact hbl
theorem mb_A (hth : th < 4096) (hh : h ≤ 99) : ∀ N, mbC s dy th K T (nI h) bMA (fun P bs k ln acc => b_co acc k ln (b_bst (tE K T) s dy h N P bs)) (346 + N) N
  | 0 => mb_A1 hth hh 0 (fun n e => absurd e (by omega))
  | N + 1 => mb_A1 hth hh (N + 1) (fun n e => by
    obtain rfl : N = n := by omega
    rw [show 345 + (N + 1) = 346 + N by omega]
    exact mb_A hth hh N)
def bMB (acc : Nat) (τ : zS) : Prop := τ.1 63 36 = nI acc ∧ acc ≤ 99
theorem bMB.k : ∀ (acc : Nat) (σ u : zS), u.1 81 = σ.1 81 → u.1 63 35 = σ.1 63 35 → u.1 63 36 = σ.1 63 36 → bMB acc σ → bMB acc u := by
  intro acc σ u _ _ h2 h
  unfold bMB
  rw [h2]
  exact h
theorem mb_B1 (hth : th < 4096) (N : Nat) (hch : ∀ n, N = n + 1 → mbC s dy th K T (-1) bMB (fun P bs _ _ acc => b_mx (tE K T) s dy n P bs acc) (345 + N) n) : mbC s dy th K T (-1) bMB (fun P bs _ _ acc => b_mx (tE K T) s dy N P bs acc) (346 + N) N := by
  intro fr k ln acc w τ hR hM hy hfr hw hl hln hk hbl hm
  refine z_Cv_of (by decide) (Nat.le_of_ble_eq_true rfl) (fun Γ hd he => ?_)
  show z_J Γ zm_Model_goBuild 0 [some (.inr 63), some (.inr 78), some (.inl (nI th)), some (.inl (nI fr)), some (.inl (nI k)), some (.inl (-1)), none, none, none, none, none, none] [] τ
  have hlh : a_lh s w ≤ 99 := a_lhi_le s w (s_c s)
  refine zb_Model_goBuild_0 rfl (mc_lh hR (by decide)) (by omega) (fun r u hr => ?_)
  obtain ⟨rfl, rfl⟩ := hr
  refine zb_Model_goBuild_5 rfl (fun z => absurd z (by decide)) (fun _ => ?_)
  have hm2 := hm.2
  refine zb_Model_goBuild_12 rfl (by omega) ?_
  rw [hm.1, zn_max (by omega) (by omega)]
  have em : (if acc < a_lhi s w (s_c s) then a_lhi s w (s_c s) else acc) = max acc (b_lh s (v_p w)) := by
    rw [← b_lh_v]
    show _ = max acc (a_lhi s w (s_c s))
    split <;> omega
  rw [em]
  have hmx : max acc (b_lh s (v_p w)) ≤ 99 := by
    rw [← em]
    split <;> omega
  have fX : mX bO m_sK u (z_pI u 63 36 (nI (max acc (b_lh s (v_p w))))) := mX.pK mX.rf (by unfold m_sK; omega)
  have R' := hR.keepX fX (by unfold m_sK; omega) (by unfold bO; omega) (by unfold bO; omega) (by decide)
  have U' : mRr K T (z_pI u 63 36 (nI (max acc (b_lh s (v_p w))))) := hM.keepX fX (by unfold bO; omega) (by unfold m_sK; omega)
  have L' : bMl ln (z_pI u 63 36 (nI (max acc (b_lh s (v_p w))))) := by
    unfold bMl
    rw [z_pI_ne (by decide)]
    exact hbl
  have M' : bMB (max acc (b_lh s (v_p w))) (z_pI u 63 36 (nI (max acc (b_lh s (v_p w))))) := ⟨z_pI_at _ _ _ _, hmx⟩
  refine zb_Model_goBuild_25 rfl (fun _ => ?_) (fun z => absurd (by decide) z)
  refine zb_Model_goBuild_40 rfl (fun _ => ?_) (fun z => absurd (by decide) z)
  cases N with
  | zero =>
    refine mb_loop (f := fun P bs _ _ acc => b_mx (tE K T) s dy 0 P bs acc) (D := 345) (N := 0) bMB.k (Nat.le_refl _) (fun n e => absurd e (by omega)) hth R' U' hy hfr hw hl hln hk L' M' (by omega) (fun u' a1 a2 a3 => ?_)
    rw [he]
    refine ⟨rfl, ?_, fX.tr a2, a3⟩
    have e0 : b_sk th (s_n s) fr = [] := List.eq_nil_of_length_eq_zero (by omega)
    rw [e0] at a1
    exact a1
  | succ n =>
    refine mb_loop (f := fun P bs _ _ acc => b_mx (tE K T) s dy n P bs acc) (D := 345 + (n + 1)) (N := n + 1) bMB.k (by omega) (fun m e => (show n = m by omega) ▸ hch n rfl) hth R' U' hy hfr hw hl hln hk L' M' (by omega) (fun u' a1 a2 a3 => ?_)
    rw [he]
    exact ⟨rfl, a1, fX.tr a2, a3⟩
theorem mb_B (hth : th < 4096) : ∀ N, mbC s dy th K T (-1) bMB (fun P bs _ _ acc => b_mx (tE K T) s dy N P bs acc) (346 + N) N
  | 0 => mb_B1 hth 0 (fun n e => absurd e (by omega))
  | N + 1 => mb_B1 hth (N + 1) (fun n e => by
    obtain rfl : N = n := by omega
    rw [show 345 + (N + 1) = 346 + N by omega]
    exact mb_B hth N)
end
