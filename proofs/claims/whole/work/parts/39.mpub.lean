/-! what a run of calls has made: books and so on, what changes, what can be undone, the rule's text, the signs told, the row, what was seen, what is kept, how often anything came -/
abbrev tX : Type := aS × aV × List aV × (Nat × (Nat → Nat)) × (Nat × (Nat → Nat)) × List Int32 × (Nat → Option Nat) × (Nat → Option aV) × Nat
abbrev x_s (x : tX) : aS := x.1
abbrev x_v (x : tX) : aV := x.2.1
abbrev x_H (x : tX) : List aV := x.2.2.1
abbrev x_K (x : tX) : Nat := x.2.2.2.1.1
abbrev x_T (x : tX) : Nat → Nat := x.2.2.2.1.2
abbrev x_L (x : tX) : Nat := x.2.2.2.2.1.1
abbrev x_X (x : tX) : Nat → Nat := x.2.2.2.2.1.2
abbrev x_r (x : tX) : List Int32 := x.2.2.2.2.2.1
abbrev x_e (x : tX) : Nat → Option Nat := x.2.2.2.2.2.2.1
abbrev x_k (x : tX) : Nat → Option aV := x.2.2.2.2.2.2.2.1
abbrev x_m (x : tX) : Nat := x.2.2.2.2.2.2.2.2
abbrev x_E (x : tX) : (Nat → Int32) → Int32 := tE (x_K x) (x_T x)
abbrev x_act (x : tX) (v : aV) (H : List aV) (r : List Int32) : tX := (x_s x, v, H, (x_K x, x_T x), (x_L x, x_X x), r, x_e x, x_k x, x_m x)
abbrev x_row (x : tX) (r : List Int32) : tX := x_act x (x_v x) (x_H x) r
def mTx (L : Nat) (X : Nat → Nat) (σ : zS) : Prop := L ≤ 80 ∧ σ.1 63 8 = nI L ∧ ∀ i, i < L → X i < 256 ∧ σ.1 68 i = (nI (X i)).toInt8.toInt32
def se_b (se : Nat → Option Nat) : Nat → Nat
  | 0 => 0
  | c + 1 => if (se c).isSome = true then se_b se c ||| 2 ^ c else se_b se c
def mSe (s : aS) (se : Nat → Option Nat) (σ : zS) : Prop := σ.1 63 41 = nI (se_b se (s_c s)) ∧ ∀ c, c < s_c s → ∀ h, se c = some h → σ.1 83 c = nI h
def mKp (s : aS) (kp : Nat → Option aV) (cm : Nat) (σ : zS) : Prop := σ.1 63 44 = nI cm ∧ ∀ i, i < 2 → (σ.1 86 i = nI 0 ∨ σ.1 86 i = nI 1) ∧ (∀ w, kp i = some w → σ.1 86 i = nI 1 ∧ σ.1 87 i = nI cm ∧ aI s w ∧ mV s w (fun k => σ.1 85 (53 * i + k))) ∧ (kp i = none → σ.1 86 i = nI 0 ∨ ∃ m, m < cm ∧ σ.1 87 i = nI m)
def mRr (K : Nat) (T : Nat → Nat) (σ : zS) : Prop := mRu K T σ ∧ σ.2 63 20 = 88
/-- the model stands for x -/
def mA (x : tX) (σ : zS) : Prop := mR (x_s x) (x_v x) σ 64 ∧ mH (x_s x) (x_H x) σ ∧ mRr (x_K x) (x_T x) σ ∧ mTx (x_L x) (x_X x) σ ∧ mRow (x_r x) σ ∧ mSe (x_s x) (x_e x) σ ∧ mKp (x_s x) (x_k x) (x_m x) σ
/-- what the model may always change -/
def m_sO (q : Nat) : Prop := (70 ≤ q ∧ q ≤ 75) ∨ (77 ≤ q ∧ q ≤ 82) ∨ q = 84
def m_sK (k : Nat) : Prop := k = 11 ∨ (13 ≤ k ∧ k ≤ 16) ∨ k = 23 ∨ k = 30 ∨ k = 31 ∨ k = 35 ∨ k = 36 ∨ k = 38 ∨ k = 39 ∨ k = 43
/-- nothing of the program's own is touched -/
def zU (σ u : zS) : Prop := ∀ q, q < 63 → u.1 q = σ.1 q ∧ u.2 q = σ.2 q
abbrev m_aO (q : Nat) : Prop := m_sO q ∨ q = 64 ∨ q = 69 ∨ q = 76
abbrev m_aK (k : Nat) : Prop := m_sK k ∨ k = 10 ∨ k = 27
/-- the frame of acts and questions -/
abbrev mW (σ u : zS) : Prop := mX m_aO m_aK σ u
section
variable {s : aS} {v w : aV} {σ u : zS} {R K : Nat → Prop} {x : tX}
theorem zU.rf : zU σ σ := fun _ _ => ⟨rfl, rfl⟩
theorem zU.tr {u2 : zS} (h1 : zU σ u) (h2 : zU u u2) : zU σ u2 := fun q hq => ⟨(h2 q hq).1.trans (h1 q hq).1, (h2 q hq).2.trans (h1 q hq).2⟩
theorem mX.zU (h : mX R K σ u) (hR : ∀ q, R q → 63 ≤ q) : zU σ u := fun q hq => h.1 q (by omega) (fun r => by have := hR q r; omega)
theorem mH.keepX {H : List aV} (h : mH s H σ) (hF : mX R K σ u) (h1 : ¬ R 76) (h2 : ¬ K 27) : mH s H u := by
  unfold mH
  rw [hF.2.1 27 h2, (hF.1 76 (by decide) h1).1]
  exact h
theorem mRow.keepX {l : List Int32} (h : mRow l σ) (hF : mX R K σ u) (h1 : ¬ R 69) (h2 : ¬ K 10) : mRow l u := by
  unfold mRow
  rw [hF.2.1 10 h2, (hF.1 69 (by decide) h1).1]
  exact h
theorem mRr.keepX {Kr : Nat} {T : Nat → Nat} (h : mRr Kr T σ) (hF : mX R K σ u) (h1 : ¬ R 88) (h2 : ¬ K 22) : mRr Kr T u := by
  obtain ⟨⟨q1, q2, q3, q4⟩, q5⟩ := h
  refine ⟨⟨q1, ?_, ?_, fun i hi => ?_⟩, ?_⟩
  · rw [hF.2.1 22 h2]; exact q2
  · rw [hF.2.2 20 (by decide)]; exact q3
  · rw [hF.2.2 20 (by decide), q5, (hF.1 88 (by decide) h1).1, ← q5]; exact q4 i hi
  · rw [hF.2.2 20 (by decide)]; exact q5
theorem mTx.keepX {L : Nat} {X : Nat → Nat} (h : mTx L X σ) (hF : mX R K σ u) (h1 : ¬ R 68) (h2 : ¬ K 8) : mTx L X u := by
  unfold mTx
  rw [hF.2.1 8 h2, (hF.1 68 (by decide) h1).1]
  exact h
theorem mSe.keepX {se : Nat → Option Nat} (h : mSe s se σ) (hF : mX R K σ u) (h1 : ¬ R 83) (h2 : ¬ K 41) : mSe s se u := by
  unfold mSe
  rw [hF.2.1 41 h2, (hF.1 83 (by decide) h1).1]
  exact h
theorem mKp.keepX {kp : Nat → Option aV} {cm : Nat} (h : mKp s kp cm σ) (hF : mX R K σ u) (h1 : ¬ R 85 ∧ ¬ R 86 ∧ ¬ R 87) (h2 : ¬ K 44) : mKp s kp cm u := by
  unfold mKp
  rw [hF.2.1 44 h2, (hF.1 85 (by decide) h1.1).1, (hF.1 86 (by decide) h1.2.1).1, (hF.1 87 (by decide) h1.2.2).1]
  exact h
theorem mA.act (h : mA x σ) (hF : mW σ u) {v' : aV} {H' : List aV} {r' : List Int32} (h1 : mR (x_s x) v' u 64) (h2 : mH (x_s x) H' u) (h3 : mRow r' u) : mA (x_act x v' H' r') u :=
  ⟨h1, h2, h.2.2.1.keepX hF (by unfold m_aO m_sO; omega) (by unfold m_aK m_sK; omega), h.2.2.2.1.keepX hF (by unfold m_aO m_sO; omega) (by unfold m_aK m_sK; omega), h3, h.2.2.2.2.2.1.keepX hF (by unfold m_aO m_sO; omega) (by unfold m_aK m_sK; omega), h.2.2.2.2.2.2.keepX hF (by unfold m_aO m_sO; omega) (by unfold m_aK m_sK; omega)⟩
theorem mW.zU (h : mW σ u) : zU σ u := mX.zU h (by unfold m_aO m_sO; omega)
theorem mA.row (h : mA x σ) (hF : mX (fun q => m_sO q ∨ q = 69) (fun k => m_sK k ∨ k = 10) σ u) {r' : List Int32} (h3 : mRow r' u) : mA (x_row x r') u ∧ zU σ u :=
  ⟨h.act (hF.mono (fun q hq => by unfold m_aO; rcases hq with hq | hq; exact Or.inl hq; omega) (fun q hq => by unfold m_aK; rcases hq with hq | hq; exact Or.inl hq; omega)) (h.1.keepX hF (by unfold m_sK; omega) (by unfold m_sO; omega) (by unfold m_sO; omega) (by decide)) (h.2.1.keepX hF (by unfold m_sO; omega) (by unfold m_sK; omega)) h3, hF.zU (by unfold m_sO; omega)⟩
theorem mA.low (h : mA x σ) (hF : mX m_sO m_sK σ u) : mA x u ∧ zU σ u := h.row (hF.mono (fun _ h => Or.inl h) (fun _ h => Or.inl h)) (h.2.2.2.2.1.keepX hF (by unfold m_sO; omega) (by unfold m_sK; omega))
end
/-! laying, lending, recalling, shooting, days, undoing -/
theorem zn_neg : ¬ (0 : Int32) ≤ -1 ∧ ¬ (0 : Int32) ≤ -2 ∧ ¬ (0 : Int32) ≤ -3 ∧ ¬ (0 : Int32) ≤ -4 := by decide
section
variable {s : aS} {v : aV} {E : (Nat → Int32) → Int32}
theorem a_lay0_c (hI : aI s v) (x y : Int32) : (¬ 0 ≤ a_lay0 E s v x y ∧ a_lay E s v x y = (a_lay0 E s v x y, v)) ∨ ∃ b c, x = nI b ∧ y = nI c ∧ b < s_n s ∧ c < s_c s ∧ v_w v b = 0 ∧ (v_p v c).length < 4 ∧ a_lay0 E s v x y = nI 0 ∧ a_lay E s v x y = (nI (l_h (s_t s) (v_p v c ++ [b])), a_put v b c) := by
  have hn : s_n s ≤ 12 := hI.1.1
  have h6 : s_c s ≤ 6 := hI.1.2.2.1
  by_cases h : z_isn x (s_n s) = true ∧ z_isn y (s_c s) = true
  · obtain ⟨b, hb, rfl⟩ := z_isn_t (by omega) h.1
    obtain ⟨c, hc, rfl⟩ := z_isn_t (by omega) h.2
    have ea : a_lay0 E s v (nI b) (nI c) = if v_w v b = 0 then a_top0 E s v b c else -2 := by
      unfold a_lay0
      rw [if_pos h, nI_clamp (by omega), nI_clamp (by omega)]
    have eb : a_lay E s v (nI b) (nI c) = if v_w v b ≠ 0 then (-2, v) else if (v_p v c).length = 4 then (-3, v) else if l_ho E s (v_y v) c (v_p v c ++ [b]) = true then (nI (l_h (s_t s) (v_p v c ++ [b])), a_put v b c) else (-4, v) := a_lay_nn hn h6 hb hc
    rw [ea, eb]
    by_cases hw : v_w v b = 0
    · rw [if_pos hw, if_neg (by omega)]
      unfold a_top0
      by_cases h4 : (v_p v c).length = 4
      · rw [if_pos h4, if_pos h4]
        exact Or.inl ⟨zn_neg.2.2.1, rfl⟩
      · rw [if_neg h4, if_neg h4]
        by_cases ho : l_ho E s (v_y v) c (v_p v c ++ [b]) = true
        · rw [if_pos ho, if_pos ho]
          have := hI.l4 hc
          exact Or.inr ⟨b, c, rfl, rfl, hb, hc, hw, by omega, rfl, rfl⟩
        · rw [if_neg ho, if_neg ho]
          exact Or.inl ⟨zn_neg.2.2.2, rfl⟩
    · rw [if_neg hw, if_pos hw]
      exact Or.inl ⟨zn_neg.2.1, rfl⟩
  · rw [a_lay_no h, a_lay0, if_neg h]
    exact Or.inl ⟨zn_neg.1, rfl⟩
theorem a_ln0_c (hI : aI s v) (x y z : Int32) : (¬ 0 ≤ a_ln0 s v x y z ∧ a_ln s v x y z = (a_ln0 s v x y z, v)) ∨ ∃ b r n, x = nI b ∧ y = nI r ∧ z = nI n ∧ b < s_n s ∧ r < s_r s ∧ 1 ≤ n ∧ n ≤ 30 ∧ (v_w v b = 0 ∨ v_w v b = 1) ∧ ¬ nI 3 ≤ z_bc (nI (a_lo v r (s_n s))) ∧ a_ln0 s v x y z = nI 0 ∧ a_ln s v x y z = (nI (v_y v + n), a_lend v b r (v_y v + n)) := by
  have hn : s_n s ≤ 12 := hI.1.1
  have h4 : s_r s ≤ 4 := hI.1.2.2.2
  by_cases h : z_isn x (s_n s) = true ∧ z_isn y (s_r s) = true ∧ nI 1 ≤ z ∧ z ≤ nI 30
  · obtain ⟨b, hb, rfl⟩ := z_isn_t (by omega) h.1
    obtain ⟨r, hr, rfl⟩ := z_isn_t (by omega) h.2.1
    obtain ⟨n, h1, h30, rfl⟩ := zn_btw (Int32.not_lt.mpr h.2.2.1) h.2.2.2 (by omega)
    have ea : a_ln0 s v (nI b) (nI r) (nI n) = if v_w v b = 2 ∨ v_w v b = 3 then -2 else if nI 3 ≤ z_bc (nI (a_lo v r (s_n s))) then -3 else nI 0 := by
      unfold a_ln0
      rw [if_pos h, nI_clamp (by omega), nI_clamp (by omega)]
    rw [ea, a_ln_nn hn h4 hb hr h1 h30]
    by_cases hw : v_w v b = 2 ∨ v_w v b = 3
    · rw [if_pos hw, if_pos hw]
      exact Or.inl ⟨zn_neg.2.1, rfl⟩
    · rw [if_neg hw, if_neg hw]
      by_cases h3 : nI 3 ≤ z_bc (nI (a_lo v r (s_n s)))
      · rw [if_pos h3, if_pos h3]
        exact Or.inl ⟨zn_neg.2.2.1, rfl⟩
      · rw [if_neg h3, if_neg h3]
        have := hI.2.1 b
        exact Or.inr ⟨b, r, n, rfl, rfl, rfl, hb, hr, h1, h30, by omega, h3, rfl, rfl⟩
  · rw [a_ln0, if_neg h, a_ln, if_neg h]
    exact Or.inl ⟨zn_neg.1, rfl⟩
theorem a_sh0_c (hI : aI s v) (x y : Int32) : (¬ 0 ≤ a_sh0 s v x y ∧ a_sh s v x y = (a_sh0 s v x y, v, 0)) ∨ ∃ c n, x = nI c ∧ y = nI n ∧ c < s_c s ∧ 1 ≤ n ∧ n ≤ 4 ∧ a_sh0 s v x y = nI 0 ∧ a_sh s v x y = (nI (a_h s (a_shi v c n).1 c), a_shi v c n) := by
  have h6 : s_c s ≤ 6 := hI.1.2.2.1
  by_cases h : z_isn x (s_c s) = true ∧ nI 1 ≤ y ∧ y ≤ nI 4
  · obtain ⟨c, hc, rfl⟩ := z_isn_t (by omega) h.1
    obtain ⟨n, h1, h4, rfl⟩ := zn_btw (Int32.not_lt.mpr h.2.1) h.2.2 (by omega)
    have ea : a_sh0 s v (nI c) (nI n) = if (v_p v c).length = 0 then -2 else nI 0 := by
      unfold a_sh0
      rw [if_pos h, nI_clamp (by omega)]
    have eb : a_sh s v (nI c) (nI n) = if (v_p v c).length = 0 then (-2, v, 0) else (nI (a_h s (a_shi v c n).1 c), a_shi v c n) := by
      unfold a_sh
      rw [if_pos h, nI_clamp (by omega), nI_clamp (by omega)]
    rw [ea, eb]
    by_cases hz : (v_p v c).length = 0
    · rw [if_pos hz, if_pos hz]
      exact Or.inl ⟨zn_neg.2.1, rfl⟩
    · rw [if_neg hz, if_neg hz]
      exact Or.inr ⟨c, n, rfl, rfl, hc, h1, h4, rfl, rfl⟩
  · rw [a_sh0, if_neg h, a_sh, if_neg h]
    exact Or.inl ⟨zn_neg.1, rfl⟩
end
def to_lay (x : tX) (a b : Int32) : Int32 × tX := if 0 ≤ (a_lay (x_E x) (x_s x) (x_v x) a b).1 then ((a_lay (x_E x) (x_s x) (x_v x) a b).1, x_act x (a_lay (x_E x) (x_s x) (x_v x) a b).2 (a_rem (x_H x) (x_v x)) (x_r x)) else ((a_lay (x_E x) (x_s x) (x_v x) a b).1, x)
def to_lend (x : tX) (a b c : Int32) : Int32 × tX := if 0 ≤ (a_ln (x_s x) (x_v x) a b c).1 then ((a_ln (x_s x) (x_v x) a b c).1, x_act x (a_ln (x_s x) (x_v x) a b c).2 (a_rem (x_H x) (x_v x)) (x_r x)) else ((a_ln (x_s x) (x_v x) a b c).1, x)
def to_recall (x : tX) (a : Int32) : Int32 × tX := if 0 ≤ (a_cb (x_s x) (x_v x) a).1 then ((a_cb (x_s x) (x_v x) a).1, x_act x (a_cb (x_s x) (x_v x) a).2 (a_rem (x_H x) (x_v x)) (x_r x)) else ((a_cb (x_s x) (x_v x) a).1, x)
def to_shot (x : tX) (a b : Int32) : Int32 × tX := if 0 ≤ (a_sh (x_s x) (x_v x) a b).1 then ((a_sh (x_s x) (x_v x) a b).1, x_act x (a_sh (x_s x) (x_v x) a b).2.1 (a_rem (x_H x) (x_v x)) [nI (a_sh (x_s x) (x_v x) a b).2.2]) else ((a_sh (x_s x) (x_v x) a b).1, x)
def to_days (x : tX) (a : Int32) : Int32 × tX := if nI 0 ≤ a ∧ a ≤ nI 99 then (nI (v_y (x_v x) + a.toNatClampNeg), x_act x (a_days (x_s x) (x_v x) a.toNatClampNeg).1 (if a.toNatClampNeg = 0 then x_H x else a_rem (x_H x) (x_v x)) [nI (a_days (x_s x) (x_v x) a.toNatClampNeg).2.1, nI (a_days (x_s x) (x_v x) a.toNatClampNeg).2.2]) else (-1, x)
/-- days are few, nobody has more than three -/
def x_y (x : tX) : Prop := v_y (x_v x) < 1073741824
section
variable {x : tX} {σ u : zS}
theorem zn_ge0 {n : Nat} (h : n < 2147483648) : (0 : Int32) ≤ nI n := by
  have e0 : (0 : Int32) = nI 0 := rfl
  rw [e0]
  exact nI_le (Nat.zero_le _) h
theorem m_t0 (h : mA x σ) : mA x (z_pI σ 63 11 (nI 0)) := (h.low (mX.rf.pK (Or.inl rfl))).1
theorem m_t0W : mW σ (z_pI σ 63 11 (nI 0)) := mX.rf.pK (Or.inl (Or.inl rfl))
theorem l_h36 (hI : aI (x_s x) (x_v x)) {l : List Nat} (hl : ∀ b, b ∈ l → b < s_n (x_s x)) (h4 : l.length ≤ 4) : l_h (s_t (x_s x)) l ≤ 36 := by
  rw [l_h_sum]
  have key : ∀ l : List Nat, (∀ b, b ∈ l → b < s_n (x_s x)) → (l.map (s_t (x_s x))).sum ≤ 9 * l.length := by
    intro l
    induction l with
    | nil => intro _; simp
    | cons b t ih =>
      intro h
      have h1 := (hI.2.2.2.2.2.2.2.1 b (h b (by simp))).2.1
      have h2 := ih (fun b' hb' => h b' (by simp [hb']))
      simp only [List.map_cons, List.sum_cons, List.length_cons]
      omega
  have := key l hl
  omega
theorem mp_lay (h : mA x σ) (a b : Int32) : z_Ci 345 zm_Model_lay_0 [.inr 63, .inl a, .inl b] σ (fun r u => r = (to_lay x a b).1 ∧ mA (to_lay x a b).2 u ∧ zU σ u) := by
  have h0 := m_t0 h
  refine z_Ci_of (by decide) (Nat.le_of_ble_eq_true rfl) (fun Γ hd he => ?_)
  show z_J Γ zm_Model_lay_0 0 [some (.inr 63), some (.inl a), some (.inl b), none] [] σ
  refine zb_Model_lay_0_0 (mc_refusesLay h0.2.2.1.1 (by rw [h0.2.2.1.2]; decide) h0.1 (by decide) (by decide) a b) (by omega) (fun r u hr => ?_)
  obtain ⟨rfl, hF⟩ := hr
  have hF1 : mX m_sO m_sK (z_pI σ 63 11 (nI 0)) u := hF.X (by unfold m_sO; omega) (by unfold m_sK; omega)
  obtain ⟨hu, hz⟩ := h0.low hF1
  have hz0 : zU σ u := mX.zU (mX.tr (mX.pK (R := m_sO) (K := m_sK) mX.rf (Or.inl rfl)) hF1) (by unfold m_sO; omega)
  rcases a_lay0_c (E := x_E x) h.1.1 a b with ⟨q1, q2⟩ | ⟨b', c', rfl, rfl, hb, hc, hw, h4, q1, q2⟩
  · refine zb_Model_lay_0_15 (fun k => absurd k q1) (fun _ => ?_)
    refine zb_Model_lay_0_20 ?_
    rw [he, to_lay, q2, if_neg q1]
    exact ⟨_, rfl, rfl, hu, hz0⟩
  · refine zb_Model_lay_0_15 (fun _ => ?_) (fun k => absurd (by rw [q1]; decide) k)
    refine zb_Model_lay_0_22 (mc_remember hu.1 hu.2.1 (by decide)) (by omega) (fun u2 h2 => ?_)
    obtain ⟨p1, p2⟩ := h2
    have hR2 := hu.1.keepX p2 (by decide) (by decide) (by decide) (by decide)
    refine zb_Model_lay_0_30 (mc_goLay hR2 (by decide) hb hc) (by omega) (fun u3 h3 => ?_)
    subst h3
    have hR3 := hR2.put (by decide) hb (by omega) hc h4
    refine zb_Model_lay_0_40 (mc_heightOf hR3.Bk (by decide) (hR3.1.nd hc) (hR3.I hc)) (by omega) (fun r u4 h4' => ?_)
    obtain ⟨rfl, rfl⟩ := h4'
    refine zb_Model_lay_0_49 ?_
    have ep : v_p (a_put (x_v x) b' c') c' = v_p (x_v x) c' ++ [b'] := if_pos rfl
    have h36 : l_h (s_t (x_s x)) (v_p (x_v x) c' ++ [b']) ≤ 36 := by
      rw [← ep]
      exact l_h36 (x := x_act x (a_put (x_v x) b' c') [] []) hR3.1 (fun b hb => ((hR3.1.mm hc b).mp hb).1) (hR3.1.l4 hc)
    rw [he, to_lay, q2, if_pos (zn_ge0 (by omega)), ep]
    have hFr : mW (z_pI σ 63 11 (nI 0)) (m_put u2 64 b' c' (v_p (x_v x) c').length) := (hF1.mono (fun _ h => Or.inl h) (fun _ h => Or.inl h)).tr ((mX.mono p2 (by omega) (by omega)).tr ((m_put_fr _ _ _ _ _).X (by decide) (by omega)))
    refine ⟨_, rfl, rfl, h0.act hFr hR3 ?_ ?_, mW.zU (mX.tr m_t0W hFr)⟩
    · exact p1.keepX (K := fun _ => False) ((m_put_fr _ _ _ _ _).X (by decide) (fun _ h => h)) (by decide) id
    · exact (hu.2.2.2.2.1.keepX p2 (by decide) (by decide)).keepX (K := fun _ => False) ((m_put_fr _ _ _ _ _).X (by decide) (fun _ h => h)) (by decide) id
theorem mp_lend (h : mA x σ) (hL : a_L3 (x_s x) (x_v x)) (hy : x_y x) (a b c : Int32) : z_Ci 4 zm_Model_lend [.inr 63, .inl a, .inl b, .inl c] σ (fun r u => r = (to_lend x a b c).1 ∧ mA (to_lend x a b c).2 u ∧ zU σ u) := by
  have h0 := m_t0 h
  unfold x_y at hy
  refine z_Ci_of (by decide) (Nat.le_of_ble_eq_true rfl) (fun Γ hd he => ?_)
  show z_J Γ zm_Model_lend 0 [some (.inr 63), some (.inl a), some (.inl b), some (.inl c), none] [] σ
  refine zb_Model_lend_0 (mc_refusesLend h0.1 hL a b c) (by omega) (fun r u hr => ?_)
  obtain ⟨rfl, rfl⟩ := hr
  rcases a_ln0_c h.1.1 a b c with ⟨q1, q2⟩ | ⟨b', r', n', rfl, rfl, rfl, hb, hr, h1, h30, hw, h3, q1, q2⟩
  · refine zb_Model_lend_12 (fun k => absurd k q1) (fun _ => ?_)
    refine zb_Model_lend_19 ?_
    rw [he, to_lend, q2, if_neg q1]
    exact ⟨_, rfl, rfl, h0, mW.zU m_t0W⟩
  · refine zb_Model_lend_12 (fun _ => ?_) (fun k => absurd (by rw [q1]; decide) k)
    refine zb_Model_lend_22 (mc_remember h0.1 h0.2.1 (by decide)) (by omega) (fun u2 h2 => ?_)
    obtain ⟨p1, p2⟩ := h2
    have hR2 := h0.1.keepX p2 (by decide) (by decide) (by decide) (by decide)
    refine zb_Model_lend_30 (mc_goLend hR2 hb hr) (by omega) (fun r u3 h3 => ?_)
    obtain ⟨rfl, hR3, hF3⟩ := h3
    refine zb_Model_lend_37 ?_
    rw [he, to_lend, q2, if_pos (zn_ge0 (by omega))]
    have hFr : mW (z_pI σ 63 11 (nI 0)) u3 := (mX.mono p2 (by unfold m_aO; omega) (by unfold m_aK; omega)).tr (hF3.X (by decide) (by unfold m_aO; omega))
    refine ⟨_, rfl, rfl, h0.act hFr hR3 ?_ ?_, mW.zU (mX.tr m_t0W hFr)⟩
    · exact p1.keepX (K := fun _ => False) (hF3.X (by decide) (fun _ h => h)) (by decide) id
    · exact (h0.2.2.2.2.1.keepX p2 (by decide) (by decide)).keepX (K := fun _ => False) (hF3.X (by decide) (fun _ h => h)) (by decide) id
theorem mp_recall (h : mA x σ) (a : Int32) : z_Ci 3 zm_Model_recall [.inr 63, .inl a] σ (fun r u => r = (to_recall x a).1 ∧ mA (to_recall x a).2 u ∧ zU σ u) := by
  have h0 := m_t0 h
  have hn := h.1.n
  refine z_Ci_of (by decide) (Nat.le_of_ble_eq_true rfl) (fun Γ hd he => ?_)
  show z_J Γ zm_Model_recall 0 [some (.inr 63), some (.inl a)] [] σ
  refine zb_Model_recall_0 (mc_isBook hn h0.1.2.1.1 a) (by omega) (fun r u hr => ?_)
  obtain ⟨rfl, rfl⟩ := hr
  refine zb_Model_recall_10 (fun k => ?_) (fun k => ?_)
  · rw [z_tf_eq0, Bool.not_eq_false] at k
    obtain ⟨b, hb, rfl⟩ := z_isn_t (by omega) k
    have ea : a_cb (x_s x) (x_v x) (nI b) = if v_w (x_v x) b = 2 then (nI (v_h (x_v x) b), a_lift (x_v x) b 0) else (-2, x_v x) := by
      unfold a_cb
      rw [if_pos k, nI_clamp (by omega)]
    have hw3 := h.1.w3 b
    refine zb_Model_recall_15 (k1 := b) (z_ixn (by omega)) (fun hw => ?_) (fun hw => ?_)
    · rw [h0.1.fw hb, zn_eq (by omega) (by omega)] at hw
      have hr4 := h.1.1.lt hb hw
      have h4 := h.1.r4
      refine zb_Model_recall_28 (mc_remember h0.1 h0.2.1 (by decide)) (by omega) (fun u2 h2 => ?_)
      obtain ⟨p1, p2⟩ := h2
      have hR2 := h0.1.keepX p2 (by decide) (by decide) (by decide) (by decide)
      refine zb_Model_recall_36 (mc_goRecall hR2 hb hw) (by omega) (fun r u3 h3 => ?_)
      obtain ⟨rfl, hR3, hF3⟩ := h3
      refine zb_Model_recall_41 ?_
      rw [he, to_recall, ea, if_pos hw, if_pos (zn_ge0 (by omega))]
      have hFr : mW (z_pI σ 63 11 (nI 0)) u3 := (mX.mono p2 (by unfold m_aO; omega) (by unfold m_aK; omega)).tr (hF3.X (by decide) (by unfold m_aO; omega))
      refine ⟨_, rfl, rfl, h0.act hFr hR3 ?_ ?_, mW.zU (mX.tr m_t0W hFr)⟩
      · exact p1.keepX (K := fun _ => False) (hF3.X (by decide) (fun _ h => h)) (by decide) id
      · exact (h0.2.2.2.2.1.keepX p2 (by decide) (by decide)).keepX (K := fun _ => False) (hF3.X (by decide) (fun _ h => h)) (by decide) id
    · rw [h0.1.fw hb, zn_eq (by omega) (by omega)] at hw
      refine zb_Model_recall_25 ?_
      rw [he, to_recall, ea, if_neg hw, if_neg zn_neg.2.1]
      exact ⟨_, rfl, rfl, h0, mW.zU m_t0W⟩
  · rw [z_tf_eq0] at k
    refine zb_Model_recall_13 ?_
    rw [he, to_recall, show a_cb (x_s x) (x_v x) a = (-1, x_v x) from if_neg (by rw [k]; decide), if_neg zn_neg.1]
    exact ⟨_, rfl, rfl, h0, mW.zU m_t0W⟩
theorem mp_shot (h : mA x σ) (a b : Int32) : z_Ci 5 zm_Model_shot [.inr 63, .inl a, .inl b] σ (fun r u => r = (to_shot x a b).1 ∧ mA (to_shot x a b).2 u ∧ zU σ u) := by
  have h0 := m_t0 h
  refine z_Ci_of (by decide) (Nat.le_of_ble_eq_true rfl) (fun Γ hd he => ?_)
  show z_J Γ zm_Model_shot 0 [some (.inr 63), some (.inl a), some (.inl b), none] [] σ
  refine zb_Model_shot_0 (mc_refusesShot h0.1 a b) (by omega) (fun r u hr => ?_)
  obtain ⟨rfl, rfl⟩ := hr
  rcases a_sh0_c h.1.1 a b with ⟨q1, q2⟩ | ⟨c', n', rfl, rfl, hc, h1, h4, q1, q2⟩
  · refine zb_Model_shot_11 (fun k => absurd k q1) (fun _ => ?_)
    refine zb_Model_shot_16 ?_
    rw [he, to_shot, q2, if_neg q1]
    exact ⟨_, rfl, rfl, h0, mW.zU m_t0W⟩
  · refine zb_Model_shot_11 (fun _ => ?_) (fun k => absurd (by rw [q1]; decide) k)
    refine zb_Model_shot_18 (mc_remember h0.1 h0.2.1 (by decide)) (by omega) (fun u2 h2 => ?_)
    obtain ⟨p1, p2⟩ := h2
    have hR2 := h0.1.keepX p2 (by decide) (by decide) (by decide) (by decide)
    have hR2' := hR2.k63 (k := 10) (x := nI 0) (by decide) (by decide)
    refine zb_Model_shot_26 (mc_goShot hR2' (by decide) hc (by omega)) (by omega) (fun r u3 h3 => ?_)
    obtain ⟨rfl, hR3, hF3⟩ := h3
    have hF3' : mX (fun q => q = 64 ∨ q = 75) (fun _ => False) (z_pI u2 63 10 (nI 0)) u3 := hF3.X (by decide) (fun _ h => h)
    refine zb_Model_shot_42 (mc_tell (mRow.nil.keepX hF3' (by decide) id) (by decide) _) (by omega) (fun u4 h5 => ?_)
    obtain ⟨r1, r2⟩ := h5
    have hR4 := hR3.keepX r2 (by decide) (by decide) (by decide) (by decide)
    refine zb_Model_shot_45 (mc_heightOf hR4.Bk (by decide) (hR4.1.nd hc) (hR4.I hc)) (by omega) (fun r u5 h6 => ?_)
    obtain ⟨rfl, rfl⟩ := h6
    refine zb_Model_shot_54 ?_
    have h36 := l_h36 (x := x_act x (a_shi (x_v x) c' n').1 [] []) hR4.1 (fun b hb => ((hR4.1.mm hc b).mp hb).1) (hR4.1.l4 hc)
    have h36' : a_h (x_s x) (a_shi (x_v x) c' n').1 c' ≤ 36 := h36
    rw [he, to_shot, q2, if_pos (zn_ge0 (by omega))]
    have hFr : mW (z_pI σ 63 11 (nI 0)) u5 := (mX.mono p2 (by unfold m_aO; omega) (by unfold m_aK; omega)).tr ((mX.pK (R := m_aO) (K := m_aK) (k := 10) (x := nI 0) mX.rf (Or.inr (Or.inl rfl))).tr ((hF3'.mono (by unfold m_aO m_sO; omega) (fun _ h => h.elim)).tr (mX.mono r2 (by unfold m_aO; omega) (by unfold m_aK; omega))))
    refine ⟨_, rfl, rfl, h0.act hFr hR4 ?_ r1, mW.zU (mX.tr m_t0W hFr)⟩
    exact ((p1.keepX (R := fun _ => False) (K := fun k => k = 10) (mX.rf.pK rfl) id (by decide)).keepX hF3' (by decide) id).keepX r2 (by decide) (by decide)
theorem mp_days (h : mA x σ) (a : Int32) : z_Ci 3 zm_Model_days [.inr 63, .inl a] σ (fun r u => r = (to_days x a).1 ∧ mA (to_days x a).2 u ∧ zU σ u) := by
  have h0 := m_t0 h
  refine z_Ci_of (by decide) (Nat.le_of_ble_eq_true rfl) (fun Γ hd he => ?_)
  show z_J Γ zm_Model_days 0 [some (.inr 63), some (.inl a)] [] σ
  refine zb_Model_days_0 (mc_in _ _ _ _) (by omega) (fun r u hr => ?_)
  obtain ⟨rfl, rfl⟩ := hr
  refine zb_Model_days_12 (fun k => ?_) (fun k => ?_)
  · rw [z_tf_eq0, Bool.not_eq_false, Bool.and_eq_true, decide_eq_true_eq, decide_eq_true_eq] at k
    obtain ⟨n, hn, rfl⟩ : ∃ n, n ≤ 99 ∧ a = nI n := by
      obtain ⟨j, hj, e⟩ := zn_0le (x := a) (n := 100) (Int32.not_lt.mpr k.1) (by omega) (fun q => absurd (Int32.le_trans q k.2) (by decide))
      exact ⟨j, by omega, e⟩
    have et : to_days x (nI n) = (nI (v_y (x_v x) + n), x_act x (a_days (x_s x) (x_v x) n).1 (if n = 0 then x_H x else a_rem (x_H x) (x_v x)) [nI (a_days (x_s x) (x_v x) n).2.1, nI (a_days (x_s x) (x_v x) n).2.2]) := by
      unfold to_days
      rw [if_pos k, nI_clamp (by omega)]
    have key : ∀ u2, mX (fun q => q = 76) (fun k => k = 27) (z_pI σ 63 11 (nI 0)) u2 → mH (x_s x) (if n = 0 then x_H x else a_rem (x_H x) (x_v x)) u2 → z_J Γ zm_Model_days 29 [some (.inr 63), some (.inl (nI n))] [] u2 := by
      intro u2 p2 p1
      have hR2 := h0.1.keepX p2 (by decide) (by decide) (by decide) (by decide)
      have hR2' := (hR2.k63 (k := 30) (x := nI 0) (by decide) (by decide)).k63 (k := 31) (x := nI 0) (by decide) (by decide)
      refine zb_Model_days_29 (mc_goDays (cb := 0) (pd := 0) hR2' (by decide) (by rw [z_pI_ne2 (by decide), z_pI_at]) (z_pI_at _ _ _ _) (by omega)) (by omega) (fun u3 h3 => ?_)
      obtain ⟨hR3, c1, c2, hF3⟩ := h3
      rw [← a_days_dn] at hR3 c1 c2
      have hR3' := hR3.k63 (k := 10) (x := nI 0) (by decide) (by decide)
      refine zb_Model_days_48 (mc_tell mRow.nil (by decide) _) (by omega) (fun u4 h4 => ?_)
      obtain ⟨r1, r2⟩ := h4
      have hR4 := hR3'.keepX r2 (by decide) (by decide) (by decide) (by decide)
      refine zb_Model_days_61 (mc_tell r1 (by simp) _) (by omega) (fun u5 h5 => ?_)
      obtain ⟨r3, r4⟩ := h5
      have hR5 := hR4.keepX r4 (by decide) (by decide) (by decide) (by decide)
      refine zb_Model_days_69 (k1 := 48) (z_ixn (by omega)) ?_
      rw [he, et, hR5.fy, a_days_y]
      have e1 : (z_pI u3 63 10 (nI 0)).1 63 30 = nI (a_days (x_s x) (x_v x) n).2.1 := by rw [z_pI_ne2 (by decide)]; exact c1
      have e2 : u4.1 63 31 = nI (a_days (x_s x) (x_v x) n).2.2 := by rw [r2.2.1 31 (by decide), z_pI_ne2 (by decide)]; exact c2
      rw [e1, e2] at r3
      have hFr : mW (z_pI σ 63 11 (nI 0)) u5 := (mX.mono p2 (by unfold m_aO; omega) (by unfold m_aK; omega)).tr ((((mX.rf.pK (by unfold m_aK m_sK; omega)).pK (by unfold m_aK m_sK; omega)).tr (hF3.mono (by unfold m_aO; omega) (by unfold m_aK m_sK; omega))).tr ((mX.pK (R := m_aO) (K := m_aK) (k := 10) (x := nI 0) mX.rf (Or.inr (Or.inl rfl))).tr ((mX.mono r2 (by unfold m_aO; omega) (by unfold m_aK; omega)).tr (mX.mono r4 (by unfold m_aO; omega) (by unfold m_aK; omega)))))
      refine ⟨_, rfl, rfl, h0.act hFr hR5 ?_ r3, mW.zU (mX.tr m_t0W hFr)⟩
      have p1' := p1.keepX (R := fun _ => False) (K := fun k => k = 30 ∨ k = 31) (u := z_pI (z_pI u2 63 30 (nI 0)) 63 31 (nI 0)) ((mX.rf.pK (Or.inl rfl)).pK (Or.inr rfl)) id (by decide)
      exact (((p1'.keepX hF3 (by decide) (by decide)).keepX (R := fun _ => False) (K := fun k => k = 10) (mX.rf.pK rfl) id (by decide)).keepX r2 (by decide) (by decide)).keepX r4 (by decide) (by decide)
    have e0 : (0 : Int32) = nI 0 := rfl
    refine zb_Model_days_17 (fun h2 => ?_) (fun h2 => ?_)
    · rw [e0, zn_le (by omega) (by omega)] at h2
      refine key _ mX.rf ?_
      rw [if_pos (by omega)]
      exact h0.2.1
    · rw [e0, zn_le (by omega) (by omega)] at h2
      refine zb_Model_days_21 (mc_remember h0.1 h0.2.1 (by decide)) (by omega) (fun u2 h3 => ?_)
      refine key u2 h3.2 ?_
      rw [if_neg (by omega)]
      exact h3.1
  · rw [z_tf_eq0] at k
    refine zb_Model_days_15 ?_
    rw [he, to_days, if_neg (fun q => by simp [q.1, q.2] at k)]
    exact ⟨_, rfl, rfl, h0, mW.zU m_t0W⟩
end
