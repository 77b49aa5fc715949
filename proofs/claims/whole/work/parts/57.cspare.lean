/-! places chosen of a column, books as bits -/
theorem l_bci_bit (l : List Nat) (m : Nat) : ∀ i b, (l_bci l m i).testBit b = decide (∃ k, k < i ∧ m.testBit k = true ∧ l.getD k 0 = b)
  | 0, b => by simp [l_bci]
  | i + 1, b => by
    have ih := l_bci_bit l m i b
    rw [l_bci]
    by_cases q : m.testBit i = true
    · rw [if_pos q, Nat.testBit_or, ih, Nat.testBit_two_pow]
      rw [Bool.eq_iff_iff, Bool.or_eq_true, decide_eq_true_eq, decide_eq_true_eq, decide_eq_true_eq]
      constructor
      · rintro (⟨k, k1, k2, k3⟩ | e)
        · exact ⟨k, by omega, k2, k3⟩
        · exact ⟨i, by omega, q, e⟩
      · rintro ⟨k, k1, k2, k3⟩
        by_cases e : k = i
        · subst e
          exact Or.inr k3
        · exact Or.inl ⟨k, by omega, k2, k3⟩
    · rw [if_neg q, ih, Bool.eq_iff_iff, decide_eq_true_eq, decide_eq_true_eq]
      constructor
      · rintro ⟨k, k1, k2, k3⟩
        exact ⟨k, by omega, k2, k3⟩
      · rintro ⟨k, k1, k2, k3⟩
        refine ⟨k, ?_, k2, k3⟩
        by_cases e : k = i
        · subst e
          exact absurd k2 q
        · omega
theorem l_nd_inj {l : List Nat} (hN : l.Nodup) {i j : Nat} (hi : i < l.length) (hj : j < l.length) (h : l.getD i 0 = l.getD j 0) : i = j := by
  have h1 := (l_idx hN hi (b := l.getD j 0)).mp h
  have h2 := (l_idx hN hj (b := l.getD j 0)).mp rfl
  omega
theorem l_bci_at {l : List Nat} (hN : l.Nodup) (m : Nat) {k : Nat} (hk : k < l.length) : (l_bci l m l.length).testBit (l.getD k 0) = m.testBit k := by
  rw [l_bci_bit, Bool.eq_iff_iff, decide_eq_true_eq]
  constructor
  · rintro ⟨j, j1, j2, j3⟩
    rw [← l_nd_inj hN j1 hk j3]
    exact j2
  · intro h
    exact ⟨k, hk, h, rfl⟩
theorem l_take_s {l : List Nat} {i : Nat} (h : i < l.length) : l.take (i + 1) = l.take i ++ [l.getD i 0] := by
  rw [List.take_succ, List.getElem?_eq_getElem h, List.getD_eq_getElem?_getD, List.getElem?_eq_getElem h]
  rfl
theorem l_wo_take {l : List Nat} (hN : l.Nodup) (m : Nat) : ∀ i, i ≤ l.length → l_wo l m i = l_bt (l.take i) (l_bci l m l.length)
  | 0, _ => by simp [l_wo, l_bt]
  | i + 1, h => by
    rw [l_wo, l_take_s (by omega), l_wo_take hN m i (by omega)]
    unfold l_bt
    rw [List.filter_append]
    have hb := l_bci_at hN m (show i < l.length by omega)
    generalize l.getD i 0 = b at hb ⊢
    by_cases q : m.testBit i = true
    · rw [if_pos q]
      simp [hb, q]
    · rw [if_neg q]
      simp only [Bool.not_eq_true] at q
      simp [hb, q]
theorem l_wo_bt {l : List Nat} (hN : l.Nodup) (m : Nat) : l_wo l m l.length = l_bt l (l_bci l m l.length) := by
  have := l_wo_take hN m l.length (Nat.le_refl _)
  rwa [List.take_length] at this
theorem l_hwi_wo (t : Nat → Nat) (l : List Nat) (m : Nat) : ∀ i, l_hwi t l m i = l_h t (l_wo l m i)
  | 0 => rfl
  | i + 1 => by
    rw [l_h_sum, l_hwi, l_hwi_wo t l m i, l_h_sum, l_wo]
    by_cases q : m.testBit i = true
    · rw [if_pos q, if_pos q]
      rfl
    · rw [if_neg q, if_neg q]
      simp
theorem l_hwi_bt {t : Nat → Nat} {l : List Nat} (hN : l.Nodup) (m : Nat) : l_hwi t l m l.length = l_h t (l_bt l (l_bci l m l.length)) := by rw [l_hwi_wo, l_wo_bt hN]
theorem l_bci_sub {l : List Nat} {N : Nat} (hl : ∀ b, b ∈ l → b < N) (m : Nat) : n_dif (l_bci l m l.length) (l_bits l N) = 0 := by
  rw [n_dif_0]
  intro b hb
  rw [l_bci_bit, decide_eq_true_eq] at hb
  obtain ⟨k, k1, k2, k3⟩ := hb
  have hm : b ∈ l := by rw [← k3]; exact l_getD_mem k1
  rw [l_bits_bit]
  exact decide_eq_true ⟨hl b hm, hm⟩
/-- the places of some books -/
def l_cho (l : List Nat) (S : Nat) : Nat → Nat
  | 0 => 0
  | i + 1 => if S.testBit (l.getD i 0) = true then l_cho l S i ||| 2 ^ i else l_cho l S i
theorem l_cho_bit (l : List Nat) (S : Nat) : ∀ i k, (l_cho l S i).testBit k = decide (k < i ∧ S.testBit (l.getD k 0) = true)
  | 0, k => by simp [l_cho]
  | i + 1, k => by
    have ih := l_cho_bit l S i k
    rw [l_cho]
    by_cases q : S.testBit (l.getD i 0) = true
    · rw [if_pos q, Nat.testBit_or, ih, Nat.testBit_two_pow, Bool.eq_iff_iff, Bool.or_eq_true, decide_eq_true_eq, decide_eq_true_eq, decide_eq_true_eq]
      constructor
      · rintro (⟨k1, k2⟩ | e)
        · exact ⟨by omega, k2⟩
        · subst e
          exact ⟨by omega, q⟩
      · rintro ⟨k1, k2⟩
        by_cases e : i = k
        · exact Or.inr e
        · exact Or.inl ⟨by omega, k2⟩
    · rw [if_neg q, ih, Bool.eq_iff_iff, decide_eq_true_eq, decide_eq_true_eq]
      constructor
      · rintro ⟨k1, k2⟩
        exact ⟨by omega, k2⟩
      · rintro ⟨k1, k2⟩
        refine ⟨?_, k2⟩
        by_cases e : k = i
        · subst e
          exact absurd k2 q
        · omega
theorem l_cho_lt (l : List Nat) (S : Nat) (i : Nat) : l_cho l S i < 2 ^ i := by
  rcases Nat.lt_or_ge (l_cho l S i) (2 ^ i) with q | q
  · exact q
  · exfalso
    obtain ⟨k, hk, hb⟩ := Nat.exists_ge_and_testBit_of_ge_two_pow q
    rw [l_cho_bit, decide_eq_true_eq] at hb
    omega
theorem l_bci_inv {l : List Nat} {N S : Nat} (h : n_dif S (l_bits l N) = 0) : l_bci l (l_cho l S l.length) l.length = S := by
  rw [n_dif_0] at h
  apply Nat.eq_of_testBit_eq
  intro b
  rw [l_bci_bit, Bool.eq_iff_iff, decide_eq_true_eq]
  constructor
  · rintro ⟨k, k1, k2, k3⟩
    rw [l_cho_bit, decide_eq_true_eq] at k2
    rw [← k3]
    exact k2.2
  · intro hb
    have h1 := h b hb
    rw [l_bits_bit, decide_eq_true_eq] at h1
    obtain ⟨k, k1, k2⟩ := List.mem_iff_getElem.mp h1.2
    have e : l.getD k 0 = b := by rw [List.getD_eq_getElem?_getD, List.getElem?_eq_getElem k1, k2]; rfl
    refine ⟨k, k1, ?_, e⟩
    rw [l_cho_bit, e]
    exact decide_eq_true ⟨k1, hb⟩
theorem l_bci_inj {l : List Nat} (hN : l.Nodup) {m m' : Nat} (h1 : m < 2 ^ l.length) (h2 : m' < 2 ^ l.length) (h : l_bci l m l.length = l_bci l m' l.length) : m = m' := by
  apply Nat.eq_of_testBit_eq
  intro k
  rcases Nat.lt_or_ge k l.length with q | q
  · rw [← l_bci_at hN m q, ← l_bci_at hN m' q, h]
  · rw [Nat.testBit_lt_two_pow (Nat.lt_of_lt_of_le h1 (Nat.pow_le_pow_right (by decide) q)), Nat.testBit_lt_two_pow (Nat.lt_of_lt_of_le h2 (Nat.pow_le_pow_right (by decide) q))]
theorem l_bci_one {l : List Nat} {k : Nat} (hk : k < l.length) : l_bci l (2 ^ k) l.length = 2 ^ (l.getD k 0) := by
  apply Nat.eq_of_testBit_eq
  intro b
  rw [l_bci_bit, Nat.testBit_two_pow, Bool.eq_iff_iff, decide_eq_true_eq, decide_eq_true_eq]
  constructor
  · rintro ⟨j, j1, j2, j3⟩
    rw [Nat.testBit_two_pow, decide_eq_true_eq] at j2
    subst j2
    exact j3
  · intro e
    exact ⟨k, hk, by rw [Nat.testBit_two_pow]; simp, e⟩
theorem n_dif_sub {a b : Nat} (h : n_dif a b = 0) : a ≤ b := by
  have e : a = a &&& b := by
    apply Nat.eq_of_testBit_eq
    intro i
    rw [Nat.testBit_and]
    by_cases q : a.testBit i = true
    · rw [q, (n_dif_0 a b).mp h i q]
      rfl
    · simp only [Bool.not_eq_true] at q
      rw [q]
      rfl
  rw [e]
  exact Nat.and_le_right
theorem zn_bd0 : ∀ a, a < 13 → ∀ b, b < 13 → ((nI a - nI b < 0) ↔ a < b) ∧ ((nI a - nI b = 0) ↔ a = b) := by decide +kernel
/-! the most that can be spared -/
/-- the best of what was tried -/
def a_opt (V : Nat → Bool) (P : Nat → Prop) (B : Nat) : Prop := V B = true ∧ ∀ S, P S → V S = true → n_bc S < n_bc B ∨ (n_bc S = n_bc B ∧ B ≤ S)
theorem a_opt_eq {V : Nat → Bool} {B B' : Nat} (h : a_opt V (fun _ => True) B) (h' : a_opt V (fun _ => True) B') : B = B' := by
  have h1 := h.2 B' trivial h'.1
  have h2 := h'.2 B trivial h.1
  omega
theorem a_spo_opt {E : (Nat → Int32) → Int32} {s : aS} {v : aV} {c h : Nat} (h0 : a_spV E s v c h 0 = true) : ∀ i, a_opt (a_spV E s v c h) (fun S => S ≤ i) (a_spo E s v c h i)
  | 0 => ⟨h0, fun S hS _ => by
    have : S = 0 := by omega
    subst this
    exact Or.inr ⟨rfl, Nat.le_refl _⟩⟩
  | i + 1 => by
    obtain ⟨g1, g2⟩ := a_spo_opt h0 i
    rw [a_spo]
    by_cases q : a_spV E s v c h (i + 1) = true ∧ n_bc (a_spo E s v c h i) < n_bc (i + 1)
    · rw [if_pos q]
      refine ⟨q.1, fun S hS hV => ?_⟩
      by_cases e : S = i + 1
      · subst e
        exact Or.inr ⟨rfl, Nat.le_refl _⟩
      · have := g2 S (by omega) hV
        omega
    · rw [if_neg q]
      refine ⟨g1, fun S hS hV => ?_⟩
      by_cases e : S = i + 1
      · subst e
        have hle := a_spo_le E s v c h i
        have : ¬ n_bc (a_spo E s v c h i) < n_bc (i + 1) := fun z => q ⟨hV, z⟩
        omega
      · exact g2 S (by omega) hV
theorem a_spc_opt {E : (Nat → Int32) → Int32} {s : aS} {v : aV} {c h : Nat} (h0 : a_spV E s v c h 0 = true) : a_opt (a_spV E s v c h) (fun _ => True) (a_spo E s v c h (l_bits (v_p v c) (s_n s))) := by
  obtain ⟨g1, g2⟩ := a_spo_opt h0 (l_bits (v_p v c) (s_n s))
  refine ⟨g1, fun S _ hV => g2 S ?_ hV⟩
  unfold a_spV at hV
  simp only [Bool.and_eq_true, decide_eq_true_eq] at hV
  exact n_dif_sub hV.1.1
section
variable {x : tX} {σ u : zS}
theorem cT.keepX {s : aS} {dy : Nat} {R K : Nat → Prop} (h : cT s dy σ 43) (hF : cX R K σ u) (h1 : ¬ R 43 ∧ ¬ R 44 ∧ ¬ R 45) : cT s dy u 43 := by
  unfold cT
  rw [(hF.1 43 (by decide) h1.1).1, (hF.1 (43 + 1) (by decide) h1.2.1).1, (hF.1 (43 + 2) (by decide) h1.2.2).1]
  exact h
theorem cC.keepX {s : aS} {dy c : Nat} {l : List Nat} {R K : Nat → Prop} (h : cC s dy σ 43 c l) (hF : cX R K σ u) (h1 : ∀ q, 43 ≤ q → q ≤ 52 → ¬ R q) : cC s dy u 43 c l := h.keep (hF.1 43 (by decide) (h1 _ (by omega) (by omega))).1 (hF.1 (43 + 1) (by decide) (h1 _ (by omega) (by omega))).1 (hF.1 (43 + 2) (by decide) (h1 _ (by omega) (by omega))).1 (hF.1 (43 + 6) (by decide) (h1 _ (by omega) (by omega))).1 (hF.1 (43 + 7) (by decide) (h1 _ (by omega) (by omega))).1
/-- the frame of trials -/
abbrev c_tO (q : Nat) : Prop := (43 ≤ q ∧ q ≤ 52) ∨ q = 55 ∨ q = 60
theorem cX.tr1 (h : cX c_tO (fun _ => False) σ u) : cX c_sO (fun _ => False) σ u := h.mono (by unfold c_tO c_sO; omega) (fun _ h => h)
theorem cc_mostSpared (h : cA x σ) (hT : cT (x_s x) (v_y (x_v x)) σ 43) {c hh : Nat} (hc : c < s_c (x_s x)) (h99 : hh ≤ 99) (hhi : hh ≤ a_h (x_s x) (x_v x) c) : z_Ci 5 zm_Walls_mostSpared [.inr 0, .inl (nI c), .inl (nI hh)] σ (fun r u => r = nI (a_spo (x_E x) (x_s x) (x_v x) c hh (l_bits (v_p (x_v x) c) (s_n (x_s x)))) ∧ cT (x_s x) (v_y (x_v x)) u 43 ∧ cX c_tO (fun _ => False) σ u) := by
  have h6 := h.1.c6
  have hn := h.1.n
  have hC := h.1.cC hc
  have h4 := hC.l4
  have hN := h.1.1.nd hc
  have hl : ∀ b, b ∈ v_p (x_v x) c → b < s_n (x_s x) := fun b hb => ((h.1.1.mm hc b).mp hb).1
  have hor := h.2.2.1.oR
  have hp4 : 2 ^ (v_p (x_v x) c).length ≤ 16 := Nat.pow_le_pow_right (n := 2) (by decide) h4
  have e0 : (0 : Int32) = nI 0 := rfl
  refine z_Ci_of (by decide) (Nat.le_of_ble_eq_true rfl) (fun Γ hd he => ?_)
  show z_J Γ zm_Walls_mostSpared 0 [some (.inr 0), some (.inl (nI c)), some (.inl (nI hh)), none, none, none, none, none] [] σ
  refine zb_Walls_mostSpared_0 hor (lc_holdsUp z_c33 hor hC h.2.2.1.2) (by omega) (fun r u1 hr => ?_)
  obtain ⟨rfl, F1⟩ := hr
  have G1 : cX c_tO (fun _ => False) σ u1 := (z_frR hor F1).mono (by unfold c_tO; omega) (fun _ h => h)
  have T1 : cT (x_s x) (v_y (x_v x)) u1 43 := hT.keepX (z_frR hor F1) (by omega)
  refine zb_Walls_mostSpared_12 ?_
  have hlt : ∀ m, l_bci (v_p (x_v x) c) m (v_p (x_v x) c).length < 4096 := fun m => Nat.lt_of_le_of_lt (n_dif_sub (l_bci_sub hl m)) (l_bits_12 hn)
  have hV0 : a_spV (x_E x) (x_s x) (x_v x) c hh 0 = true := by
    unfold a_spV
    rw [l_bt0]
    simp only [Bool.and_eq_true, decide_eq_true_eq]
    refine ⟨⟨by rw [n_dif_0]; intro i hi; simp at hi, hhi⟩, ?_⟩
    cases l_ho (x_E x) (x_s x) (v_y (x_v x)) c (v_p (x_v x) c) <;> rfl
  have hVe : ∀ m, a_spV (x_E x) (x_s x) (x_v x) c hh (l_bci (v_p (x_v x) c) m (v_p (x_v x) c).length) = (decide (hh ≤ a_hw (x_s x) (x_v x) c m) && (!(l_ho (x_E x) (x_s x) (v_y (x_v x)) c (v_p (x_v x) c)) || l_ho (x_E x) (x_s x) (v_y (x_v x)) c (l_wo (v_p (x_v x) c) m (v_p (x_v x) c).length))) := fun m => by
    unfold a_spV a_hw
    rw [l_bci_sub hl m, l_hwi_bt hN, l_wo_bt hN]
    simp
  have hb0 : l_bci (v_p (x_v x) c) 0 (v_p (x_v x) c).length = 0 := by
    apply Nat.eq_of_testBit_eq
    intro b
    rw [l_bci_bit]
    simp
  refine zj_forM (fun k L w => ∃ i B, k = 2 ^ (v_p (x_v x) c).length - i ∧ 1 ≤ i ∧ i ≤ 2 ^ (v_p (x_v x) c).length ∧ L = [some (.inr 0), some (.inl (nI c)), some (.inl (nI hh)), some (.inl (z_tf (l_ho (x_E x) (x_s x) (v_y (x_v x)) c (v_p (x_v x) c)))), some (.inl (nI B)), some (.inl (nI i)), none, none] ∧ B < 4096 ∧ a_opt (a_spV (x_E x) (x_s x) (x_v x) c hh) (fun S => ∃ j, j < i ∧ S = l_bci (v_p (x_v x) c) j (v_p (x_v x) c).length) B ∧ cT (x_s x) (v_y (x_v x)) w 43 ∧ cX c_tO (fun _ => False) σ w) (fun k L w hI kk => ?_) (2 ^ (v_p (x_v x) c).length - 1) _ u1 ⟨1, 0, rfl, Nat.le_refl _, Nat.one_le_two_pow, rfl, by omega, ⟨hV0, fun S hS _ => ?_⟩, T1, G1⟩
  rotate_left
  · obtain ⟨j, hj, e⟩ := hS
    have : j = 0 := by omega
    subst this
    rw [hb0] at e
    subst e
    exact Or.inr ⟨rfl, Nat.le_refl _⟩
  obtain ⟨i, B, rfl, hi1, hi2, rfl, hB, hO, hTw, hFw⟩ := hI
  have Aw := (h.low hFw.tr1).1
  have hCw := Aw.1.cC hc
  have horw := Aw.2.2.1.oR
  refine zb_Walls_mostSpared_19 (k1 := c) (z_ixn (by omega)) (fun q => ?_) (fun q => ?_)
  · rw [hCw.fM, zn_shl (by omega), zn_le (by omega) (by omega)] at q
    refine zb_Walls_mostSpared_137 ?_
    have e : B = a_spo (x_E x) (x_s x) (x_v x) c hh (l_bits (v_p (x_v x) c) (s_n (x_s x))) := by
      refine a_opt_eq ⟨hO.1, fun S _ hV => hO.2 S ?_ hV⟩ (a_spc_opt hV0)
      have hs : n_dif S (l_bits (v_p (x_v x) c) (s_n (x_s x))) = 0 := by
        unfold a_spV at hV
        simp only [Bool.and_eq_true, decide_eq_true_eq] at hV
        exact hV.1.1
      exact ⟨l_cho (v_p (x_v x) c) S (v_p (x_v x) c).length, Nat.lt_of_lt_of_le (l_cho_lt _ _ _) (by omega), (l_bci_inv hs).symm⟩
    rw [he, e]
    exact ⟨_, rfl, rfl, hTw, hFw⟩
  rw [hCw.fM, zn_shl (by omega), zn_le (by omega) (by omega)] at q
  refine zb_Walls_mostSpared_35 (lc_bitsChosen z_c33 hCw (by omega)) (by omega) (fun r w1 hr => ?_)
  obtain ⟨rfl, rfl⟩ := hr
  have hbi := hlt i
  have next : ∀ w2 B', cT (x_s x) (v_y (x_v x)) w2 43 → cX c_tO (fun _ => False) σ w2 → B' < 4096 → a_opt (a_spV (x_E x) (x_s x) (x_v x) c hh) (fun S => ∃ j, j < i + 1 ∧ S = l_bci (v_p (x_v x) c) j (v_p (x_v x) c).length) B' → z_J Γ zm_Walls_mostSpared 131 [some (.inr 0), some (.inl (nI c)), some (.inl (nI hh)), some (.inl (z_tf (l_ho (x_E x) (x_s x) (v_y (x_v x)) c (v_p (x_v x) c)))), some (.inl (nI B')), some (.inl (nI i)), none, none] [] w2 := by
    intro w2 B' a1 a2 a3 a4
    refine zb_Walls_mostSpared_131 ?_
    rw [nI_add]
    exact kk _ _ w2 (show 2 ^ (v_p (x_v x) c).length - (i + 1) < 2 ^ (v_p (x_v x) c).length - i by omega) ⟨i + 1, B', rfl, by omega, by omega, rfl, a3, a4, a1, a2⟩
  have same : (a_spV (x_E x) (x_s x) (x_v x) c hh (l_bci (v_p (x_v x) c) i (v_p (x_v x) c).length) = true → n_bc (l_bci (v_p (x_v x) c) i (v_p (x_v x) c).length) < n_bc B ∨ (n_bc (l_bci (v_p (x_v x) c) i (v_p (x_v x) c).length) = n_bc B ∧ B ≤ l_bci (v_p (x_v x) c) i (v_p (x_v x) c).length)) → a_opt (a_spV (x_E x) (x_s x) (x_v x) c hh) (fun S => ∃ j, j < i + 1 ∧ S = l_bci (v_p (x_v x) c) j (v_p (x_v x) c).length) B := by
    intro z
    refine ⟨hO.1, fun S hS hV => ?_⟩
    obtain ⟨j, hj, e⟩ := hS
    by_cases e2 : j = i
    · subst e2
      subst e
      exact z hV
    · exact hO.2 S ⟨j, by omega, e⟩ hV
  have hnb := n_bc_le (l_bci (v_p (x_v x) c) i (v_p (x_v x) c).length)
  have hnB := n_bc_le B
  have z0 := zn_bd0 (n_bc (l_bci (v_p (x_v x) c) i (v_p (x_v x) c).length)) (by omega) (n_bc B) (by omega)
  have ez : z_bc (nI (l_bci (v_p (x_v x) c) i (v_p (x_v x) c).length)) - z_bc (nI B) = nI (n_bc (l_bci (v_p (x_v x) c) i (v_p (x_v x) c).length)) - nI (n_bc B) := by
    rw [zn_bc _ hbi, zn_bc _ hB]
    rfl
  -- the height, and whether it holds
  have weigh : ((n_bc B < n_bc (l_bci (v_p (x_v x) c) i (v_p (x_v x) c).length)) ∨ (n_bc B = n_bc (l_bci (v_p (x_v x) c) i (v_p (x_v x) c).length) ∧ l_bci (v_p (x_v x) c) i (v_p (x_v x) c).length ≤ B)) → z_J Γ zm_Walls_mostSpared 77 [some (.inr 0), some (.inl (nI c)), some (.inl (nI hh)), some (.inl (z_tf (l_ho (x_E x) (x_s x) (v_y (x_v x)) c (v_p (x_v x) c)))), some (.inl (nI B)), some (.inl (nI i)), some (.inl (nI (l_bci (v_p (x_v x) c) i (v_p (x_v x) c).length))), none] [] w1 := by
    intro hbest
    have h36 : a_hw (x_s x) (x_v x) c i ≤ 36 := by
      have := l_hwi_le hC (m := i) (v_p (x_v x) c).length (Nat.le_refl _)
      unfold a_hw
      omega
    refine zb_Walls_mostSpared_77 (lc_heightWithout z_c33 hCw (by omega)) (by omega) (fun r w2 hr => ?_)
    obtain ⟨rfl, rfl⟩ := hr
    refine zb_Walls_mostSpared_87 (fun q2 => ?_) (fun q2 => ?_)
    rotate_left
    · rw [zn_le (by omega) (show a_hw (x_s x) (x_v x) c i < 2147483648 by omega)] at q2
      refine zb_Walls_mostSpared_91 (next _ _ hTw hFw hB (same (fun z => ?_)))
      rw [hVe, Bool.and_eq_true, decide_eq_true_eq] at z
      exact absurd z.1 q2
    rw [zn_le (by omega) (show a_hw (x_s x) (x_v x) c i < 2147483648 by omega)] at q2
    refine zb_Walls_mostSpared_94 (cc_copyWithout z_c43 z_c33 (by decide) hTw hCw (by omega)) (by omega) (fun w3 hr => ?_)
    obtain ⟨hC3, F3⟩ := hr
    have G3 : cX (fun q => q = 49 ∨ q = 50) (fun _ => False) w2 w3 := F3.cX (by omega) (fun q hq => hq)
    have T3 := hTw.keepX G3 (by omega)
    have X3 : cX c_tO (fun _ => False) σ w3 := hFw.tr (G3.mono (by unfold c_tO; omega) (fun _ h => h))
    have upd : a_spV (x_E x) (x_s x) (x_v x) c hh (l_bci (v_p (x_v x) c) i (v_p (x_v x) c).length) = true → a_opt (a_spV (x_E x) (x_s x) (x_v x) c hh) (fun S => ∃ j, j < i + 1 ∧ S = l_bci (v_p (x_v x) c) j (v_p (x_v x) c).length) (l_bci (v_p (x_v x) c) i (v_p (x_v x) c).length) := by
      intro z
      refine ⟨z, fun S hS hV => ?_⟩
      obtain ⟨j, hj, e⟩ := hS
      by_cases e2 : j = i
      · subst e2
        subst e
        exact Or.inr ⟨rfl, Nat.le_refl _⟩
      · have := hO.2 S ⟨j, by omega, e⟩ hV
        omega
    refine zb_Walls_mostSpared_108 (fun q3 => ?_) (fun q3 => ?_)
    · rw [z_tf_eq0] at q3
      refine zb_Walls_mostSpared_127 (next _ _ T3 X3 hbi (upd ?_))
      rw [hVe, q3, decide_eq_true q2]
      rfl
    · rw [z_tf_eq0, Bool.not_eq_false] at q3
      have A3 := (h.low X3.tr1).1
      have hor3 := A3.2.2.1.oR
      refine zb_Walls_mostSpared_112 hor3 (lc_holdsUp z_c43 hor3 hC3 A3.2.2.1.2) (by omega) (fun r w4 hr => ?_)
      obtain ⟨rfl, F4⟩ := hr
      have G4 := z_frR hor3 F4
      have T4 := T3.keepX G4 (by omega)
      have X4 : cX c_tO (fun _ => False) σ w4 := X3.tr (G4.mono (by unfold c_tO; omega) (fun _ h => h))
      refine zb_Walls_mostSpared_124 (fun q4 => ?_) (fun q4 => ?_)
      · rw [z_tf_eq0] at q4
        refine next _ _ T4 X4 hB (same (fun z => ?_))
        rw [hVe, q3, q4] at z
        simp at z
      · rw [z_tf_eq0, Bool.not_eq_false] at q4
        refine zb_Walls_mostSpared_127 (next _ _ T4 X4 hbi (upd ?_))
        rw [hVe, q3, q4, decide_eq_true q2]
        rfl
  refine zb_Walls_mostSpared_45 (by omega) (fun q1 => ?_) (fun q1 => ?_)
  · rw [ez, z0.1] at q1
    exact next _ _ hTw hFw hB (same (fun _ => Or.inl q1))
  · rw [ez] at q1 ⊢
    rw [z0.1] at q1
    refine zb_Walls_mostSpared_65 (fun q2 => ?_) (fun q2 => ?_)
    · rw [z0.2] at q2
      exact weigh (Or.inl (by omega))
    · rw [z0.2] at q2
      refine zb_Walls_mostSpared_70 (fun q3 => ?_) (fun q3 => ?_)
      · rw [zn_lt (by omega) (by omega)] at q3
        exact next _ _ hTw hFw hB (same (fun _ => Or.inr ⟨q2, by omega⟩))
      · rw [zn_lt (by omega) (by omega)] at q3
        exact weigh (Or.inr ⟨q2.symm, by omega⟩)
theorem cp_spares (h : cA x σ) (a : Int32) : z_Ci 7 zm_Walls_spares [.inr 0, .inl a] σ (fun r u => r = (to_spares x a).1 ∧ cA (to_spares x a).2 u ∧ zW σ u) := by
  have h6 := h.1.c6
  refine z_Ci_of (by decide) (Nat.le_of_ble_eq_true rfl) (fun Γ hd he => ?_)
  show z_J Γ zm_Walls_spares 0 [some (.inr 0), some (.inl a), none, none] [] σ
  refine zb_Walls_spares_0 (cc_isHeight _ _) (by omega) (fun r u hr => ?_)
  obtain ⟨rfl, rfl⟩ := hr
  refine zb_Walls_spares_4 (fun k => ?_) (fun k => ?_)
  rotate_left
  · rw [z_tf_eq0] at k
    refine zb_Walls_spares_7 ?_
    rw [he, to_spares, if_neg (fun q => by simp [q.1, q.2] at k)]
    exact ⟨_, rfl, rfl, h, zW.rf⟩
  rw [z_tf_eq0, Bool.not_eq_false, Bool.and_eq_true, decide_eq_true_eq, decide_eq_true_eq] at k
  obtain ⟨n, hn, rfl⟩ := z_0to (by decide) k
  rw [to_spares, if_pos k, nI_clamp (by omega)] at he
  refine zb_Walls_spares_9 (cc_copyFrom z_c43 z_c33 (by decide) h.1) (by omega) (fun u1 hr => ?_)
  obtain ⟨R1, F1⟩ := hr
  have G1 : cX c_tO (fun _ => False) u u1 := F1.cX (by show ¬ (43 ≤ 0 ∧ 0 ≤ 52); omega) (fun q hq => Or.inl hq)
  refine zb_Walls_spares_20 ?_
  refine zj_forS (b := s_c (x_s x)) (fun i => [some (.inr 0), some (.inl (nI n)), some (.inl (nI (a_sps (x_E x) (x_s x) (x_v x) n i))), some (.inl (nI i))])
    (fun i w => cT (x_s x) (v_y (x_v x)) w 43 ∧ cX c_tO (fun _ => False) u w) (fun i w hi hI kk => ?_) (fun w hI => ?_) 0 (Nat.zero_le _) u1 ⟨R1.cT, G1⟩
  · obtain ⟨hT, hF⟩ := hI
    have Aw := (h.low hF.tr1).1
    have h36 := a_h_le Aw.1 hi
    refine zb_Walls_spares_24 (fun q => ?_) (fun _ => ?_)
    · rw [Aw.1.fc] at q
      exact absurd q (nI_ge hi (by omega))
    refine zb_Walls_spares_35 (cc_heightOf z_c33 Aw.1 hi) (by omega) (fun r w1 hr => ?_)
    obtain ⟨rfl, rfl⟩ := hr
    refine zb_Walls_spares_43 (fun q => ?_) (fun q => ?_)
    · rw [zn_lt (by omega) (by omega)] at q
      refine zb_Walls_spares_56 ?_
      have k2 := kk w1 ⟨hT, hF⟩
      have e1 : a_spc (x_E x) (x_s x) (x_v x) i n = 0 := if_pos q
      rw [a_sps, e1, Nat.or_zero] at k2
      rw [nI_add]
      exact k2
    · rw [zn_lt (by omega) (by omega)] at q
      refine zb_Walls_spares_47 (cc_mostSpared Aw hT hi hn (by omega)) (by omega) (fun r w2 hr => ?_)
      obtain ⟨rfl, T2, F2⟩ := hr
      refine zb_Walls_spares_54 (zb_Walls_spares_56 ?_)
      have k2 := kk w2 ⟨T2, hF.tr F2⟩
      have e1 : a_spc (x_E x) (x_s x) (x_v x) i n = a_spo (x_E x) (x_s x) (x_v x) i n (l_bits (v_p (x_v x) i) (s_n (x_s x))) := if_neg q
      rw [a_sps, e1] at k2
      rw [nI_add, zn_or]
      exact k2
  · obtain ⟨hT, hF⟩ := hI
    have Aw := (h.low hF.tr1).1
    refine zb_Walls_spares_24 (fun _ => ?_) (fun q => ?_)
    · refine zb_Walls_spares_62 (cc_tell _ _) (by omega) (fun u2 h2 => ?_)
      refine zb_Walls_spares_67 (by omega) ?_
      rw [he]
      exact ⟨_, rfl, rfl, h.row ((hF.mono (by unfold c_tO c_qO c_sO; omega) (fun _ h => h.elim)).tr (h2.2.mono (fun _ h => Or.inr h) (fun _ h => h))) h2.1⟩
    · rw [Aw.1.fc] at q
      exact absurd (Int32.le_refl _) q
end
