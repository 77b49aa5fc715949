/-! what stays true of lent books -/
theorem a_lo_bit (v : aV) (r : Nat) : ∀ n b, (a_lo v r n).testBit b = decide (b < n ∧ v_w v b = 2 ∧ v_h v b = r)
  | 0, b => by simp [a_lo]
  | n + 1, b => by
    have ih := a_lo_bit v r n b
    rw [a_lo]
    by_cases q : v_w v n = 2 ∧ v_h v n = r
    · rw [if_pos q, Nat.testBit_or, ih, Nat.testBit_two_pow]
      by_cases e : n = b
      · subst e
        simp [q]
      · have : (b < n + 1 ∧ v_w v b = 2 ∧ v_h v b = r) ↔ (b < n ∧ v_w v b = 2 ∧ v_h v b = r) := by
          constructor
          · rintro ⟨h1, h2⟩; exact ⟨by omega, h2⟩
          · rintro ⟨h1, h2⟩; exact ⟨by omega, h2⟩
        simp [e, this]
    · rw [if_neg q, ih]
      have : (b < n + 1 ∧ v_w v b = 2 ∧ v_h v b = r) ↔ (b < n ∧ v_w v b = 2 ∧ v_h v b = r) := by
        constructor
        · rintro ⟨h1, h2⟩
          refine ⟨?_, h2⟩
          by_cases e : b = n
          · subst e; exact absurd h2 q
          · omega
        · rintro ⟨h1, h2⟩; exact ⟨by omega, h2⟩
      simp only [this]
theorem a_lo_12 {v : aV} {r n : Nat} (hn : n ≤ 12) : a_lo v r n < 4096 := by
  rcases Nat.lt_or_ge (a_lo v r n) 4096 with q | q
  · exact q
  · exfalso
    obtain ⟨i, hi, hb⟩ := Nat.exists_ge_and_testBit_of_ge_two_pow (n := 12) q
    rw [a_lo_bit, decide_eq_true_eq] at hb
    omega
theorem n_bc_mono {m m' : Nat} (h : ∀ i, m.testBit i = true → m'.testBit i = true) : n_bc m ≤ n_bc m' := by
  have key : ∀ n, m_thk (fun _ => 1) m n ≤ m_thk (fun _ => 1) m' n := by
    intro n
    induction n with
    | zero => exact Nat.le_refl _
    | succ n ih =>
      rw [m_thk, m_thk]
      by_cases q : m.testBit n = true
      · rw [if_pos q, if_pos (h n q)]
        omega
      · rw [if_neg q]
        split <;> omega
  exact key 12
theorem n_bc_add {m m' b : Nat} (h : ∀ i, i ≠ b → m.testBit i = true → m'.testBit i = true) : n_bc m ≤ n_bc m' + 1 := by
  have key : ∀ n, m_thk (fun _ => 1) m n ≤ m_thk (fun _ => 1) m' n + (if b < n then 1 else 0) := by
    intro n
    induction n with
    | zero => exact Nat.le_refl _
    | succ n ih =>
      rw [m_thk, m_thk]
      by_cases e : n = b
      · subst e
        rw [if_neg (by omega)] at ih
        rw [if_pos (show n < n + 1 by omega)]
        have : (if m.testBit n = true then 1 else 0) ≤ 1 := by split <;> omega
        omega
      · have hi : (if b < n then 1 else 0) = (if b < n + 1 then 1 else 0) := by
          by_cases z : b < n
          · rw [if_pos z, if_pos (by omega)]
          · rw [if_neg z, if_neg (by omega)]
        rw [← hi]
        by_cases q : m.testBit n = true
        · rw [if_pos q, if_pos (h n e q)]
          omega
        · rw [if_neg q]
          have : 0 ≤ (if m'.testBit n = true then 1 else 0) := Nat.zero_le _
          omega
  have := key 12
  have h2 : (if b < 12 then 1 else 0) ≤ 1 := by split <;> omega
  show m_thk (fun _ => 1) m 12 ≤ m_thk (fun _ => 1) m' 12 + 1
  omega
section
variable {s : aS} {v w : aV}
theorem a_L3_n (hn : s_n s ≤ 12) : a_L3 s v ↔ ∀ r, r < s_r s → n_bc (a_lo v r (s_n s)) ≤ 3 := by
  unfold a_L3
  constructor
  · intro h r hr
    have := h r hr
    rw [zn_bc _ (a_lo_12 hn), zn_le (by have := n_bc_le (a_lo v r (s_n s)); unfold n_bc at this; omega) (by omega)] at this
    exact this
  · intro h r hr
    have := h r hr
    rw [zn_bc _ (a_lo_12 hn), zn_le (by have := n_bc_le (a_lo v r (s_n s)); unfold n_bc at this; omega) (by omega)]
    exact this
/-- what is lent, days and so on: kept by all acts -/
def aT (s : aS) (v : aV) (B : Nat) : Prop := a_L3 s v ∧ a_D s v ∧ v_y v ≤ B
theorem aT.sub {B : Nat} (h : aT s v B) (hn : s_n s ≤ 12) (hs : ∀ b, b < s_n s → v_w w b = 2 → v_w v b = 2 ∧ v_h w b = v_h v b ∧ v_d w b = v_d v b) (hy : v_y w = v_y v) : aT s w B := by
  obtain ⟨h1, h2, h3⟩ := h
  refine ⟨?_, fun b hb hw => ?_, by omega⟩
  · rw [a_L3_n hn] at h1 ⊢
    intro r hr
    refine Nat.le_trans (n_bc_mono (fun i hi => ?_)) (h1 r hr)
    rw [a_lo_bit, decide_eq_true_eq] at hi ⊢
    obtain ⟨q1, q2, q3⟩ := hs i hi.1 hi.2.1
    exact ⟨hi.1, q1, by rw [← q2]; exact hi.2.2⟩
  · obtain ⟨q1, q2, q3⟩ := hs b hb hw
    rw [q2, q3, hy]
    exact h2 b hb q1
theorem aT.put {B b c : Nat} (h : aT s v B) (hn : s_n s ≤ 12) : aT s (a_put v b c) B := h.sub hn (fun b' hb' hw => by
  change a_up (v_w v) b 1 b' = 2 at hw
  by_cases e : b' = b
  · rw [e, a_up_s] at hw; omega
  · rw [a_up_n e] at hw
    refine ⟨hw, ?_, rfl⟩
    show a_up (v_h v) b c b' = _
    rw [a_up_n e]) rfl
theorem aT.lift {B b t : Nat} (h : aT s v B) (hn : s_n s ≤ 12) (ht : t ≠ 2) : aT s (a_lift v b t) B := h.sub hn (fun b' hb' hw => by
  change a_up (v_w v) b t b' = 2 at hw
  by_cases e : b' = b
  · rw [e, a_up_s] at hw; omega
  · rw [a_up_n e] at hw
    exact ⟨hw, rfl, rfl⟩) rfl
theorem aT.lend {B b r n : Nat} (h : aT s v B) (hn : s_n s ≤ 12) (hb : b < s_n s) (h1 : 1 ≤ n) (h30 : n ≤ 30) (h3 : ¬ nI 3 ≤ z_bc (nI (a_lo v r (s_n s)))) (hw : v_w v b ≠ 2) : aT s (a_lend v b r (v_y v + n)) B := by
  obtain ⟨g1, g2, g3⟩ := h
  refine ⟨?_, fun b' hb' hw' => ?_, g3⟩
  · rw [a_L3_n hn] at g1 ⊢
    intro r' hr'
    by_cases e : r' = r
    · subst e
      rw [zn_bc _ (a_lo_12 hn), zn_le (by omega) (by have := n_bc_le (a_lo v r' (s_n s)); unfold n_bc at this; omega)] at h3
      have h3' : n_bc (a_lo v r' (s_n s)) ≤ 2 := by unfold n_bc; omega
      have := n_bc_add (m := a_lo (a_lend v b r' (v_y v + n)) r' (s_n s)) (m' := a_lo v r' (s_n s)) (b := b) (fun i hi hb2 => by
        rw [a_lo_bit, decide_eq_true_eq] at hb2 ⊢
        obtain ⟨q1, q2, q3⟩ := hb2
        change a_up (v_w v) b 2 i = 2 at q2
        change a_up (v_h v) b r' i = r' at q3
        rw [a_up_n hi] at q2 q3
        exact ⟨q1, q2, q3⟩)
      omega
    · refine Nat.le_trans (n_bc_mono (fun i hi => ?_)) (g1 r' hr')
      rw [a_lo_bit, decide_eq_true_eq] at hi ⊢
      obtain ⟨q1, q2, q3⟩ := hi
      change a_up (v_w v) b 2 i = 2 at q2
      change a_up (v_h v) b r i = r' at q3
      by_cases e2 : i = b
      · rw [e2, a_up_s] at q3
        omega
      · rw [a_up_n e2] at q2 q3
        exact ⟨q1, q2, q3⟩
  · change a_up (v_w v) b 2 b' = 2 at hw'
    show v_y v < a_up (v_d v) b (v_y v + n) b' + s_l s (a_up (v_h v) b r b') ∧ a_up (v_d v) b (v_y v + n) b' ≤ v_y v + 30
    by_cases e : b' = b
    · rw [e, a_up_s, a_up_s]
      omega
    · rw [a_up_n e] at hw'
      rw [a_up_n e, a_up_n e]
      exact g2 b' hb' hw'
/-- a day passes: what is due is back -/
theorem aT_pdi {B : Nat} (hI : aI s v) (h : aT s v B) (hB : B < 1073741824) (q : Nat × Nat) : ∀ n, n ≤ s_n s → (∀ b, b < s_n s → v_w (a_pdi s (v, q) n).1 b = 2 → v_w v b = 2 ∧ v_h (a_pdi s (v, q) n).1 b = v_h v b ∧ v_d (a_pdi s (v, q) n).1 b = v_d v b ∧ (b < n → v_d v b + s_l s (v_h v b) ≠ v_y v + 1)) ∧ v_y (a_pdi s (v, q) n).1 = v_y v + 1
  | 0, _ => ⟨fun b _ hw => ⟨hw, rfl, rfl, fun h => absurd h (by omega)⟩, rfl⟩
  | n + 1, hn => by
    obtain ⟨h1, h2⟩ := aT_pdi hI h hB q n (by omega)
    rw [a_pdi]
    by_cases hd : a_due s (a_pdi s (v, q) n).1 n = true
    · rw [if_pos hd]
      refine ⟨fun b hb hw => ?_, h2⟩
      change a_up (v_w (a_pdi s (v, q) n).1) n 0 b = 2 at hw
      by_cases e : b = n
      · rw [e, a_up_s] at hw; omega
      · rw [a_up_n e] at hw
        obtain ⟨q1, q2, q3, q4⟩ := h1 b hb hw
        exact ⟨q1, q2, q3, fun hlt => q4 (by omega)⟩
    · rw [if_neg hd]
      refine ⟨fun b hb hw => ?_, h2⟩
      obtain ⟨q1, q2, q3, q4⟩ := h1 b hb hw
      refine ⟨q1, q2, q3, fun hlt => ?_⟩
      by_cases e : b = n
      · subst e
        intro heq
        apply hd
        unfold a_due
        rw [q2, q3, h2, heq]
        simp [hw]
      · exact q4 (by omega)
theorem aT.pd {B : Nat} (h : aT s v B) (hI : aI s v) (hB : B < 1073741824) (q : Nat × Nat) : aT s (a_pd s (v, q)).1 (B + 1) := by
  obtain ⟨h1, h2⟩ := aT_pdi hI h hB q (s_n s) (Nat.le_refl _)
  obtain ⟨g1, g2, g3⟩ := id h
  have hn : s_n s ≤ 12 := hI.1.1
  refine ⟨?_, fun b hb hw => ?_, by show v_y (a_pdi s (v, q) (s_n s)).1 ≤ B + 1; omega⟩
  · rw [a_L3_n hn] at g1 ⊢
    intro r hr
    refine Nat.le_trans (n_bc_mono (fun i hi => ?_)) (g1 r hr)
    rw [a_lo_bit, decide_eq_true_eq] at hi ⊢
    obtain ⟨q1, q2, q3, q4⟩ := h1 i hi.1 hi.2.1
    exact ⟨hi.1, q1, by rw [← q2]; exact hi.2.2⟩
  · obtain ⟨q1, q2, q3, q4⟩ := h1 b hb hw
    have h5 := g2 b hb q1
    have h6 := q4 hb
    show v_y (a_pdi s (v, q) (s_n s)).1 < v_d (a_pdi s (v, q) (s_n s)).1 b + s_l s (v_h (a_pdi s (v, q) (s_n s)).1 b) ∧ v_d (a_pdi s (v, q) (s_n s)).1 b ≤ v_y (a_pdi s (v, q) (s_n s)).1 + 30
    rw [q2, q3, h2]
    omega
theorem aI_day (h : aI s v) : aI s (v_w v, v_h v, v_d v, v_f v, v_p v, v_y v + 1) := h
theorem aI_fine (h : aI s v) {b : Nat} (hr : v_h v b < s_r s) : aI s (a_fine s v b) := by
  obtain ⟨h1, h2, h3, h5, h6, h7, h8, h10, h11⟩ := h
  refine ⟨h1, h2, h3, h5, h6, h7, fun r hr2 => ?_, h10, h11⟩
  show a_up (v_f v) (v_h v b) _ r = 0
  rw [a_up_n (by omega)]
  exact h8 r hr2
theorem aI_pdi (h : aI s v) (q : Nat × Nat) : ∀ n, n ≤ s_n s → aI s (a_pdi s (v, q) n).1
  | 0, _ => h
  | n + 1, hn => by
    have ih := aI_pdi h q n (by omega)
    rw [a_pdi]
    by_cases hd : a_due s (a_pdi s (v, q) n).1 n = true
    · rw [if_pos hd]
      have hw : v_w (a_pdi s (v, q) n).1 n = 2 := by
        unfold a_due at hd
        rw [Bool.and_eq_true, decide_eq_true_eq] at hd
        exact hd.1
      exact aI_lift (aI_fine ih (ih.lt (by omega) hw)) (by show n < s_n s; omega) (Or.inl rfl)
    · rw [if_neg hd]
      exact ih
theorem aT_dn {B : Nat} (hI : aI s v) (h : aT s v B) (q : Nat × Nat) : ∀ n, B + n < 1073741824 → aI s (a_dn s (v, q) n).1 ∧ aT s (a_dn s (v, q) n).1 (B + n)
  | 0, _ => ⟨hI, h⟩
  | n + 1, hB => by
    obtain ⟨h1, h2⟩ := aT_dn hI h q n (by omega)
    exact ⟨aI_pdi h1 _ _ (Nat.le_refl _), h2.pd h1 (by omega) _⟩
theorem aI_shi (hI : aI s v) {c : Nat} (hc : c < s_c s) : ∀ n, aI s (a_shi v c n).1
  | 0 => hI
  | n + 1 => by
    have ih := aI_shi hI hc n
    rw [a_shi]
    split
    · exact ih
    · exact aI_lift ih (((ih.mm hc _).mp (l_getD_mem (by omega))).1) (Or.inr rfl)
theorem aT_shi {B c : Nat} (hn : s_n s ≤ 12) (h : aT s v B) : ∀ n, aT s (a_shi v c n).1 B
  | 0 => h
  | n + 1 => by
    have ih := aT_shi hn h (c := c) n
    rw [a_shi]
    split
    · exact ih
    · exact ih.lift hn (by decide)
theorem aT.mono {B B' : Nat} (h : aT s v B) (hb : B ≤ B') : aT s v B' := ⟨h.1, h.2.1, Nat.le_trans h.2.2 hb⟩
/-- each act keeps both -/
theorem aT_lay {B : Nat} {E : (Nat → Int32) → Int32} (hI : aI s v) (h : aT s v B) (a b : Int32) : aI s (a_lay E s v a b).2 ∧ aT s (a_lay E s v a b).2 B := by
  rcases a_lay0_c (E := E) hI a b with ⟨q1, q2⟩ | ⟨b', c', rfl, rfl, hb, hc, hw, h4, q1, q2⟩
  · rw [q2]; exact ⟨hI, h⟩
  · rw [q2]; exact ⟨aI_put hI hb (by omega) hc h4, h.put hI.1.1⟩
theorem aT_ln {B : Nat} (hI : aI s v) (h : aT s v B) (a b c : Int32) : aI s (a_ln s v a b c).2 ∧ aT s (a_ln s v a b c).2 B := by
  rcases a_ln0_c hI a b c with ⟨q1, q2⟩ | ⟨b', r', n', rfl, rfl, rfl, hb, hr, h1, h30, hw, h3, q1, q2⟩
  · rw [q2]; exact ⟨hI, h⟩
  · rw [q2]; exact ⟨aI_lend hI hb hr, h.lend hI.1.1 hb h1 h30 h3 (by omega)⟩
theorem aT_cb {B : Nat} (hI : aI s v) (h : aT s v B) (a : Int32) : aI s (a_cb s v a).2 ∧ aT s (a_cb s v a).2 B := by
  have hn : s_n s ≤ 12 := hI.1.1
  unfold a_cb
  split
  · rename_i k
    obtain ⟨b, hb, rfl⟩ := z_isn_t (by omega) k
    rw [nI_clamp (by omega)]
    split
    · exact ⟨aI_lift hI hb (Or.inl rfl), h.lift hn (by decide)⟩
    · exact ⟨hI, h⟩
  · exact ⟨hI, h⟩
theorem aT_sh {B : Nat} (hI : aI s v) (h : aT s v B) (a b : Int32) : aI s (a_sh s v a b).2.1 ∧ aT s (a_sh s v a b).2.1 B := by
  rcases a_sh0_c hI a b with ⟨q1, q2⟩ | ⟨c', n', rfl, rfl, hc, h1, h4, q1, q2⟩
  · rw [q2]; exact ⟨hI, h⟩
  · rw [q2]; exact ⟨aI_shi hI hc n', aT_shi hI.1.1 h n'⟩
end
