/-! the program: look -/
def k_c (f : Nat → Bool) : Nat → Nat
  | 0 => 0
  | n + 1 => k_c f n + (if f n = true then 1 else 0)
theorem k_c_thk (x : Nat) : ∀ n, m_thk (fun _ => 1) x n = k_c (fun j => x.testBit j) n
  | 0 => rfl
  | n + 1 => by rw [m_thk, k_c, k_c_thk x n]
theorem k_c_congr {f g : Nat → Bool} : ∀ n, (∀ j, j < n → f j = g j) → k_c f n = k_c g n
  | 0, _ => rfl
  | n + 1, h => by rw [k_c, k_c, k_c_congr n (fun j hj => h j (by omega)), h n (by omega)]
theorem k_c_up {f : Nat → Bool} {k : Nat} : ∀ n, k < n → k_c (fun j => if j = k then true else f j) n = k_c f n + (if f k = true then 0 else 1)
  | 0, h => absurd h (by omega)
  | n + 1, h => by
    rw [k_c, k_c]
    by_cases e : k = n
    · subst e
      have : k_c (fun j => if j = k then true else f j) k = k_c f k := k_c_congr k (fun j hj => if_neg (by omega))
      rw [this, if_pos (if_pos rfl)]
      by_cases q : f k = true
      · rw [if_pos q, if_pos q]
      · rw [if_neg q, if_neg q]
    · have e2 : (if n = k then true else f n) = f n := if_neg (fun z => e z.symm)
      rw [k_c_up n (by omega), e2]
      omega
section
variable {s : aS} {v : aV} {c : Nat}
theorem a_shw_c (hI : aI s v) (hc : c < s_c s) : ∀ i, (a_shw s (v_p v c) i).1 = k_c (a_shw s (v_p v c) i).2 64
  | 0 => rfl
  | i + 1 => by
    have ih := a_shw_c hI hc i
    rw [a_shw]
    by_cases q : n_dif i (l_bits (v_p v c) (s_n s)) = 0
    · rw [if_pos q]
      have hN := hI.nd hc
      have hl : ∀ b, b ∈ v_p v c → b < s_n s := fun b hb => ((hI.mm hc b).mp hb).1
      have e : n_dif (l_bits (v_p v c) (s_n s)) (n_dif (l_bits (v_p v c) (s_n s)) i) = i := by
        apply Nat.eq_of_testBit_eq
        intro j
        rw [n_dif_bit, n_dif_bit]
        have := (n_dif_0 _ _).mp q j
        cases h1 : i.testBit j with
        | false => simp
        | true => rw [this h1]; simp
      have h36 := l_bt36 hI hc (n_dif (l_bits (v_p v c) (s_n s)) i)
      rw [← m_thk_bt hN hl, e] at h36
      show (a_shw s (v_p v c) i).1 + (if (a_shw s (v_p v c) i).2 (m_thk (s_t s) i (s_n s)) = true then 0 else 1) = k_c (fun j => if j = m_thk (s_t s) i (s_n s) then true else (a_shw s (v_p v c) i).2 j) 64
      rw [k_c_up 64 (by omega), ih]
    · rw [if_neg q, ih]
theorem a_shw_iff (l : List Nat) (j : Nat) : ∀ i, (a_shw s l i).2 j = true ↔ ∃ i', i' < i ∧ n_dif i' (l_bits l (s_n s)) = 0 ∧ m_thk (s_t s) i' (s_n s) = j
  | 0 => ⟨fun h => absurd h (by simp [a_shw]), fun ⟨i', h, _⟩ => absurd h (by omega)⟩
  | i + 1 => by
    have ih := a_shw_iff l j i
    rw [a_shw]
    by_cases q : n_dif i (l_bits l (s_n s)) = 0
    · rw [if_pos q]
      show (if j = m_thk (s_t s) i (s_n s) then true else (a_shw s l i).2 j) = true ↔ _
      by_cases e : j = m_thk (s_t s) i (s_n s)
      · rw [if_pos e]
        exact ⟨fun _ => ⟨i, by omega, q, e.symm⟩, fun _ => rfl⟩
      · rw [if_neg e, ih]
        constructor
        · rintro ⟨i', a1, a2⟩
          exact ⟨i', by omega, a2⟩
        · rintro ⟨i', a1, a2, a3⟩
          refine ⟨i', ?_, a2, a3⟩
          by_cases z : i' = i
          · subst z; exact absurd a3.symm e
          · omega
    · rw [if_neg q, ih]
      constructor
      · rintro ⟨i', a1, a2⟩
        exact ⟨i', by omega, a2⟩
      · rintro ⟨i', a1, a2, a3⟩
        refine ⟨i', ?_, a2, a3⟩
        by_cases z : i' = i
        · subst z; exact absurd a2 q
        · omega
theorem y_hs_iff (j : Nat) : ∀ i, (y_hs s v c i).testBit j = true ↔ ∃ m, m < i ∧ a_hw s v c m = j
  | 0 => ⟨fun h => absurd h (by simp [y_hs]), fun ⟨m, h, _⟩ => absurd h (by omega)⟩
  | i + 1 => by
    have ih := y_hs_iff j i
    rw [y_hs, Nat.testBit_or, Bool.or_eq_true, ih, Nat.testBit_two_pow, decide_eq_true_eq]
    constructor
    · rintro (⟨m, a1, a2⟩ | e)
      · exact ⟨m, by omega, a2⟩
      · exact ⟨i, by omega, e⟩
    · rintro ⟨m, a1, a2⟩
      by_cases z : m = i
      · subst z; exact Or.inr a2
      · exact Or.inl ⟨m, by omega, a2⟩
theorem y_shc (hI : aI s v) (hc : c < s_c s) : m_thk (fun _ => 1) (y_hs s v c (2 ^ (v_p v c).length)) 64 = a_shc s (v_p v c) := by
  have hN := hI.nd hc
  have hl : ∀ b, b ∈ v_p v c → b < s_n s := fun b hb => ((hI.mm hc b).mp hb).1
  rw [k_c_thk]
  show _ = (a_shw s (v_p v c) (l_bits (v_p v c) (s_n s) + 1)).1
  rw [a_shw_c hI hc]
  refine k_c_congr 64 (fun j _ => ?_)
  rw [Bool.eq_iff_iff, y_hs_iff, a_shw_iff]
  constructor
  · rintro ⟨m, a1, a2⟩
    have a2' : l_hwi (s_t s) (v_p v c) m (v_p v c).length = j := a2
    rw [l_hwi_bt hN, ← m_thk_bt hN hl] at a2'
    have hsub : n_dif (n_dif (l_bits (v_p v c) (s_n s)) (l_bci (v_p v c) m (v_p v c).length)) (l_bits (v_p v c) (s_n s)) = 0 := by
      rw [n_dif_0]
      intro i hi
      rw [n_dif_bit, Bool.and_eq_true] at hi
      exact hi.1
    exact ⟨_, Nat.lt_succ_of_le (n_dif_sub hsub), hsub, a2'⟩
  · rintro ⟨i', a1, a2, a3⟩
    have hsub : n_dif (n_dif (l_bits (v_p v c) (s_n s)) i') (l_bits (v_p v c) (s_n s)) = 0 := by
      rw [n_dif_0]
      intro i hi
      rw [n_dif_bit, Bool.and_eq_true] at hi
      exact hi.1
    refine ⟨l_cho (v_p v c) (n_dif (l_bits (v_p v c) (s_n s)) i') (v_p v c).length, l_cho_lt _ _ _, ?_⟩
    show l_hwi (s_t s) (v_p v c) _ (v_p v c).length = j
    rw [l_hwi_bt hN, l_bci_inv hsub, ← m_thk_bt hN hl]
    have e : n_dif (l_bits (v_p v c) (s_n s)) (n_dif (l_bits (v_p v c) (s_n s)) i') = i' := by
      apply Nat.eq_of_testBit_eq
      intro j
      rw [n_dif_bit, n_dif_bit]
      have := (n_dif_0 _ _).mp a2 j
      cases h1 : i'.testBit j with
      | false => simp
      | true => rw [this h1]; simp
    rw [e, a3]
theorem k_c_le (f : Nat → Bool) : ∀ n, k_c f n ≤ n
  | 0 => Nat.le_refl _
  | n + 1 => by
    have := k_c_le f n
    rw [k_c]
    split <;> omega
end
theorem cp_look {x : tX} {σ : zS} (h : cA x σ) : z_Ci 3 zm_Walls_look [.inr 0] σ (fun r u => r = (to_look x).1 ∧ cA (to_look x).2 u ∧ zW σ u) := by
  have h6 := h.1.c6
  refine z_Ci_of (by decide) (Nat.le_of_ble_eq_true rfl) (fun Γ hd he => ?_)
  show z_J Γ zm_Walls_look 0 [some (.inr 0), none, none, none, none] [] σ
  have hs64 : ∀ c, c < s_c (x_s x) → a_shc (x_s x) (v_p (x_v x) c) ≤ 64 := fun c hc => by
    rw [← y_shc h.1.1 hc, k_c_thk]
    exact k_c_le _ _
  have hk : ∀ c, c ≤ s_c (x_s x) → (a_lk (x_s x) (x_v x) (x_e x) c).2 ≤ 64 ∧ ∀ q, (a_lk (x_s x) (x_v x) (x_e x) c).1 = some q → q < 6 := by
    intro c
    induction c with
    | zero => exact fun _ => ⟨Nat.zero_le _, fun q hq => absurd hq (by simp [a_lk])⟩
    | succ c ih =>
      intro hc
      have i1 := ih (by omega)
      rw [a_lk]
      split
      · exact ⟨hs64 c (by omega), fun q hq => by
          have hq' : some c = some q := hq
          simp only [Option.some.injEq] at hq'
          omega⟩
      · exact i1
  refine zb_Walls_look_0 ?_
  refine zj_for (b := s_c (x_s x)) (fun c => [some (.inr 0), some (.inl (w_I (a_lk (x_s x) (x_v x) (x_e x) c).1)), some (.inl (nI (a_lk (x_s x) (x_v x) (x_e x) c).2)), some (.inl (nI c)), none]) (fun _ => σ) (fun c hc kk => ?_) ?_ 0 (Nat.zero_le _)
  · have hkc := (hk c (by omega)).1
    have hsc := hs64 c hc
    refine zb_Walls_look_6 (fun z => ?_) (fun _ => ?_)
    · rw [show σ.1 33 6 = nI (s_c (x_s x)) from h.1.fc] at z
      exact absurd z (nI_ge hc (by omega))
    refine zb_Walls_look_17 (cc_heightsShown h.1 hc) (by omega) (fun r u hr => ?_)
    obtain ⟨rfl, rfl⟩ := hr
    rw [y_shc h.1.1 hc]
    have hse := h.2.2.2.2.2.1 c hc
    rw [a_lk] at kk
    refine zb_Walls_look_22 (k1 := c) (z_ixn (by omega)) (fun z => ?_) (fun z => ?_)
    · have hne : x_e x c ≠ none := fun q => z (hse.1 q)
      rw [if_neg (fun q => hne q.1)] at kk
      refine zb_Walls_look_45 ?_
      rw [nI_add]
      exact kk
    · have heq : x_e x c = none := by
        cases hx : x_e x c with
        | none => rfl
        | some t =>
          have := hse.2 t hx
          exact absurd (this.2.symm.trans z) (zn_neg1 (by omega))
      refine zb_Walls_look_34 (fun z2 => ?_) (fun z2 => ?_)
      · rw [zn_le (by omega) (by omega)] at z2
        rw [if_neg (fun q => by omega)] at kk
        refine zb_Walls_look_45 ?_
        rw [nI_add]
        exact kk
      · rw [zn_le (by omega) (by omega)] at z2
        rw [if_pos ⟨heq, by omega⟩] at kk
        refine zb_Walls_look_40 (zb_Walls_look_45 ?_)
        rw [nI_add]
        exact kk
  · refine zb_Walls_look_6 (fun _ => ?_) (fun z => absurd (by rw [show σ.1 33 6 = nI (s_c (x_s x)) from h.1.fc]; exact Int32.le_refl _) z)
    cases hq : (a_lk (x_s x) (x_v x) (x_e x) (s_c (x_s x))).1 with
    | none =>
      have et : to_look x = (-2, x) := by unfold to_look; rw [hq]
      refine zb_Walls_look_51 (fun z => absurd rfl z) (fun _ => ?_)
      refine zb_Walls_look_56 ?_
      rw [he, et]
      exact ⟨_, rfl, rfl, h, zW.rf⟩
    | some q =>
      have et : to_look x = (nI q, x_row x [nI (a_lk (x_s x) (x_v x) (x_e x) (s_c (x_s x))).2]) := by unfold to_look; rw [hq]
      have h6q := (hk _ (Nat.le_refl _)).2 q hq
      refine zb_Walls_look_51 (fun _ => ?_) (fun z => absurd z (zn_neg1 (by omega)))
      refine zb_Walls_look_59 (cc_tell _ _) (by omega) (fun u2 h2 => ?_)
      obtain ⟨r1, r2⟩ := h2
      refine zb_Walls_look_64 ?_
      rw [he, et]
      exact ⟨_, rfl, rfl, h.row (r2.mono (fun _ q => Or.inr q) (fun _ q => q)) r1⟩
