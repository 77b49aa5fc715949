/-! a column of a city: its books l, bottom first -/
def cC (s : aS) (dy : Nat) (σ : zS) (o c : Nat) (l : List Nat) : Prop :=
  (c < 6 ∧ l.length ≤ 4 ∧ (∀ k, k < l.length → l.getD k 0 < s_n s) ∧ s_n s ≤ 12) ∧ σ.1 (o + 6) c = nI l.length ∧ (∀ k, k < l.length → σ.1 (o + 7) (c * 4 + k) = nI (l.getD k 0)) ∧
  (∀ b, b < s_n s → σ.1 (o + 1) b = nI (s_t s b) ∧ σ.1 (o + 2) b = nI (s_w s b) ∧ s_t s b ≤ 9 ∧ s_w s b ≤ 9) ∧ σ.1 o 12 = nI dy
section
variable {s : aS} {dy : Nat} {σ : zS} {o c : Nat} {l : List Nat}
theorem cC.c6 (h : cC s dy σ o c l) : c < 6 := h.1.1
theorem cC.l4 (h : cC s dy σ o c l) : l.length ≤ 4 := h.1.2.1
theorem cC.mem (h : cC s dy σ o c l) {k : Nat} (hk : k < l.length) : l.getD k 0 < s_n s := h.1.2.2.1 k hk
theorem cC.n (h : cC s dy σ o c l) : s_n s ≤ 12 := h.1.2.2.2
theorem cC.fM (h : cC s dy σ o c l) : σ.1 (o + 6) c = nI l.length := h.2.1
theorem cC.fP (h : cC s dy σ o c l) {k : Nat} (hk : k < l.length) : σ.1 (o + 7) (c * 4 + k) = nI (l.getD k 0) := h.2.2.1 k hk
theorem cC.ft (h : cC s dy σ o c l) {b : Nat} (hb : b < s_n s) : σ.1 (o + 1) b = nI (s_t s b) := (h.2.2.2.1 b hb).1
theorem cC.fw (h : cC s dy σ o c l) {b : Nat} (hb : b < s_n s) : σ.1 (o + 2) b = nI (s_w s b) := (h.2.2.2.1 b hb).2.1
theorem cC.t9 (h : cC s dy σ o c l) {b : Nat} (hb : b < s_n s) : s_t s b ≤ 9 := (h.2.2.2.1 b hb).2.2.1
theorem cC.w9 (h : cC s dy σ o c l) {b : Nat} (hb : b < s_n s) : s_w s b ≤ 9 := (h.2.2.2.1 b hb).2.2.2
theorem cC.fy (h : cC s dy σ o c l) : σ.1 o 12 = nI dy := h.2.2.2.2
theorem cC.keep {u : zS} (h : cC s dy σ o c l) (h0 : u.1 o = σ.1 o) (h1 : u.1 (o + 1) = σ.1 (o + 1)) (h2 : u.1 (o + 2) = σ.1 (o + 2)) (h6 : u.1 (o + 6) = σ.1 (o + 6)) (h7 : u.1 (o + 7) = σ.1 (o + 7)) : cC s dy u o c l := by
  unfold cC
  rw [h0, h1, h2, h6, h7]
  exact h
end
theorem cR.cC {s : aS} {v : aV} {σ : zS} {o c : Nat} (h : cR s v σ o) (hc : c < s_c s) : cC s (v_y v) σ o c (v_p v c) := by
  have h6 := h.c6
  exact ⟨⟨by omega, (h.col hc).2.1, fun k hk => h.mem hc hk, h.n⟩, h.fM hc, fun k hk => h.fP hc hk, fun b hb => ⟨h.ft hb, h.fw hb, (h.1.2.2.2.2.2.2.2.1 b hb).2.1, (h.1.2.2.2.2.2.2.2.1 b hb).2.2⟩, h.fy⟩
def l_hwi (t : Nat → Nat) (l : List Nat) (m : Nat) : Nat → Nat
  | 0 => 0
  | i + 1 => l_hwi t l m i + (if m.testBit i = true then 0 else t (l.getD i 0))
abbrev l_h (t : Nat → Nat) (l : List Nat) : Nat := l_hwi t l 0 l.length
def l_bci (l : List Nat) (m : Nat) : Nat → Nat
  | 0 => 0
  | i + 1 => if m.testBit i = true then l_bci l m i ||| 2 ^ (l.getD i 0) else l_bci l m i
def l_wti (t : Nat → Nat) (l : List Nat) : Nat → Nat
  | 0 => 0
  | i + 1 => l_wti t l i + t (l.getD i 0)
/-! what is asked of a city, by its picture -/
abbrev a_hw (s : aS) (v : aV) (c m : Nat) : Nat := l_hwi (s_t s) (v_p v c) m (v_p v c).length
abbrev a_h (s : aS) (v : aV) (c : Nat) : Nat := a_hw s v c 0
abbrev a_bc (v : aV) (c m : Nat) : Nat := l_bci (v_p v c) m (v_p v c).length
def a_lhi (s : aS) (v : aV) : Nat → Nat
  | 0 => 99
  | c + 1 => if a_h s v c < a_lhi s v c then a_h s v c else a_lhi s v c
abbrev a_lh (s : aS) (v : aV) : Nat := a_lhi s v (s_c s)
/-- .. without the book b, which is laid -/
def a_lbi (s : aS) (v : aV) (b : Nat) : Nat → Nat
  | 0 => 99
  | c + 1 => if a_h s v c - (if v_h v b = c then s_t s b else 0) < a_lbi s v b c then a_h s v c - (if v_h v b = c then s_t s b else 0) else a_lbi s v b c
def a_bw (v : aV) (w : Nat) : Nat → Nat
  | 0 => 0
  | b + 1 => if v_w v b = w then a_bw v w b ||| 2 ^ b else a_bw v w b
def a_lo (v : aV) (r : Nat) : Nat → Nat
  | 0 => 0
  | b + 1 => if v_w v b = 2 ∧ v_h v b = r then a_lo v r b ||| 2 ^ b else a_lo v r b
section
variable {s : aS} {dy : Nat} {σ : zS} {o c : Nat} {l : List Nat}
theorem lc_bookAt (ho : z_oC o) (hR : cC s dy σ o c l) {k : Nat} (hk : k < l.length) : z_Ci 0 zm_City_bookAt [.inr o, .inl (nI c), .inl (nI k)] σ (z_is (nI (l.getD k 0)) σ) := by
  refine z_Ci_of (by decide) (Nat.le_of_ble_eq_true rfl) (fun Γ hd he => ?_)
  show z_J Γ zm_City_bookAt 0 [some (.inr o), some (.inl (nI c)), some (.inl (nI k))] [] σ
  have h6 := hR.c6
  have h4 := hR.l4
  refine zb_City_bookAt_0 ho (z_ixp (by omega)) ?_
  rw [he, hR.fP hk]
  exact ⟨_, rfl, rfl, rfl⟩
theorem lc_heightWithout (ho : z_oC o) (hR : cC s dy σ o c l) {m : Nat} (hm : m < 2147483648) : z_Ci 1 zm_City_heightWithout [.inr o, .inl (nI c), .inl (nI m)] σ (z_is (nI (l_hwi (s_t s) l m l.length)) σ) := by
  refine z_Ci_of (by decide) (Nat.le_of_ble_eq_true rfl) (fun Γ hd he => ?_)
  show z_J Γ zm_City_heightWithout 0 [some (.inr o), some (.inl (nI c)), some (.inl (nI m)), none, none] [] σ
  have h6 := hR.c6
  have h4 := hR.l4
  refine zb_City_heightWithout_0 ho ?_
  refine zj_for (b := l.length) (fun i => [some (.inr o), some (.inl (nI c)), some (.inl (nI m)), some (.inl (nI (l_hwi (s_t s) l m i))), some (.inl (nI i))]) (fun _ => σ) (fun i hi k => ?_) ?_ 0 (Nat.zero_le _)
  · refine zb_City_heightWithout_5 ho (z_ixn (by omega)) (fun h => ?_) (fun _ => ?_)
    · rw [hR.fM] at h
      exact absurd h (nI_ge hi (by omega))
    refine zb_City_heightWithout_16 ho (fun h => ?_) (fun h => ?_)
    · rw [zn_bit0 hm (by omega)] at h
      simp only [Bool.not_eq_false] at h
      simp only [l_hwi, h, if_true, Nat.add_zero] at k
      refine zb_City_heightWithout_40 ho ?_
      rw [nI_add]
      exact k
    · rw [zn_bit0 hm (by omega)] at h
      simp only [l_hwi, h, Bool.false_eq_true, if_false] at k
      refine zb_City_heightWithout_25 ho (lc_bookAt ho hR hi) (by omega) (fun r σ1 h => ?_)
      obtain ⟨rfl, rfl⟩ := h
      have hb := hR.mem hi
      have hn := hR.n
      refine zb_City_heightWithout_37 ho (z_ixn (by omega)) ?_
      refine zb_City_heightWithout_40 ho ?_
      rw [hR.ft hb, nI_add, nI_add]
      exact k
  · refine zb_City_heightWithout_5 ho (z_ixn (by omega)) (fun _ => ?_) (fun h => ?_)
    · refine zb_City_heightWithout_46 ?_
      rw [he]
      exact ⟨_, rfl, rfl, rfl⟩
    · rw [hR.fM] at h
      exact absurd (Int32.le_refl _) h
theorem lc_heightOf (ho : z_oC o) (hR : cC s dy σ o c l) : z_Ci 2 zm_City_heightOf [.inr o, .inl (nI c)] σ (z_is (nI (l_h (s_t s) l)) σ) := by
  refine z_Ci_of (by decide) (Nat.le_of_ble_eq_true rfl) (fun Γ hd he => ?_)
  show z_J Γ zm_City_heightOf 0 [some (.inr o), some (.inl (nI c))] [] σ
  refine zb_City_heightOf_0 ho (lc_heightWithout ho hR (by decide)) (by omega) (fun r σ1 h => ?_)
  obtain ⟨rfl, rfl⟩ := h
  refine zb_City_heightOf_6 ?_
  rw [he]
  exact ⟨_, rfl, rfl, rfl⟩
theorem lc_bitsChosen (ho : z_oC o) (hR : cC s dy σ o c l) {m : Nat} (hm : m < 2147483648) : z_Ci 1 zm_City_bitsChosen [.inr o, .inl (nI c), .inl (nI m)] σ (z_is (nI (l_bci l m l.length)) σ) := by
  refine z_Ci_of (by decide) (Nat.le_of_ble_eq_true rfl) (fun Γ hd he => ?_)
  show z_J Γ zm_City_bitsChosen 0 [some (.inr o), some (.inl (nI c)), some (.inl (nI m)), none, none] [] σ
  have h6 := hR.c6
  have h4 := hR.l4
  refine zb_City_bitsChosen_0 ho ?_
  refine zj_for (b := l.length) (fun i => [some (.inr o), some (.inl (nI c)), some (.inl (nI m)), some (.inl (nI (l_bci l m i))), some (.inl (nI i))]) (fun _ => σ) (fun i hi k => ?_) ?_ 0 (Nat.zero_le _)
  · refine zb_City_bitsChosen_5 ho (z_ixn (by omega)) (fun h => ?_) (fun _ => ?_)
    · rw [hR.fM] at h
      exact absurd h (nI_ge hi (by omega))
    refine zb_City_bitsChosen_16 ho (fun h => ?_) (fun h => ?_)
    · rw [zn_bit1 hm (by omega)] at h
      simp only [l_bci, h, if_false] at k
      refine zb_City_bitsChosen_38 ho ?_
      rw [nI_add]
      exact k
    · rw [zn_bit1 hm (by omega)] at h
      simp only [l_bci, h, if_true] at k
      refine zb_City_bitsChosen_26 ho (lc_bookAt ho hR hi) (by omega) (fun r σ1 h => ?_)
      obtain ⟨rfl, rfl⟩ := h
      have hb := hR.mem hi
      have hn := hR.n
      refine zb_City_bitsChosen_35 ho ?_
      refine zb_City_bitsChosen_38 ho ?_
      rw [zn_shl (by omega), zn_or, nI_add]
      exact k
  · refine zb_City_bitsChosen_5 ho (z_ixn (by omega)) (fun _ => ?_) (fun h => ?_)
    · refine zb_City_bitsChosen_44 ?_
      rw [he]
      exact ⟨_, rfl, rfl, rfl⟩
    · rw [hR.fM] at h
      exact absurd (Int32.le_refl _) h
theorem lc_weightOf (ho : z_oC o) (hR : cC s dy σ o c l) : z_Ci 1 zm_City_weightOf [.inr o, .inl (nI c)] σ (z_is (nI (l_wti (s_w s) l l.length)) σ) := by
  refine z_Ci_of (by decide) (Nat.le_of_ble_eq_true rfl) (fun Γ hd he => ?_)
  show z_J Γ zm_City_weightOf 0 [some (.inr o), some (.inl (nI c)), none, none] [] σ
  have h6 := hR.c6
  have h4 := hR.l4
  refine zb_City_weightOf_0 ho ?_
  refine zj_for (b := l.length) (fun i => [some (.inr o), some (.inl (nI c)), some (.inl (nI (l_wti (s_w s) l i))), some (.inl (nI i))]) (fun _ => σ) (fun i hi k => ?_) ?_ 0 (Nat.zero_le _)
  · refine zb_City_weightOf_4 ho (z_ixn (by omega)) (fun h => ?_) (fun _ => ?_)
    · rw [hR.fM] at h
      exact absurd h (nI_ge hi (by omega))
    refine zb_City_weightOf_14 ho (lc_bookAt ho hR hi) (by omega) (fun r σ1 h => ?_)
    obtain ⟨rfl, rfl⟩ := h
    have hb := hR.mem hi
    have hn := hR.n
    refine zb_City_weightOf_25 ho (z_ixn (by omega)) ?_
    rw [hR.fw hb, nI_add, nI_add]
    exact k
  · refine zb_City_weightOf_4 ho (z_ixn (by omega)) (fun _ => ?_) (fun h => ?_)
    · refine zb_City_weightOf_34 ?_
      rw [he]
      exact ⟨_, rfl, rfl, rfl⟩
    · rw [hR.fM] at h
      exact absurd (Int32.le_refl _) h
theorem l_hwi_le (hR : cC s dy σ o c l) {m : Nat} : ∀ i, i ≤ l.length → l_hwi (s_t s) l m i ≤ 9 * i
  | 0, _ => Nat.le_refl _
  | i + 1, h => by
    have h1 := l_hwi_le hR (m := m) i (by omega)
    have h2 := hR.t9 (hR.mem (k := i) (by omega))
    simp only [l_hwi]
    split <;> omega
theorem l_h_le (hR : cC s dy σ o c l) : l_h (s_t s) l ≤ 36 := by
  have h1 := l_hwi_le hR (m := 0) l.length (Nat.le_refl _)
  have h4 := hR.l4
  show l_hwi (s_t s) l 0 l.length ≤ 36
  omega
end
section
variable {s : aS} {v : aV} {σ : zS} {o : Nat}
theorem cc_bookAt (ho : z_oC o) (hR : cR s v σ o) {c k : Nat} (hc : c < s_c s) (hk : k < (v_p v c).length) : z_Ci 0 zm_City_bookAt [.inr o, .inl (nI c), .inl (nI k)] σ (z_is (nI ((v_p v c).getD k 0)) σ) := lc_bookAt ho (hR.cC hc) hk
theorem cc_heightWithout (ho : z_oC o) (hR : cR s v σ o) {c m : Nat} (hc : c < s_c s) (hm : m < 2147483648) : z_Ci 1 zm_City_heightWithout [.inr o, .inl (nI c), .inl (nI m)] σ (z_is (nI (a_hw s v c m)) σ) := lc_heightWithout ho (hR.cC hc) hm
theorem cc_heightOf (ho : z_oC o) (hR : cR s v σ o) {c : Nat} (hc : c < s_c s) : z_Ci 2 zm_City_heightOf [.inr o, .inl (nI c)] σ (z_is (nI (a_h s v c)) σ) := lc_heightOf ho (hR.cC hc)
theorem cc_bitsChosen (ho : z_oC o) (hR : cR s v σ o) {c m : Nat} (hc : c < s_c s) (hm : m < 2147483648) : z_Ci 1 zm_City_bitsChosen [.inr o, .inl (nI c), .inl (nI m)] σ (z_is (nI (a_bc v c m)) σ) := lc_bitsChosen ho (hR.cC hc) hm
theorem cc_weightOf (ho : z_oC o) (hR : cR s v σ o) {c : Nat} (hc : c < s_c s) : z_Ci 1 zm_City_weightOf [.inr o, .inl (nI c)] σ (z_is (nI (l_wti (s_w s) (v_p v c) (v_p v c).length)) σ) := lc_weightOf ho (hR.cC hc)
theorem a_h_le (hR : cR s v σ o) {c : Nat} (hc : c < s_c s) : a_h s v c ≤ 36 := l_h_le (hR.cC hc)
theorem a_lhi_le (s : aS) (v : aV) : ∀ c, a_lhi s v c ≤ 99
  | 0 => Nat.le_refl _
  | c + 1 => by
    have h1 := a_lhi_le s v c
    simp only [a_lhi]
    split <;> omega
theorem a_lbi_le (s : aS) (v : aV) (b : Nat) : ∀ c, a_lbi s v b c ≤ 99
  | 0 => Nat.le_refl _
  | c + 1 => by
    have h1 := a_lbi_le s v b c
    simp only [a_lbi]
    split <;> split <;> omega
theorem zn_min {a b : Nat} (ha : a < 2147483648) (hb : b < 2147483648) : z_min (nI a) (nI b) = nI (if b < a then b else a) := by
  unfold z_min
  by_cases h : b < a
  · rw [if_pos h, if_pos ((zn_lt hb ha).mpr h)]
  · rw [if_neg h, if_neg (fun q => h ((zn_lt hb ha).mp q))]
theorem zn_max {a b : Nat} (ha : a < 2147483648) (hb : b < 2147483648) : z_max (nI a) (nI b) = nI (if a < b then b else a) := by
  unfold z_max
  by_cases h : a < b
  · rw [if_pos h, if_pos ((zn_lt ha hb).mpr h)]
  · rw [if_neg h, if_neg (fun q => h ((zn_lt ha hb).mp q))]
theorem cc_leastHeight (ho : z_oC o) (hR : cR s v σ o) : z_Ci 4 zm_City_leastHeight [.inr o] σ (z_is (nI (a_lh s v)) σ) := by
  refine z_Ci_of (by decide) (Nat.le_of_ble_eq_true rfl) (fun Γ hd he => ?_)
  show z_J Γ zm_City_leastHeight 0 [some (.inr o)] [] σ
  refine zb_City_leastHeight_0 (dc := 3) (P := z_is (nI (a_lh s v)) σ) ho ?_ (by omega) (fun r σ1 h => ?_)
  · refine z_Ci_of (by decide) (Nat.le_of_ble_eq_true rfl) (fun Γ hd he => ?_)
    show z_J Γ zm_City_leastHeightWithout 0 [some (.inr o), some (.inl (-1)), none, none, none] [] σ
    have h6 := hR.c6
    refine zb_City_leastHeightWithout_0 ho ?_
    refine zj_for (b := s_c s) (fun i => [some (.inr o), some (.inl (-1)), some (.inl (nI (a_lhi s v i))), some (.inl (nI i)), none]) (fun _ => σ) (fun i hi k => ?_) ?_ 0 (Nat.zero_le _)
    · refine zb_City_leastHeightWithout_5 ho (fun h => ?_) (fun _ => ?_)
      · rw [hR.fc] at h
        exact absurd h (nI_ge hi (by omega))
      refine zb_City_leastHeightWithout_13 ho (cc_heightOf ho hR hi) (by omega) (fun r σ1 h => ?_)
      obtain ⟨rfl, rfl⟩ := h
      refine zb_City_leastHeightWithout_18 ho (fun _ => ?_) (fun h => absurd rfl h)
      refine zb_City_leastHeightWithout_46 ho (by omega) ?_
      have h36 := a_h_le hR hi
      have h99 := a_lhi_le s v i
      rw [zn_min (by omega) (by omega), nI_add]
      exact k
    · refine zb_City_leastHeightWithout_5 ho (fun _ => ?_) (fun h => ?_)
      · refine zb_City_leastHeightWithout_59 ?_
        rw [he]
        exact ⟨_, rfl, rfl, rfl⟩
      · rw [hR.fc] at h
        exact absurd (Int32.le_refl _) h
  · obtain ⟨rfl, rfl⟩ := h
    refine zb_City_leastHeight_5 ?_
    rw [he]
    exact ⟨_, rfl, rfl, rfl⟩
theorem a_h_ge (hR : cR s v σ o) {c b : Nat} (hc : c < s_c s) (hb : b < s_n s) (hw : v_w v b = 1) (hh : v_h v b = c) : s_t s b ≤ a_h s v c := by
  have hm : b ∈ v_p v c := ((hR.col hc).2.2 b).mpr ⟨hb, hw, hh⟩
  obtain ⟨k, hk, e⟩ := List.mem_iff_getElem.mp hm
  have key : ∀ i, i ≤ (v_p v c).length → k < i → s_t s b ≤ l_hwi (s_t s) (v_p v c) 0 i := by
    intro i
    induction i with
    | zero => intro _ h; omega
    | succ i ih =>
      intro h1 h2
      simp only [l_hwi, Nat.zero_testBit, Bool.false_eq_true, if_false]
      rcases Nat.lt_or_ge k i with q | q
      · have := ih (by omega) q
        omega
      · have e2 : k = i := by omega
        subst e2
        have e3 : (v_p v c).getD k 0 = b := by rw [List.getD_eq_getElem?_getD, List.getElem?_eq_getElem hk, e]; rfl
        rw [e3]
        omega
  exact key _ (Nat.le_refl _) hk
theorem cc_leastHeightWithout (ho : z_oC o) (hR : cR s v σ o) {b : Nat} (hb : b < s_n s) (hw : v_w v b = 1) : z_Ci 3 zm_City_leastHeightWithout [.inr o, .inl (nI b)] σ (z_is (nI (a_lbi s v b (s_c s))) σ) := by
  refine z_Ci_of (by decide) (Nat.le_of_ble_eq_true rfl) (fun Γ hd he => ?_)
  show z_J Γ zm_City_leastHeightWithout 0 [some (.inr o), some (.inl (nI b)), none, none, none] [] σ
  have h6 := hR.c6
  have hn := hR.n
  have hh := hR.1.2.2.2.2.1 b hb hw
  refine zb_City_leastHeightWithout_0 ho ?_
  refine zj_for (b := s_c s) (fun i => [some (.inr o), some (.inl (nI b)), some (.inl (nI (a_lbi s v b i))), some (.inl (nI i)), none]) (fun _ => σ) (fun i hi k => ?_) ?_ 0 (Nat.zero_le _)
  · refine zb_City_leastHeightWithout_5 ho (fun h => ?_) (fun _ => ?_)
    · rw [hR.fc] at h
      exact absurd h (nI_ge hi (by omega))
    refine zb_City_leastHeightWithout_13 ho (cc_heightOf ho hR hi) (by omega) (fun r σ1 h => ?_)
    obtain ⟨rfl, rfl⟩ := h
    have h36 := a_h_le hR hi
    have h99 := a_lbi_le s v b i
    have e4 : σ1.1 (o + 4) b = nI (v_h v b) := by rw [hR.fH hb, if_pos (Or.inl hw)]
    refine zb_City_leastHeightWithout_18 ho (fun h => absurd h (zn_neg1 (by omega))) (fun _ => ?_)
    refine zb_City_leastHeightWithout_25 ho (z_ixn (by omega)) (fun h => ?_) (fun h => ?_)
    · rw [e4, zn_eq (by omega) (by omega)] at h
      simp only [a_lbi, h, if_false, Nat.sub_zero] at k
      refine zb_City_leastHeightWithout_46 ho (by omega) ?_
      rw [zn_min (by omega) (by omega), nI_add]
      exact k
    · rw [e4, zn_eq (by omega) (by omega)] at h
      have hge := a_h_ge hR hi hb hw h
      simp only [a_lbi, h, if_true] at k
      refine zb_City_leastHeightWithout_35 ho (z_ixn (by omega)) ?_
      refine zb_City_leastHeightWithout_46 ho (by omega) ?_
      rw [hR.ft hb, pk_sub hge, zn_min (by omega) (by omega), nI_add]
      exact k
  · refine zb_City_leastHeightWithout_5 ho (fun _ => ?_) (fun h => ?_)
    · refine zb_City_leastHeightWithout_59 ?_
      rw [he]
      exact ⟨_, rfl, rfl, rfl⟩
    · rw [hR.fc] at h
      exact absurd (Int32.le_refl _) h
theorem cc_bitsWhere (ho : z_oC o) (hR : cR s v σ o) {w : Nat} (hw : w < 2147483648) : z_Ci 0 zm_City_bitsWhere [.inr o, .inl (nI w)] σ (z_is (nI (a_bw v w (s_n s))) σ) := by
  refine z_Ci_of (by decide) (Nat.le_of_ble_eq_true rfl) (fun Γ hd he => ?_)
  show z_J Γ zm_City_bitsWhere 0 [some (.inr o), some (.inl (nI w)), none, none] [] σ
  have hn := hR.n
  refine zb_City_bitsWhere_0 ho ?_
  refine zj_for (b := s_n s) (fun i => [some (.inr o), some (.inl (nI w)), some (.inl (nI (a_bw v w i))), some (.inl (nI i))]) (fun _ => σ) (fun i hi k => ?_) ?_ 0 (Nat.zero_le _)
  · refine zb_City_bitsWhere_4 ho (fun h => ?_) (fun _ => ?_)
    · rw [hR.fn] at h
      exact absurd h (nI_ge hi (by omega))
    have h3 := hR.w3 i
    refine zb_City_bitsWhere_12 ho (z_ixn (by omega)) (fun h => ?_) (fun h => ?_)
    · rw [hR.fW (by omega), zn_eq (by omega) hw] at h
      simp only [a_bw, h, if_false] at k
      refine zb_City_bitsWhere_28 ho ?_
      rw [nI_add]
      exact k
    · rw [hR.fW (by omega), zn_eq (by omega) hw] at h
      simp only [a_bw, h, if_true] at k
      refine zb_City_bitsWhere_22 ho ?_
      refine zb_City_bitsWhere_28 ho ?_
      rw [zn_shl (by omega), zn_or, nI_add]
      exact k
  · refine zb_City_bitsWhere_4 ho (fun _ => ?_) (fun h => ?_)
    · refine zb_City_bitsWhere_34 ?_
      rw [he]
      exact ⟨_, rfl, rfl, rfl⟩
    · rw [hR.fn] at h
      exact absurd (Int32.le_refl _) h
theorem cc_loansOf (ho : z_oC o) (hR : cR s v σ o) {r : Nat} (hr : r < 2147483648) : z_Ci 0 zm_City_loansOf [.inr o, .inl (nI r)] σ (z_is (nI (a_lo v r (s_n s))) σ) := by
  refine z_Ci_of (by decide) (Nat.le_of_ble_eq_true rfl) (fun Γ hd he => ?_)
  show z_J Γ zm_City_loansOf 0 [some (.inr o), some (.inl (nI r)), none, none] [] σ
  have hn := hR.n
  have h4 := hR.r4
  refine zb_City_loansOf_0 ho ?_
  refine zj_for (b := s_n s) (fun i => [some (.inr o), some (.inl (nI r)), some (.inl (nI (a_lo v r i))), some (.inl (nI i))]) (fun _ => σ) (fun i hi k => ?_) ?_ 0 (Nat.zero_le _)
  · refine zb_City_loansOf_4 ho (fun h => ?_) (fun _ => ?_)
    · rw [hR.fn] at h
      exact absurd h (nI_ge hi (by omega))
    have h3 := hR.w3 i
    refine zb_City_loansOf_12 ho (z_ixn (by omega)) (fun h => ?_) (fun h => ?_)
    · rw [hR.fW (by omega), zn_eq (by omega) (by omega)] at h
      simp only [a_lo, h, false_and, if_false] at k
      refine zb_City_loansOf_38 ho ?_
      rw [nI_add]
      exact k
    · rw [hR.fW (by omega), zn_eq (by omega) (by omega)] at h
      have hh := hR.1.2.2.2.2.2.1 i hi h
      have e4 : σ.1 (o + 4) i = nI (v_h v i) := by rw [hR.fH hi, if_pos (Or.inr h)]
      refine zb_City_loansOf_22 ho (z_ixn (by omega)) (fun h2 => ?_) (fun h2 => ?_)
      · rw [e4, zn_eq (by omega) hr] at h2
        simp only [a_lo, h2, and_false, if_false] at k
        refine zb_City_loansOf_38 ho ?_
        rw [nI_add]
        exact k
      · rw [e4, zn_eq (by omega) hr] at h2
        simp only [a_lo, h, h2, and_self, if_true] at k
        refine zb_City_loansOf_32 ho ?_
        refine zb_City_loansOf_38 ho ?_
        rw [zn_shl (by omega), zn_or, nI_add]
        exact k
  · refine zb_City_loansOf_4 ho (fun _ => ?_) (fun h => ?_)
    · refine zb_City_loansOf_44 ?_
      rw [he]
      exact ⟨_, rfl, rfl, rfl⟩
    · rw [hR.fn] at h
      exact absurd (Int32.le_refl _) h
theorem cc_backOn (ho : z_oC o) (hR : cR s v σ o) {b : Nat} (hb : b < s_n s) (hw : v_w v b = 2) : z_Ci 0 zm_City_backOn [.inr o, .inl (nI b)] σ (z_is (nI (v_d v b + s_l s (v_h v b))) σ) := by
  refine z_Ci_of (by decide) (Nat.le_of_ble_eq_true rfl) (fun Γ hd he => ?_)
  show z_J Γ zm_City_backOn 0 [some (.inr o), some (.inl (nI b))] [] σ
  have hn := hR.n
  have h4 := hR.r4
  have hh := hR.1.2.2.2.2.2.1 b hb hw
  have e4 : σ.1 (o + 4) b = nI (v_h v b) := by rw [hR.fH hb, if_pos (Or.inr hw)]
  refine zb_City_backOn_0 ho (z_ixn (by omega)) (k2 := b) (z_ixn (by omega)) (k3 := v_h v b) ⟨e4, by omega⟩ ?_
  rw [he, hR.fD hb, if_pos hw, hR.fl hh, nI_add]
  exact ⟨_, rfl, rfl, rfl⟩
end
