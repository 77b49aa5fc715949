/-! books and readers told as texts -/
def bk_ok (n : Nat) (X : Nat → Nat) (i : Nat) : Bool := decide (i ≠ 36) && (if i % 3 = 0 then decide (49 ≤ X i ∧ X i < 58) && decide (n + i / 3 < 12) else if i % 3 = 1 then decide (48 ≤ X i ∧ X i < 58) else decide (X i = 59))
def bk_s (s : aS) (X : Nat → Nat) : Nat → aS
  | 0 => s
  | k + 1 => s_add (bk_s s X k) (X (3 * k) - 48) (X (3 * k + 1) - 48)
abbrev bk_b (x : tX) : Option Nat := sc_b (bk_ok (s_n (x_s x)) (x_X x)) (decide (x_L x % 3 = 2)) (x_L x)
def to_books (x : tX) : Int32 × tX := if x_L x = 0 then (nI 0, x_t0 x) else match bk_b x with
  | some p => (-1 - nI p, x_t0 x)
  | none => (nI ((x_L x + 1) / 3), (bk_s (x_s x) (x_X x) ((x_L x + 1) / 3), x_v x, [], (x_K x, x_T x), (0, x_X x), x_r x, x_e x, fun _ => none, x_m x + 1))
def rs_ok (n : Nat) (X : Nat → Nat) (i : Nat) : Bool := decide (i ≠ 7) && (if i % 2 = 1 then decide (X i = 59) else decide (48 ≤ X i ∧ X i < 58) && decide (n + i / 2 < 4))
def rs_s (s : aS) (X : Nat → Nat) : Nat → aS
  | 0 => s
  | k + 1 => s_rd (rs_s s X k) (X (2 * k) - 48)
abbrev rs_b (x : tX) : Option Nat := sc_b (rs_ok (s_r (x_s x)) (x_X x)) (decide (x_L x % 2 = 1)) (x_L x)
def to_readers (x : tX) : Int32 × tX := if x_L x = 0 then (nI 0, x_t0 x) else match rs_b x with
  | some p => (-1 - nI p, x_t0 x)
  | none => (nI ((x_L x + 1) / 2), (rs_s (x_s x) (x_X x) ((x_L x + 1) / 2), x_v x, [], (x_K x, x_T x), (0, x_X x), x_r x, x_e x, fun _ => none, x_m x + 1))
theorem bk_s_n (s : aS) (X : Nat → Nat) : ∀ k, s_n (bk_s s X k) = s_n s + k ∧ s_c (bk_s s X k) = s_c s ∧ s_r (bk_s s X k) = s_r s
  | 0 => ⟨rfl, rfl, rfl⟩
  | k + 1 => by
    obtain ⟨h1, h2, h3⟩ := bk_s_n s X k
    refine ⟨?_, h2, h3⟩
    show s_n (bk_s s X k) + 1 = _
    omega
theorem rs_s_n (s : aS) (X : Nat → Nat) : ∀ k, s_n (rs_s s X k) = s_n s ∧ s_c (rs_s s X k) = s_c s ∧ s_r (rs_s s X k) = s_r s + k
  | 0 => ⟨rfl, rfl, rfl⟩
  | k + 1 => by
    obtain ⟨h1, h2, h3⟩ := rs_s_n s X k
    refine ⟨h1, h2, ?_⟩
    show s_r (rs_s s X k) + 1 = _
    omega
/-- rows outside O, and all references, stay -/
def zT (O : Nat → Prop) (σ τ : zS) : Prop := (∀ o, ¬ O o → τ.1 o = σ.1 o) ∧ τ.2 = σ.2
section
variable {σ τ : zS} {s : aS} {v : aV} {O : Nat → Prop}
theorem mH.nil (h : σ.1 63 27 = nI 0) : mH s [] σ := ⟨by simp, h, fun i w hw => absurd hw (by simp)⟩
theorem zT.rf : zT O σ σ := ⟨fun _ _ => rfl, rfl⟩
theorem zT.pI (h : zT O σ τ) {o k : Nat} {y : Int32} (ho : O o) : zT O σ (z_pI τ o k y) := ⟨fun q hq => by have hne : q ≠ o := fun e => hq (e ▸ ho); rw [z_pI_ne hne]; exact h.1 q hq, h.2⟩
theorem rd_C.kT {L : Nat} {T : Nat → Nat} {qa : Bool} {e : Nat → Int32} (h : rd_C L T qa e σ) (hT : zT O σ τ) (h1 : ¬ O 63) (h2 : ¬ O 74) (h3 : ¬ O (σ.2 63 12)) : rd_C L T qa e τ := by
  unfold rd_C
  rw [hT.2, hT.1 63 h1, hT.1 74 h2, hT.1 _ h3]
  exact h
theorem zT.X (h : zT O σ τ) (hO : ∀ o, O o → m_sO o) (σ0 : zS) (q : Nat × Option Nat) (hF : mX m_sO m_rK σ0 (p_s σ q)) : mX m_sO m_rK σ0 (p_s τ q) := by
  refine mX.tr hF ⟨fun o ho hs => ⟨?_, ?_⟩, fun k hk => ?_, fun k _ => ?_⟩
  · rw [p_s_o _ _ ho, p_s_o _ _ ho]; exact h.1 o (fun z => hs (hO o z))
  · rw [p_s_2, p_s_2, h.2]
  · have h63 : τ.1 63 = σ.1 63 := h.1 63 (fun z => by have := hO _ z; unfold m_sO at this; omega)
    unfold p_s
    rw [z_pI_1, z_pI_1, z_pI_1, z_pI_1, h63]
  · rw [p_s_2, p_s_2, h.2]
theorem aI_rd (h : aI s v) {l : Nat} (hr : s_r s < 4) (hl : l ≤ 9) : aI (s_rd s l) v := by
  obtain ⟨h1, h2, h3, h5, h6, h7, h8, h10, h11⟩ := h
  refine ⟨⟨h1.1, h1.2.1, h1.2.2.1, by show s_r s + 1 ≤ 4; omega⟩, h2, h3, h5, h6, fun b hb hw => ?_, fun r hr' => h8 r (by have : s_r s + 1 ≤ r := hr'; omega), h10, fun r hr' => ?_⟩
  · have := h7 b hb hw
    show v_h v b < s_r s + 1
    omega
  · show a_up (s_l s) (s_r s) l r ≤ 9
    by_cases e : r = s_r s
    · rw [e, a_up_s]; exact hl
    · rw [a_up_n e]
      have : r < s_r s + 1 := hr'
      exact h11 r (by omega)
theorem mR.add (h : mR s v σ 64) {t w : Nat} (hn : s_n s < 12) (ht : 1 ≤ t ∧ t ≤ 9) (hw : w ≤ 9) : mR (s_add s t w) v (z_pI (z_pI (z_pI (z_pI σ 65 (s_n s) (nI t)) 66 (s_n s) (nI w)) 64 (s_n s) (nI 0)) 63 1 (nI (s_n s + 1))) 64 := by
  obtain ⟨hI, hS, hV⟩ := h
  have hv0 := hI.2.2.1 (s_n s) (Nat.le_refl _)
  refine ⟨aI_add hI hn ht hw, ⟨z_pI_at _ _ _ _, ?_, ?_, fun b hb => ?_, fun b hb => ?_, fun r hr => ?_⟩, ⟨fun b hb => ?_, fun b hb hq => ?_, fun b hb hq => ?_, fun b hb hq => ?_, fun r hr => ?_, ?_⟩⟩
  · rw [z_pI_ne2 (by decide), z_pI_ne (by decide), z_pI_ne (by decide), z_pI_ne (by decide)]; exact hS.2.1
  · rw [z_pI_ne2 (by decide), z_pI_ne (by decide), z_pI_ne (by decide), z_pI_ne (by decide)]; exact hS.2.2.1
  · rw [z_pI_ne (by decide), z_pI_ne (by decide), z_pI_ne (by decide)]
    show _ = nI (a_up (s_t s) (s_n s) t b)
    by_cases e : b = s_n s
    · rw [e, z_pI_at, a_up_s]
    · rw [z_pI_ne2 e, a_up_n e]
      have : b < s_n s + 1 := hb
      exact hS.2.2.2.1 b (by omega)
  · rw [z_pI_ne (by decide), z_pI_ne (by decide)]
    show _ = nI (a_up (s_w s) (s_n s) w b)
    by_cases e : b = s_n s
    · rw [e, z_pI_at, a_up_s]
    · rw [z_pI_ne2 e, a_up_n e, z_pI_ne (by decide)]
      have : b < s_n s + 1 := hb
      exact hS.2.2.2.2.1 b (by omega)
  · rw [z_pI_ne (by decide), z_pI_ne (by decide), z_pI_ne (by decide), z_pI_ne (by decide)]; exact hS.2.2.2.2.2 r hr
  all_goals rw [z_pI_ne (by decide)]
  · have hb' : b < s_n s + 1 := hb
    by_cases e : b = s_n s
    · rw [e, z_pI_at, hv0]
    · rw [z_pI_ne2 e, z_pI_ne (by decide), z_pI_ne (by decide)]
      exact hV.1 b (by omega)
  · have hb' : b < s_n s + 1 := hb
    have e : b ≠ s_n s := fun e => by rw [e, hv0] at hq; omega
    rw [z_pI_ne2 (by omega), z_pI_ne (by decide), z_pI_ne (by decide)]
    exact hV.2.1 b (by omega) hq
  · have hb' : b < s_n s + 1 := hb
    have e : b ≠ s_n s := fun e => by rw [e, hv0] at hq; omega
    rw [z_pI_ne2 (by omega), z_pI_ne (by decide), z_pI_ne (by decide)]
    exact hV.2.2.1 b (by omega) hq
  · have hb' : b < s_n s + 1 := hb
    have e : b ≠ s_n s := fun e => by rw [e, hv0] at hq; omega
    rw [z_pI_ne2 (by omega), z_pI_ne (by decide), z_pI_ne (by decide)]
    exact hV.2.2.2.1 b (by omega) hq
  · rw [z_pI_ne2 (by omega), z_pI_ne (by decide), z_pI_ne (by decide)]
    exact hV.2.2.2.2.1 r hr
  · rw [z_pI_ne2 (by omega), z_pI_ne (by decide), z_pI_ne (by decide)]
    exact hV.2.2.2.2.2
theorem mR.rd (h : mR s v σ 64) {l : Nat} (hr : s_r s < 4) (hl : l ≤ 9) : mR (s_rd s l) v (z_pI (z_pI (z_pI σ 67 (s_r s) (nI l)) 64 (49 + s_r s) (nI 0)) 63 5 (nI (s_r s + 1))) 64 := by
  obtain ⟨hI, hS, hV⟩ := h
  have hn : s_n s ≤ 12 := hI.1.1
  have hf0 := hI.2.2.2.2.2.2.1 (s_r s) (Nat.le_refl _)
  refine ⟨aI_rd hI hr hl, ⟨?_, ?_, z_pI_at _ _ _ _, fun b hb => ?_, fun b hb => ?_, fun r hr' => ?_⟩, ⟨fun b hb => ?_, fun b hb hq => ?_, fun b hb hq => ?_, fun b hb hq => ?_, fun r hr' => ?_, ?_⟩⟩
  · rw [z_pI_ne2 (by decide), z_pI_ne (by decide), z_pI_ne (by decide)]; exact hS.1
  · rw [z_pI_ne2 (by decide), z_pI_ne (by decide), z_pI_ne (by decide)]; exact hS.2.1
  · rw [z_pI_ne (by decide), z_pI_ne (by decide), z_pI_ne (by decide)]; exact hS.2.2.2.1 b hb
  · rw [z_pI_ne (by decide), z_pI_ne (by decide), z_pI_ne (by decide)]; exact hS.2.2.2.2.1 b hb
  · rw [z_pI_ne (by decide), z_pI_ne (by decide)]
    show _ = nI (a_up (s_l s) (s_r s) l r)
    by_cases e : r = s_r s
    · rw [e, z_pI_at, a_up_s]
    · rw [z_pI_ne2 e, a_up_n e]
      have : r < s_r s + 1 := hr'
      exact hS.2.2.2.2.2 r (by omega)
  all_goals rw [z_pI_ne (by decide)]
  · have hb' : b < s_n s := hb
    rw [z_pI_ne2 (by omega), z_pI_ne (by decide)]; exact hV.1 b hb
  · have hb' : b < s_n s := hb
    rw [z_pI_ne2 (by omega), z_pI_ne (by decide)]; exact hV.2.1 b hb hq
  · have hb' : b < s_n s := hb
    rw [z_pI_ne2 (by omega), z_pI_ne (by decide)]; exact hV.2.2.1 b hb hq
  · have hb' : b < s_n s := hb
    rw [z_pI_ne2 (by omega), z_pI_ne (by decide)]; exact hV.2.2.2.1 b hb hq
  · have hr2 : r < s_r s + 1 := hr'
    by_cases e : r = s_r s
    · rw [e, z_pI_at, hf0]
    · rw [z_pI_ne2 (by omega), z_pI_ne (by decide)]
      exact hV.2.2.2.2.1 r (by omega)
  · rw [z_pI_ne2 (by omega), z_pI_ne (by decide)]; exact hV.2.2.2.2.2
theorem mKp.none {kp : Nat → Option aV} {cm : Nat} {s' : aS} (h : mKp s kp cm σ) (h1 : τ.1 86 = σ.1 86) (h2 : τ.1 87 = σ.1 87) (h3 : τ.1 63 44 = nI (cm + 1)) : mKp s' (fun _ => none) (cm + 1) τ := by
  refine ⟨h3, fun i hi => ?_⟩
  obtain ⟨m1, m2, m3⟩ := h.2 i hi
  rw [h1, h2]
  refine ⟨m1, fun w hw => absurd hw (by simp), fun _ => ?_⟩
  cases hk : kp i with
  | none =>
    rcases m3 hk with q | ⟨m, hm, q⟩
    · exact Or.inl q
    · exact Or.inr ⟨m, by omega, q⟩
  | some w => exact Or.inr ⟨cm, by omega, (m2 w hk).2.1⟩
end
section
variable {x : tX} {σ u : zS}
theorem m_t0r (h : mA x σ) : mA x (z_pI σ 63 11 (nI 0)) ∧ zU σ (z_pI σ 63 11 (nI 0)) := h.low (mX.rf.pK (Or.inl rfl))
theorem mp_books (h : mA x σ) : z_Ci 4 zm_Model_books [.inr 63] σ (fun r u => r = (to_books x).1 ∧ mA (to_books x).2 u ∧ zU σ u) := by
  have h0 := (m_t0r h).1
  have z0 := (m_t0r h).2
  have hn := h.1.n
  obtain ⟨t1, t2, t3⟩ := id h0.2.2.2.1
  have e0 : (0 : Int32) = nI 0 := rfl
  refine z_Ci_of (by decide) (Nat.le_of_ble_eq_true rfl) (fun Γ hd he => ?_)
  show z_J Γ zm_Model_books 0 [some (.inr 63), none, none, none] [] σ
  refine zb_Model_books_0 (mc_beginText h0.2.2.2.1 36) (by omega) (fun u hu => ?_)
  subst hu
  generalize hρ : z_pI σ 63 11 (nI 0) = ρ at *
  have hC0 := rd_t_C h0.2.2.2.1 (m := 36) (by decide)
  have f13 : ∀ {τ : zS} {q : Nat × Option Nat}, zT (fun o => o = 70) (rd_t ρ (x_L x) 36) τ → (p_s τ q).1 63 13 = nI (x_L x) := fun hT => by
    rw [p_s_k _ _ (by decide) (by decide), hT.1 63 (by decide)]
    exact (rd_t_13 ρ (x_L x) 36).1
  have fR : ∀ {τ : zS} (q : Nat × Option Nat), zT (fun o => o = 70) (rd_t ρ (x_L x) 36) τ → mA (x_t0 x) (p_s τ q) ∧ zU ρ (p_s τ q) := fun q hT => by
    refine h0.rd (hT.X (by unfold m_sO; omega) ρ q (rd_t_X ρ (x_L x) 36 q)) ?_
    rw [p_s_k _ _ (by decide) (by decide), hT.1 63 (by decide)]
    exact (rd_t_13 ρ (x_L x) 36).2.2
  refine zb_Model_books_11 (fun k => ?_) (fun k => ?_)
  rotate_left
  · rw [f13 zT.rf, e0, zn_eq (by omega) (by omega)] at k
    refine zb_Model_books_18 ?_
    obtain ⟨w1, w2⟩ := fR (0, none) zT.rf
    rw [he, to_books, if_pos k]
    exact ⟨_, rfl, rfl, w1, z0.tr w2⟩
  rw [f13 zT.rf, e0, zn_eq (by omega) (by omega)] at k
  rw [to_books, if_neg k] at he
  refine zb_Model_books_20 ?_
  -- a fault was found
  have bad : ∀ (n : Nat) (a p : Nat) (τ : zS), zT (fun o => o = 70) (rd_t ρ (x_L x) 36) τ → a ≤ 80 → p ≤ 80 → bk_b x = some p → z_J Γ zm_Model_books 106 [some (.inr 63), some (.inl (nI n)), none, none] [] (p_s τ (a, some p)) := by
    intro n a p τ hT ha hp hb
    rw [hb] at he
    refine zb_Model_books_106 (mn_wasRight (L := x_L x) (by intro p' h'; simp at h'; omega) (by show a ≤ 100; omega) t1 (by rw [hT.1 63 (by decide)]; exact (rd_t_13 ρ (x_L x) 36).1)) (by omega) (fun r u hr => ?_)
    have ew : d_wr (x_L x) (a, some p) = (a, some p) := by
      unfold d_wr d_flt
      simp
    rw [ew] at hr
    obtain ⟨rfl, rfl⟩ := hr
    refine zb_Model_books_110 (fun z => absurd (by simp [z_tf]; decide) z) (fun _ => ?_)
    refine zb_Model_books_113 ?_
    obtain ⟨w1, w2⟩ := fR (a, some p) hT
    rw [he, p_s_wr]
    exact ⟨_, rfl, rfl, w1, z0.tr w2⟩
  -- the text is at its end, or goes on with a sign that can't stand there
  have good : ∀ (n : Nat) (τ : zS), zT (fun o => o = 70) (rd_t ρ (x_L x) 36) τ → 3 * n + 2 ≤ x_L x → s_n (x_s x) + n < 12 → (∀ j, j < 3 * n + 2 → bk_ok (s_n (x_s x)) (x_X x) j = true) → (3 * n + 2 < x_L x → bk_ok (s_n (x_s x)) (x_X x) (3 * n + 2) = false) → (∀ k, k ≤ n → τ.1 70 (2 * k) = nI (x_X x (3 * k) - 48) ∧ τ.1 70 (2 * k + 1) = nI (x_X x (3 * k + 1) - 48)) → z_J Γ zm_Model_books 106 [some (.inr 63), some (.inl (nI (n + 1))), none, none] [] (p_s τ (3 * n + 2, none)) := by
    intro n τ hT hL hnn hok hnx hcm
    refine zb_Model_books_106 (mn_wasRight (L := x_L x) (by intro p' h'; simp at h') (by show 3 * n + 2 ≤ 100; omega) t1 (by rw [hT.1 63 (by decide)]; exact (rd_t_13 ρ (x_L x) 36).1)) (by omega) (fun r u hr => ?_)
    by_cases hlt : 3 * n + 2 < x_L x
    · have hb : bk_b x = some (3 * n + 2) := sc_b_at hok hlt (hnx hlt)
      have ew : d_wr (x_L x) (3 * n + 2, none) = (3 * n + 2, some (3 * n + 2)) := by
        unfold d_wr d_flt
        simp [hlt]
      rw [ew] at hr
      obtain ⟨rfl, rfl⟩ := hr
      rw [hb] at he
      refine zb_Model_books_110 (fun z => absurd (by simp [z_tf]; decide) z) (fun _ => ?_)
      refine zb_Model_books_113 ?_
      obtain ⟨w1, w2⟩ := fR (3 * n + 2, some (3 * n + 2)) hT
      rw [he, p_s_wr]
      exact ⟨_, rfl, rfl, w1, z0.tr w2⟩
    · have eL : x_L x = 3 * n + 2 := by omega
      have hb : bk_b x = none := by
        show sc_b _ _ _ = none
        rw [sc_b_end (fun j hj => hok j (by omega)), if_pos (by simp; omega)]
      have ew : d_wr (x_L x) (3 * n + 2, none) = (3 * n + 2, none) := by
        unfold d_wr
        rw [if_neg (by omega)]
      rw [ew] at hr
      obtain ⟨rfl, rfl⟩ := hr
      rw [hb] at he
      have eN : (x_L x + 1) / 3 = n + 1 := by omega
      rw [eN] at he
      refine zb_Model_books_110 (fun _ => ?_) (fun z => absurd z (by simp [z_tf]; decide))
      refine zb_Model_books_120 ?_
      obtain ⟨w1, w2⟩ := fR (3 * n + 2, none) hT
      have hcm' : ∀ k, k ≤ n → (p_s τ (3 * n + 2, none)).1 70 (2 * k) = nI (x_X x (3 * k) - 48) ∧ (p_s τ (3 * n + 2, none)).1 70 (2 * k + 1) = nI (x_X x (3 * k + 1) - 48) := fun k hk => by
        rw [p_s_o _ _ (by decide)]
        exact hcm k hk
      generalize p_s τ (3 * n + 2, none) = ω at *
      refine zj_forS (b := n + 1) (fun i => [some (.inr 63), some (.inl (nI (n + 1))), none, some (.inl (nI i))])
        (fun i w => mR (bk_s (x_s x) (x_X x) i) (x_v x) w 64 ∧ mX (fun q => q = 64 ∨ q = 65 ∨ q = 66) (fun k => k = 1) ω w) (fun i w hi hI kk => ?_) (fun w hI => ?_) 0 (Nat.zero_le _) _ ⟨w1.1, mX.rf⟩
      · obtain ⟨q1, q2⟩ := hI
        refine zb_Model_books_122 (fun p => absurd p (nI_ge hi (by omega))) (fun _ => ?_)
        obtain ⟨b1, b2, b3⟩ := bk_s_n (x_s x) (x_X x) i
        obtain ⟨c1, c2⟩ := hcm' i (by omega)
        have e70 : w.1 70 = ω.1 70 := (q2.1 70 (by decide) (by decide)).1
        rw [← e70] at c1 c2
        have efn := q1.2.1.1
        have ok1 := hok (3 * i) (by omega)
        have ok2 := hok (3 * i + 1) (by omega)
        unfold bk_ok at ok1 ok2
        rw [if_pos (by omega)] at ok1
        rw [if_neg (by omega), if_pos (by omega)] at ok2
        simp only [Bool.and_eq_true, decide_eq_true_eq] at ok1 ok2
        have hadd := q1.add (t := x_X x (3 * i) - 48) (w := x_X x (3 * i + 1) - 48) (by omega) (by omega) (by omega)
        refine zb_Model_books_127 (k1 := 2 * i) (k2 := s_n (bk_s (x_s x) (x_X x) i)) (k3 := 2 * i + 1) (k4 := s_n (bk_s (x_s x) (x_X x) i)) (k5 := s_n (bk_s (x_s x) (x_X x) i)) ⟨by rw [pk_mul], by omega⟩ ⟨efn, by omega⟩ ⟨by rw [pk_mul, nI_add], by omega⟩ ⟨by rw [z_pI_ne (by decide)]; exact efn, by omega⟩ ⟨by rw [z_pI_ne (by decide), z_pI_ne (by decide)]; exact efn, by omega⟩ ?_
        rw [z_pI_ne (σ := w) (show 70 ≠ 65 by decide), c1, c2, z_pI_ne (show 63 ≠ 64 by decide), z_pI_ne (show 63 ≠ 66 by decide), z_pI_ne (show 63 ≠ 65 by decide), efn, nI_add, nI_add]
        exact kk _ ⟨hadd, (((q2.pR (Or.inr (Or.inl rfl)) (by decide)).pR (Or.inr (Or.inr rfl)) (by decide)).pR (Or.inl rfl) (by decide)).pK rfl⟩
      · obtain ⟨q1, q2⟩ := hI
        refine zb_Model_books_122 (fun _ => ?_) (fun p => absurd (Int32.le_refl _) p)
        refine zb_Model_books_189 ?_
        have e44 : w.1 63 44 = nI (x_m x) := by rw [q2.2.1 44 (by decide)]; exact w1.2.2.2.2.2.2.1
        rw [z_pI_ne2 (show 44 ≠ 27 by decide), e44, nI_add, he]
        have f3 : mX (fun _ => False) (fun k => k = 27 ∨ k = 44) w (z_pI (z_pI w 63 27 (nI 0)) 63 44 (nI (x_m x + 1))) := (mX.rf.pK (Or.inl rfl)).pK (Or.inr rfl)
        have f4 : mX (fun q => q = 64 ∨ q = 65 ∨ q = 66) (fun k => k = 1 ∨ k = 27 ∨ k = 44) ω (z_pI (z_pI w 63 27 (nI 0)) 63 44 (nI (x_m x + 1))) := (mX.mono q2 (fun _ h => h) (fun _ h => Or.inl h)).tr (f3.mono (fun _ h => h.elim) (fun _ h => Or.inr h))
        obtain ⟨b1, b2, b3⟩ := bk_s_n (x_s x) (x_X x) (n + 1)
        refine ⟨_, rfl, rfl, ⟨q1.keepX f3 (by decide) ⟨id, id, id⟩ id (by decide), mH.nil (by rw [z_pI_ne2 (by decide), z_pI_at]), w1.2.2.1.keepX f4 (by decide) (by decide), w1.2.2.2.1.keepX f4 (by decide) (by decide), w1.2.2.2.2.1.keepX f4 (by decide) (by decide), ?_, w1.2.2.2.2.2.2.none (f4.1 86 (by decide) (by decide)).1 (f4.1 87 (by decide) (by decide)).1 (z_pI_at _ _ _ _)⟩, z0.tr (w2.tr (f4.zU (by omega)))⟩
        have hse := w1.2.2.2.2.2.1.keepX f4 (by decide) (by decide)
        unfold mSe at hse ⊢
        show _ = nI (se_b (x_e x) (s_c (bk_s (x_s x) (x_X x) (n + 1)))) ∧ ∀ c, c < s_c (bk_s (x_s x) (x_X x) (n + 1)) → _
        rw [b2]
        exact hse
  refine zj_forM (I := fun m Lc u => ∃ n τ, m = 20 - n ∧ n ≤ 12 ∧ Lc = [some (.inr 63), some (.inl (nI n)), some (.inl (nI 1)), none] ∧ u = p_s τ (3 * n, none) ∧ zT (fun o => o = 70) (rd_t ρ (x_L x) 36) τ ∧ 3 * n ≤ x_L x ∧ s_n (x_s x) + n ≤ 12 ∧ (∀ j, j < 3 * n → bk_ok (s_n (x_s x)) (x_X x) j = true) ∧ ∀ k, k < n → τ.1 70 (2 * k) = nI (x_X x (3 * k) - 48) ∧ τ.1 70 (2 * k + 1) = nI (x_X x (3 * k + 1) - 48)) (fun m Lc u hI kk => ?_) 20 _ _ ⟨0, rd_t ρ (x_L x) 36, rfl, by omega, rfl, rfl, zT.rf, by omega, by omega, fun j hj => absurd hj (by omega), fun k hk => absurd hk (by omega)⟩
  obtain ⟨n, τ, hm, hn12, rfl, rfl, hT, hL, hnn, hok, hcm⟩ := hI
  have hC := hC0.kT hT (by decide) (by decide) (by rw [(rd_t_2 ρ (x_L x) 36).1]; decide)
  have hq : ∀ a, a ≤ min (x_L x) 36 → d_ok (min (x_L x) 36) (a, none) := fun a ha => ⟨ha, fun p hp => by cases hp⟩
  refine zb_Model_books_24 (fun z => absurd z (by decide)) (fun _ => ?_)
  refine zb_Model_books_28 (mn_fine (by intro p' h'; simp at h')) (by omega) (fun r u hr => ?_)
  obtain ⟨rfl, rfl⟩ := hr
  refine zb_Model_books_32 (fun z => absurd z (by simp [z_tf]; decide)) (fun _ => ?_)
  have ef1 : (p_s τ (3 * n, none)).1 63 1 = nI (s_n (x_s x)) := (fR (3 * n, none) hT).1.1.2.1.1
  -- behind a fault
  have tail : ∀ (a p : Nat) (τ' : zS), zT (fun o => o = 70) (rd_t ρ (x_L x) 36) τ' → a ≤ 80 → p ≤ 80 → bk_b x = some p → z_J Γ zm_Model_books 93 [some (.inr 63), some (.inl (nI n)), none, none] [] (p_s τ' (a, some p)) := by
    intro a p τ' hT' ha hp hb
    refine zb_Model_books_93 (mf_passes (by omega) _) (by omega) (fun r u hr => ?_)
    obtain ⟨rfl, rfl⟩ := hr
    refine zb_Model_books_102 (zb_Model_books_24 (fun _ => ?_) (fun z => absurd rfl z))
    rw [nI_add]
    exact bad (n + 1) a p τ' hT' ha hp hb
  have bad0 : (3 * n < x_L x → bk_ok (s_n (x_s x)) (x_X x) (3 * n) = false) → bk_b x = some (3 * n) := by
    intro z
    by_cases hlt : 3 * n < x_L x
    · exact sc_b_at hok hlt (z hlt)
    · have eL : x_L x = 3 * n := by omega
      show sc_b _ _ _ = _
      rw [sc_b_end (fun j hj => hok j (by omega)), if_neg (by simp; omega), eL]
  refine zb_Model_books_35 (fun z => ?_) (fun z => ?_)
  rotate_left
  · rw [ef1, nI_add, zn_eq (by omega) (by omega)] at z
    refine zb_Model_books_46 (dc := 1) (P := fun u => u = p_s τ (3 * n, some (3 * n))) (by rw [p_s_at]; exact mn_fault (by intro p' h'; simp at h')) (by omega) (fun u hu => ?_)
    subst hu
    refine zb_Model_books_54 (tail _ _ τ hT (by omega) (by omega) (bad0 (fun _ => ?_)))
    unfold bk_ok
    rw [if_pos (by omega)]
    have : ¬ s_n (x_s x) + 3 * n / 3 < 12 := by omega
    simp only [this, decide_false, Bool.and_false]
  rw [ef1, nI_add, zn_eq (by omega) (by omega)] at z
  refine zb_Model_books_57 (mc_oneOf hC (hq (3 * n) (by omega)) (f := 49) (m := 9) (by decide) (by decide)) (by omega) (fun r u hr => ?_)
  by_cases c1 : 3 * n < min (x_L x) 36 ∧ 49 ≤ x_X x (3 * n) ∧ x_X x (3 * n) < 49 + 9
  rotate_left
  · have e1 : d_one (min (x_L x) 36) (x_X x) 49 9 (3 * n, none) = (0, (3 * n, some (3 * n))) := by
      unfold d_one d_flt
      simp [c1]
    rw [e1] at hr
    obtain ⟨rfl, rfl⟩ := hr
    have hb : bk_b x = some (3 * n) := bad0 (fun hlt => by
      unfold bk_ok
      rw [if_pos (by omega)]
      by_cases h36 : 3 * n = 36
      · simp [h36]
      · have : ¬ (49 ≤ x_X x (3 * n) ∧ x_X x (3 * n) < 58) := fun z2 => c1 ⟨by omega, z2.1, by omega⟩
        simp only [this, decide_false, Bool.false_and, Bool.and_false])
    rw [pk_mul]
    refine zb_Model_books_72 (k1 := 2 * n) (dc := 2) (P := z_is (nI 0) (p_s (z_pI τ 70 (2 * n) (nI (0 + 1))) (3 * n, some (3 * n)))) (z_ixn (by omega)) (by rw [p_s_pI _ _ (by decide), nI_add]; exact mf_oneOf (by omega) _ _) (by omega) (fun r u hr => ?_)
    obtain ⟨rfl, rfl⟩ := hr
    rw [pk_mul, nI_add]
    refine zb_Model_books_92 (k1 := 2 * n + 1) (z_ixn (by omega)) ?_
    rw [p_s_pI _ _ (by decide)]
    exact tail _ _ _ ((hT.pI rfl).pI rfl) (by omega) (by omega) hb
  have e1 : d_one (min (x_L x) 36) (x_X x) 49 9 (3 * n, none) = (x_X x (3 * n) - 49, (3 * n + 1, none)) := by
    unfold d_one
    simp [c1]
  rw [e1] at hr
  obtain ⟨rfl, rfl⟩ := hr
  have ok0 : bk_ok (s_n (x_s x)) (x_X x) (3 * n) = true := by
    unfold bk_ok
    rw [if_pos (by omega)]
    simp only [Bool.and_eq_true, decide_eq_true_eq]
    omega
  have hT1 : zT (fun o => o = 70) (rd_t ρ (x_L x) 36) (z_pI τ 70 (2 * n) (nI (x_X x (3 * n) - 48))) := hT.pI rfl
  have hC1 := hC0.kT hT1 (by decide) (by decide) (by rw [(rd_t_2 ρ (x_L x) 36).1]; decide)
  rw [pk_mul]
  refine zb_Model_books_72 (k1 := 2 * n) (dc := 2) (P := fun r u => r = nI (d_one (min (x_L x) 36) (x_X x) 48 10 (3 * n + 1, none)).1 ∧ u = p_s (z_pI τ 70 (2 * n) (nI (x_X x (3 * n) - 48))) (d_one (min (x_L x) 36) (x_X x) 48 10 (3 * n + 1, none)).2) (z_ixn (by omega)) (by
    rw [p_s_pI _ _ (by decide), nI_add, show x_X x (3 * n) - 49 + 1 = x_X x (3 * n) - 48 by omega]
    exact mc_oneOf hC1 (hq (3 * n + 1) (by omega)) (by decide) (by decide)) (by omega) (fun r u hr => ?_)
  by_cases c2 : 3 * n + 1 < min (x_L x) 36 ∧ 48 ≤ x_X x (3 * n + 1) ∧ x_X x (3 * n + 1) < 48 + 10
  rotate_left
  · have e2 : d_one (min (x_L x) 36) (x_X x) 48 10 (3 * n + 1, none) = (0, (3 * n + 1, some (3 * n + 1))) := by
      unfold d_one d_flt
      simp [c2]
    rw [e2] at hr
    obtain ⟨rfl, rfl⟩ := hr
    have hok1 : ∀ j, j < 3 * n + 1 → bk_ok (s_n (x_s x)) (x_X x) j = true := fun j hj => by
      by_cases e : j = 3 * n
      · rw [e]; exact ok0
      · exact hok j (by omega)
    have hb : bk_b x = some (3 * n + 1) := by
      by_cases hlt : 3 * n + 1 < x_L x
      · refine sc_b_at hok1 hlt ?_
        unfold bk_ok
        rw [if_neg (by omega), if_pos (by omega)]
        have : ¬ (48 ≤ x_X x (3 * n + 1) ∧ x_X x (3 * n + 1) < 58) := fun z2 => c2 ⟨by omega, z2.1, by omega⟩
        simp only [this, decide_false, Bool.and_false]
      · have eL : x_L x = 3 * n + 1 := by omega
        show sc_b _ _ _ = _
        rw [sc_b_end (fun j hj => hok1 j (by omega)), if_neg (by simp; omega), eL]
    rw [pk_mul, nI_add]
    refine zb_Model_books_92 (k1 := 2 * n + 1) (z_ixn (by omega)) ?_
    rw [p_s_pI _ _ (by decide)]
    exact tail _ _ _ (hT1.pI rfl) (by omega) (by omega) hb
  have e2 : d_one (min (x_L x) 36) (x_X x) 48 10 (3 * n + 1, none) = (x_X x (3 * n + 1) - 48, (3 * n + 2, none)) := by
    unfold d_one
    simp [c2]
  rw [e2] at hr
  obtain ⟨rfl, rfl⟩ := hr
  have hok2 : ∀ j, j < 3 * n + 2 → bk_ok (s_n (x_s x)) (x_X x) j = true := fun j hj => by
    by_cases e : j = 3 * n
    · rw [e]; exact ok0
    · by_cases e' : j = 3 * n + 1
      · rw [e']
        unfold bk_ok
        rw [if_neg (by omega), if_pos (by omega)]
        simp only [Bool.and_eq_true, decide_eq_true_eq]
        omega
      · exact hok j (by omega)
  rw [pk_mul, nI_add]
  refine zb_Model_books_92 (k1 := 2 * n + 1) (z_ixn (by omega)) ?_
  rw [p_s_pI _ _ (by decide)]
  have hT2 : zT (fun o => o = 70) (rd_t ρ (x_L x) 36) (z_pI (z_pI τ 70 (2 * n) (nI (x_X x (3 * n) - 48))) 70 (2 * n + 1) (nI (x_X x (3 * n + 1) - 48))) := hT1.pI rfl
  have hC2 := hC0.kT hT2 (by decide) (by decide) (by rw [(rd_t_2 ρ (x_L x) 36).1]; decide)
  have hcm2 : ∀ k, k ≤ n → (z_pI (z_pI τ 70 (2 * n) (nI (x_X x (3 * n) - 48))) 70 (2 * n + 1) (nI (x_X x (3 * n + 1) - 48))).1 70 (2 * k) = nI (x_X x (3 * k) - 48) ∧ (z_pI (z_pI τ 70 (2 * n) (nI (x_X x (3 * n) - 48))) 70 (2 * n + 1) (nI (x_X x (3 * n + 1) - 48))).1 70 (2 * k + 1) = nI (x_X x (3 * k + 1) - 48) := fun k hk => by
    by_cases e : k = n
    · subst e
      refine ⟨?_, z_pI_at _ _ _ _⟩
      rw [z_pI_ne2 (by omega), z_pI_at]
    · rw [z_pI_ne2 (by omega), z_pI_ne2 (by omega), z_pI_ne2 (by omega), z_pI_ne2 (by omega)]
      exact hcm k (by omega)
  generalize z_pI (z_pI τ 70 (2 * n) (nI (x_X x (3 * n) - 48))) 70 (2 * n + 1) (nI (x_X x (3 * n + 1) - 48)) = τ2 at *
  refine zb_Model_books_93 (mc_passes hC2 (hq (3 * n + 2) (by omega)) (c := 59) (by decide)) (by omega) (fun r u hr => ?_)
  by_cases c3 : 3 * n + 2 < min (x_L x) 36 ∧ x_X x (3 * n + 2) = 59
  · have e3 : d_pas (min (x_L x) 36) (x_X x) 59 (3 * n + 2, none) = (true, (3 * n + 2 + 1, none)) := d_pas_t ⟨rfl, c3.1, c3.2⟩
    rw [e3] at hr
    obtain ⟨rfl, rfl⟩ := hr
    refine zb_Model_books_102 ?_
    rw [nI_add]
    refine kk (20 - (n + 1)) _ _ (by omega) ⟨n + 1, τ2, rfl, by omega, rfl, by rw [show 3 * (n + 1) = 3 * n + 2 + 1 by omega], hT2, by omega, by omega, fun j hj => ?_, fun k hk => hcm2 k (by omega)⟩
    by_cases e : j = 3 * n + 2
    · rw [e]
      unfold bk_ok
      rw [if_neg (by omega), if_neg (by omega)]
      simp only [Bool.and_eq_true, decide_eq_true_eq]
      omega
    · exact hok2 j (by omega)
  · have e3 : d_pas (min (x_L x) 36) (x_X x) 59 (3 * n + 2, none) = (false, (3 * n + 2, none)) := d_pas_f (fun z2 => c3 ⟨z2.2.1, z2.2.2⟩)
    rw [e3] at hr
    obtain ⟨rfl, rfl⟩ := hr
    refine zb_Model_books_102 (zb_Model_books_24 (fun _ => ?_) (fun z => absurd rfl z))
    rw [nI_add]
    refine good n τ2 hT2 (by omega) (by omega) hok2 (fun hlt => ?_) hcm2
    unfold bk_ok
    rw [if_neg (by omega), if_neg (by omega)]
    have : ¬ x_X x (3 * n + 2) = 59 := fun z2 => c3 ⟨by omega, z2⟩
    simp only [this, decide_false, Bool.and_false]
end
