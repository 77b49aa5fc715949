section
variable {s : aS} {v : aV} {σ u : zS} {o c : Nat}
def s_add (s : aS) (t w : Nat) : aS := (s_n s + 1, s_c s, s_r s, a_up (s_t s) (s_n s) t, a_up (s_w s) (s_n s) w, s_l s)
def s_rd (s : aS) (l : Nat) : aS := (s_n s, s_c s, s_r s + 1, s_t s, s_w s, a_up (s_l s) (s_r s) l)
def s_cl (s : aS) (n : Nat) : aS := (s_n s, n, s_r s, s_t s, s_w s, s_l s)
theorem aI_add (h : aI s v) {t w : Nat} (hn : s_n s < 12) (ht : 1 ≤ t ∧ t ≤ 9) (hw : w ≤ 9) : aI (s_add s t w) v := by
  obtain ⟨h1, h2, h3, h5, h6, h7, h8, h10, h11⟩ := id h
  refine ⟨⟨by show s_n s + 1 ≤ 12; omega, h1.2⟩, h2, fun b hb => h3 b (by have hb : s_n s + 1 ≤ b := hb; omega), fun c hc => ?_, fun b hb hw' => ?_, fun b hb hw' => ?_, h8, fun b hb => ?_, h11⟩
  · obtain ⟨q1, q2, q3⟩ := h5 c hc
    refine ⟨q1, q2, fun b => ?_⟩
    rw [q3 b]
    show _ ↔ (b < s_n s + 1 ∧ _)
    constructor
    · rintro ⟨a1, a2⟩
      exact ⟨by omega, a2⟩
    · rintro ⟨a1, a2, a3⟩
      refine ⟨?_, a2, a3⟩
      rcases Nat.lt_or_ge b (s_n s) with q | q
      · exact q
      · have := h3 b q
        omega
  · rcases Nat.lt_or_ge b (s_n s) with q | q
    · exact h6 b q hw'
    · have := h3 b q
      omega
  · rcases Nat.lt_or_ge b (s_n s) with q | q
    · exact h7 b q hw'
    · have := h3 b q
      omega
  · have hb : b < s_n s + 1 := hb
    show 1 ≤ a_up (s_t s) (s_n s) t b ∧ a_up (s_t s) (s_n s) t b ≤ 9 ∧ a_up (s_w s) (s_n s) w b ≤ 9
    by_cases e : b = s_n s
    · subst e
      rw [a_up_s, a_up_s]
      exact ⟨ht.1, ht.2, hw⟩
    · rw [a_up_n e, a_up_n e]
      exact h10 b (by omega)
theorem cc_addBook (ho : z_oC o) (hR : cR s v σ o) {t w : Nat} (hn : s_n s < 12) (ht : 1 ≤ t ∧ t ≤ 9) (hw : w ≤ 9) : z_Cv 3 zm_City_addBook [.inr o, .inl (nI t), .inl (nI w)] σ (fun u => cR (s_add s t w) v u o ∧ z_fr (z_F09 o) σ u) := by
  refine z_Cv_of (by decide) (Nat.le_of_ble_eq_true rfl) (fun Γ hd he => ?_)
  show z_J Γ zm_City_addBook 0 [some (.inr o), some (.inl (nI t)), some (.inl (nI w))] [] σ
  refine zb_City_addBook_0 ho (fun _ => ?_) (fun h => ?_)
  · obtain ⟨σ3, hσ3⟩ : ∃ z, z = z_pI (z_pI (z_pI σ (o + 1) (s_n s) (nI t)) (o + 2) (s_n s) (nI w)) o 0 (nI (s_n s + 1)) := ⟨_, rfl⟩
    have hw0 : v_w v (s_n s) = 0 := hR.1.2.2.1 _ (Nat.le_refl _)
    have e3 : σ3.1 (o + 3) = σ.1 (o + 3) := by rw [hσ3, z_pI_ne (by omega), z_pI_ne (by omega), z_pI_ne (by omega)]
    have hl := cc_lift0 (σ := σ3) ho (b := s_n s) (w := 0) (t := 0) (by omega) (by rw [e3, hR.fW (by omega), hw0]) (by decide) (by decide)
    refine zb_City_addBook_10 ho (k1 := s_n s) (k2 := s_n s) (P := fun u => u = z_pI (z_pI (z_pI σ3 (o + 3) (s_n s) (nI 0)) (o + 4) (s_n s) (-1)) (o + 5) (s_n s) (-1)) (dc := 2) ⟨hR.fn, by omega⟩ ⟨by rw [z_pI_ne (by omega)]; exact hR.fn, by omega⟩ ?_ (by omega) (fun u hu => ?_)
    · rw [z_pI_at, z_pI_ne (show o ≠ o + 2 by omega), z_pI_ne (show o ≠ o + 1 by omega), hR.fn, nI_add, zn_pred (by omega), ← hσ3]
      exact hl
    · refine zb_City_addBook_51 ?_
      rw [he]
      subst hσ3
      subst hu
      refine ⟨rfl, ⟨aI_add hR.1 hn ht hw, ⟨?_, ?_, ?_, fun b hb => ?_, fun b hb => ?_, fun r hr => ?_⟩, fun b hb => ?_, fun b hb => ?_, fun b hb => ?_, fun c hc => ?_, fun c hc k hk => ?_, fun r hr => ?_, ?_⟩, ?_⟩
      · rw [z_pI_ne (by omega), z_pI_ne (by omega), z_pI_ne (by omega), z_pI_at]
        rfl
      · rw [z_pI_ne (by omega), z_pI_ne (by omega), z_pI_ne (by omega), z_pI_ne2 (by decide), z_pI_ne (by omega), z_pI_ne (by omega)]
        exact hR.fc
      · rw [z_pI_ne (by omega), z_pI_ne (by omega), z_pI_ne (by omega), z_pI_ne2 (by decide), z_pI_ne (by omega), z_pI_ne (by omega)]
        exact hR.fr
      · have hb : b < s_n s + 1 := hb
        show _ = nI (a_up (s_t s) (s_n s) t b)
        rw [z_pI_ne (by omega), z_pI_ne (by omega), z_pI_ne (by omega), z_pI_ne (by omega), z_pI_ne (by omega)]
        by_cases e : b = s_n s
        · subst e
          rw [z_pI_at, a_up_s]
        · rw [z_pI_ne2 e, a_up_n e]
          exact hR.ft (by omega)
      · have hb : b < s_n s + 1 := hb
        show _ = nI (a_up (s_w s) (s_n s) w b)
        rw [z_pI_ne (by omega), z_pI_ne (by omega), z_pI_ne (by omega), z_pI_ne (by omega)]
        by_cases e : b = s_n s
        · subst e
          rw [z_pI_at, a_up_s]
        · rw [z_pI_ne2 e, a_up_n e, z_pI_ne (by omega)]
          exact hR.fw (by omega)
      · rw [z_pI_ne (by omega), z_pI_ne (by omega), z_pI_ne (by omega), z_pI_ne (by omega), z_pI_ne (by omega), z_pI_ne (by omega)]
        exact hR.fl hr
      · rw [z_pI_ne (by omega), z_pI_ne (by omega), z_pI_1]
        by_cases e : b = s_n s
        · rw [if_pos ⟨rfl, e⟩, e, hw0]
        · rw [if_neg (fun q => e q.2), e3]
          exact hR.fW hb
      · have hb : b < s_n s + 1 := hb
        rw [z_pI_ne (by omega), z_pI_1]
        by_cases e : b = s_n s
        · rw [if_pos ⟨rfl, e⟩, e, hw0, if_neg (by omega)]
        · rw [if_neg (fun q => e q.2), z_pI_ne (by omega), z_pI_ne (by omega), z_pI_ne (by omega), z_pI_ne (by omega)]
          exact hR.fH (by omega)
      · have hb : b < s_n s + 1 := hb
        rw [z_pI_1]
        by_cases e : b = s_n s
        · rw [if_pos ⟨rfl, e⟩, e, hw0, if_neg (by omega)]
        · rw [if_neg (fun q => e q.2), z_pI_ne (by omega), z_pI_ne (by omega), z_pI_ne (by omega), z_pI_ne (by omega), z_pI_ne (by omega)]
          exact hR.fD (by omega)
      · rw [z_pI_ne (by omega), z_pI_ne (by omega), z_pI_ne (by omega), z_pI_ne (by omega), z_pI_ne (by omega), z_pI_ne (by omega)]
        exact hR.fM hc
      · rw [z_pI_ne (by omega), z_pI_ne (by omega), z_pI_ne (by omega), z_pI_ne (by omega), z_pI_ne (by omega), z_pI_ne (by omega)]
        exact hR.fP hc hk
      · rw [z_pI_ne (by omega), z_pI_ne (by omega), z_pI_ne (by omega), z_pI_ne (by omega), z_pI_ne (by omega), z_pI_ne (by omega)]
        exact hR.fF hr
      · rw [z_pI_ne (by omega), z_pI_ne (by omega), z_pI_ne (by omega), z_pI_ne2 (by decide), z_pI_ne (by omega), z_pI_ne (by omega)]
        exact hR.fy
      · exact (((((z_fr.rf.pI (by show o ≤ _ ∧ _ ≤ o + 9; omega)).pI (by show o ≤ _ ∧ _ ≤ o + 9; omega)).pI (by show o ≤ _ ∧ _ ≤ o + 9; omega)).pI (by show o ≤ _ ∧ _ ≤ o + 9; omega)).pI (by show o ≤ _ ∧ _ ≤ o + 9; omega)).pI (by show o ≤ _ ∧ _ ≤ o + 9; omega)
  · rw [hR.fn, zn_eq (by omega) (by omega)] at h
    omega
theorem cc_addReader (ho : z_oC o) (hR : cR s v σ o) {l : Nat} (hn : s_r s < 4) (hl : l ≤ 9) : z_Cv 0 zm_City_addReader [.inr o, .inl (nI l)] σ (fun u => cR (s_rd s l) v u o ∧ z_fr (z_F09 o) σ u) := by
  refine z_Cv_of (by decide) (Nat.le_of_ble_eq_true rfl) (fun Γ hd he => ?_)
  show z_J Γ zm_City_addReader 0 [some (.inr o), some (.inl (nI l))] [] σ
  refine zb_City_addReader_0 ho (fun _ => ?_) (fun h => ?_)
  · refine zb_City_addReader_9 ho (k1 := s_r s) ⟨hR.fr, hn⟩ ?_
    rw [he, z_pI_ne (show o ≠ o + 8 by omega), hR.fr, nI_add]
    obtain ⟨h1, h2, h3, h5, h6, h7, h8, h10, h11⟩ := id hR.1
    refine ⟨rfl, ⟨⟨⟨h1.1, h1.2.1, h1.2.2.1, by show s_r s + 1 ≤ 4; omega⟩, h2, h3, h5, h6, fun b hb hw => ?_, fun r hr => ?_, h10, fun r hr => ?_⟩, ⟨?_, ?_, ?_, fun b hb => ?_, fun b hb => ?_, fun r hr => ?_⟩, ?_⟩, (z_fr.rf.pI (by show o ≤ _ ∧ _ ≤ o + 9; omega)).pI (by show o ≤ _ ∧ _ ≤ o + 9; omega)⟩
    · show v_h v b < s_r s + 1
      have := h7 b hb hw
      omega
    · exact h8 r (by have hr : s_r s + 1 ≤ r := hr; omega)
    · have hr : r < s_r s + 1 := hr
      show a_up (s_l s) (s_r s) l r ≤ 9
      by_cases e : r = s_r s
      · rw [e, a_up_s]
        exact hl
      · rw [a_up_n e]
        exact h11 r (by omega)
    · rw [z_pI_ne2 (by decide), z_pI_ne (by omega)]
      exact hR.fn
    · rw [z_pI_ne2 (by decide), z_pI_ne (by omega)]
      exact hR.fc
    · rw [z_pI_at]
      rfl
    · rw [z_pI_ne (by omega), z_pI_ne (by omega)]
      exact hR.ft hb
    · rw [z_pI_ne (by omega), z_pI_ne (by omega)]
      exact hR.fw hb
    · have hr : r < s_r s + 1 := hr
      show _ = nI (a_up (s_l s) (s_r s) l r)
      rw [z_pI_ne (by omega)]
      by_cases e : r = s_r s
      · rw [e, z_pI_at, a_up_s]
      · rw [z_pI_ne2 e, a_up_n e]
        exact hR.fl (by omega)
    · rw [z_pI_ne2 (by decide), z_pI_ne (show o ≠ o + 8 by omega), z_pI_ne (show o + 3 ≠ o by omega), z_pI_ne (show o + 3 ≠ o + 8 by omega), z_pI_ne (show o + 4 ≠ o by omega), z_pI_ne (show o + 4 ≠ o + 8 by omega), z_pI_ne (show o + 5 ≠ o by omega), z_pI_ne (show o + 5 ≠ o + 8 by omega), z_pI_ne (show o + 6 ≠ o by omega), z_pI_ne (show o + 6 ≠ o + 8 by omega), z_pI_ne (show o + 7 ≠ o by omega), z_pI_ne (show o + 7 ≠ o + 8 by omega), z_pI_ne (show o + 9 ≠ o by omega), z_pI_ne (show o + 9 ≠ o + 8 by omega)]
      exact hR.2.2
  · rw [hR.fr, zn_eq (by omega) (by omega)] at h
    omega
/-- a column more, empty -/
def a_nc (v : aV) (c : Nat) : aV := (v_w v, v_h v, v_d v, v_f v, a_upl (v_p v) c [], v_y v)
theorem cc_addColumn (ho : z_oC o) (hR : cR s v σ o) : z_Ci 0 zm_City_addColumn [.inr o] σ (fun x u => (s_c s = 6 ∧ x = nI 0 ∧ u = σ) ∨ (s_c s < 6 ∧ x = nI 1 ∧ cR (s_cl s (s_c s + 1)) (a_nc v (s_c s)) u o ∧ z_fr (z_F09 o) σ u)) := by
  have h6 := hR.c6
  refine z_Ci_of (by decide) (Nat.le_of_ble_eq_true rfl) (fun Γ hd he => ?_)
  show z_J Γ zm_City_addColumn 0 [some (.inr o)] [] σ
  refine zb_City_addColumn_0 ho (fun h => ?_) (fun h => ?_)
  · rw [hR.fc, zn_eq (by omega) (by omega)] at h
    refine zb_City_addColumn_11 ho (k1 := s_c s) ⟨hR.fc, by omega⟩ ?_
    rw [he, z_pI_ne (show o ≠ o + 6 by omega), hR.fc, nI_add]
    obtain ⟨h1, h2, h3, h5, h6', h7, h8, h10, h11⟩ := id hR.1
    refine ⟨_, rfl, Or.inr ⟨by omega, rfl, ⟨⟨⟨h1.1, by show 1 ≤ s_c s + 1; omega, by show s_c s + 1 ≤ 6; omega, h1.2.2.2⟩, h2, h3, fun c hc => ?_, fun b hb hw => ?_, h7, h8, h10, h11⟩, ⟨?_, ?_, ?_, fun b hb => ?_, fun b hb => ?_, fun r hr => ?_⟩, fun b hb => ?_, fun b hb => ?_, fun b hb => ?_, fun c hc => ?_, fun c hc k hk => ?_, fun r hr => ?_, ?_⟩, (z_fr.rf.pI (by show o ≤ _ ∧ _ ≤ o + 9; omega)).pI (by show o ≤ _ ∧ _ ≤ o + 9; omega)⟩⟩
    · have hc : c < s_c s + 1 := hc
      show (a_upl (v_p v) (s_c s) [] c).Nodup ∧ (a_upl (v_p v) (s_c s) [] c).length ≤ 4 ∧ ∀ b, b ∈ a_upl (v_p v) (s_c s) [] c ↔ (b < s_n s ∧ v_w v b = 1 ∧ v_h v b = c)
      by_cases e : c = s_c s
      · have e1 : a_upl (v_p v) (s_c s) [] c = [] := if_pos e
        rw [e1]
        refine ⟨List.nodup_nil, by simp, fun b => ⟨fun q => by simp at q, fun q => ?_⟩⟩
        have := h6' b q.1 q.2.1
        omega
      · have e1 : a_upl (v_p v) (s_c s) [] c = v_p v c := if_neg e
        rw [e1]
        exact h5 c (by omega)
    · have := h6' b hb hw
      show v_h v b < s_c s + 1
      omega
    · rw [z_pI_ne2 (by decide), z_pI_ne (by omega)]
      exact hR.fn
    · rw [z_pI_at]
      rfl
    · rw [z_pI_ne2 (by decide), z_pI_ne (by omega)]
      exact hR.fr
    · rw [z_pI_ne (by omega), z_pI_ne (by omega)]
      exact hR.ft hb
    · rw [z_pI_ne (by omega), z_pI_ne (by omega)]
      exact hR.fw hb
    · rw [z_pI_ne (by omega), z_pI_ne (by omega)]
      exact hR.fl hr
    · rw [z_pI_ne (by omega), z_pI_ne (by omega)]
      exact hR.fW hb
    · rw [z_pI_ne (by omega), z_pI_ne (by omega)]
      exact hR.fH hb
    · rw [z_pI_ne (by omega), z_pI_ne (by omega)]
      exact hR.fD hb
    · have hc : c < s_c s + 1 := hc
      show _ = nI (a_upl (v_p v) (s_c s) [] c).length
      rw [z_pI_ne (by omega)]
      by_cases e : c = s_c s
      · rw [e, z_pI_at]
        simp [a_upl]
      · rw [z_pI_ne2 e]
        simp only [a_upl, e, if_false]
        exact hR.fM (by omega)
    · have hc : c < s_c s + 1 := hc
      have hk : k < (a_upl (v_p v) (s_c s) [] c).length := hk
      show _ = nI ((a_upl (v_p v) (s_c s) [] c).getD k 0)
      rw [z_pI_ne (by omega), z_pI_ne (by omega)]
      by_cases e : c = s_c s
      · simp [a_upl, e] at hk
      · simp only [a_upl, e, if_false] at hk ⊢
        exact hR.fP (by omega) hk
    · rw [z_pI_ne (by omega), z_pI_ne (by omega)]
      exact hR.fF hr
    · rw [z_pI_ne2 (by decide), z_pI_ne (by omega)]
      exact hR.fy
  · rw [hR.fc, zn_eq (by omega) (by omega)] at h
    refine zb_City_addColumn_9 ?_
    rw [he]
    exact ⟨_, rfl, Or.inl ⟨h, rfl, rfl⟩⟩
/-- all books on the heap, one empty column -/
def a_pl (v : aV) (n : Nat) : aV := (fun b => if b < n then 0 else v_w v b, v_h v, v_d v, v_f v, fun c => (v_p v c).filter (fun b => decide (n ≤ b)), v_y v)
theorem a_pl_step (hI : aI s v) {i : Nat} (hi : i < s_n s) : aE s (a_lift (a_pl v i) i 0) (a_pl v (i + 1)) := by
  refine ⟨fun b => ?_, fun _ _ _ => rfl, fun _ _ _ => rfl, fun c hc => ?_, rfl, rfl⟩
  · show a_up (fun b => if b < i then 0 else v_w v b) i 0 b = if b < i + 1 then 0 else v_w v b
    by_cases e : b = i
    · subst e
      rw [a_up_s, if_pos (by omega)]
    · rw [a_up_n e]
      have : b < i ↔ b < i + 1 := by omega
      simp only [this]
  · show ((v_p v c).filter (fun b => decide (i ≤ b))).erase i = (v_p v c).filter (fun b => decide (i + 1 ≤ b))
    have hnd : ((v_p v c).filter (fun b => decide (i ≤ b))).Nodup := (hI.nd hc).filter _
    rw [hnd.erase_eq_filter, List.filter_filter]
    apply List.filter_congr
    intro b _
    by_cases e : b = i
    · subst e
      simp
    · have : decide (i ≤ b) = decide (i + 1 ≤ b) := by
        apply decide_eq_decide.mpr
        omega
      simp [e, this]
theorem cc_pullDown (ho : z_oC o) (hR : cR s v σ o) : z_Cv 3 zm_City_pullDown [.inr o] σ (fun u => cR (s_cl s 1) (a_pl v (s_n s)) u o ∧ z_fr (z_F09 o) σ u) := by
  have hn := hR.n
  refine z_Cv_of (by decide) (Nat.le_of_ble_eq_true rfl) (fun Γ hd he => ?_)
  show z_J Γ zm_City_pullDown 0 [some (.inr o), none] [] σ
  refine zb_City_pullDown_0 ho ?_
  refine zj_forS (b := s_n s) (fun i => [some (.inr o), some (.inl (nI i))]) (fun i u => cR s (a_pl v i) u o ∧ z_fr (z_F37 o) σ u) (fun i u hi hI kk => ?_) (fun u hI => ?_) 0 (Nat.zero_le _) _ ⟨hR.eqv ⟨fun b => ?_, fun _ _ _ => rfl, fun _ _ _ => rfl, fun c hc => ?_, rfl, rfl⟩, z_fr.rf⟩
  · obtain ⟨q1, q2⟩ := hI
    refine zb_City_pullDown_2 ho (fun h => ?_) (fun _ => ?_)
    · rw [q1.fn] at h
      exact absurd h (nI_ge hi (by omega))
    refine zb_City_pullDown_10 ho (cc_lift ho q1 hi) (by omega) (fun u2 h2 => ?_)
    refine zb_City_pullDown_16 ho ?_
    rw [nI_add]
    exact kk u2 ⟨(h2.R q1 hi (Or.inl rfl)).eqv (a_pl_step hR.1 hi), q2.tr h2.fr⟩
  · obtain ⟨q1, q2⟩ := hI
    refine zb_City_pullDown_2 ho (fun _ => ?_) (fun h => ?_)
    · refine zb_City_pullDown_22 ho ?_
      rw [he]
      obtain ⟨h1, h2, h3, h5, h6, h7, h8, h10, h11⟩ := id q1.1
      have hw0 : ∀ b, b < s_n s → v_w (a_pl v (s_n s)) b = 0 := fun b hb => if_pos hb
      refine ⟨rfl, ⟨⟨⟨h1.1, Nat.le_refl 1, (by show 1 ≤ 6; omega), h1.2.2.2⟩, h2, h3, fun c hc => ?_, fun b hb hw => ?_, h7, h8, h10, h11⟩, ⟨?_, ?_, ?_, fun b hb => ?_, fun b hb => ?_, fun r hr => ?_⟩, fun b hb => ?_, fun b hb => ?_, fun b hb => ?_, fun c hc => ?_, fun c hc k hk => ?_, fun r hr => ?_, ?_⟩, (q2.mono (fun q hq => hq.to)).pI (by show o ≤ _ ∧ _ ≤ o + 9; omega)⟩
      · have hc : c < 1 := hc
        exact h5 c (by have := hR.c1; omega)
      · have := hw0 b hb
        omega
      · rw [z_pI_ne2 (by decide)]
        exact q1.fn
      · rw [z_pI_at]
        rfl
      · rw [z_pI_ne2 (by decide)]
        exact q1.fr
      · rw [z_pI_ne (by omega)]
        exact q1.ft hb
      · rw [z_pI_ne (by omega)]
        exact q1.fw hb
      · rw [z_pI_ne (by omega)]
        exact q1.fl hr
      · rw [z_pI_ne (by omega)]
        exact q1.fW hb
      · rw [z_pI_ne (by omega)]
        exact q1.fH hb
      · rw [z_pI_ne (by omega)]
        exact q1.fD hb
      · have hc : c < 1 := hc
        rw [z_pI_ne (by omega)]
        exact q1.fM (by have := hR.c1; omega)
      · have hc : c < 1 := hc
        rw [z_pI_ne (by omega)]
        exact q1.fP (by have := hR.c1; omega) hk
      · rw [z_pI_ne (by omega)]
        exact q1.fF hr
      · rw [z_pI_ne2 (by decide)]
        exact q1.fy
    · rw [q1.fn] at h
      exact absurd (Int32.le_refl _) h
  · show v_w v b = if b < 0 then 0 else v_w v b
    rw [if_neg (by omega)]
  · show v_p v c = (v_p v c).filter (fun b => decide (0 ≤ b))
    exact (List.filter_eq_self.mpr (by simp)).symm
/-- a column without chosen places -/
def l_wo (l : List Nat) (m : Nat) : Nat → List Nat
  | 0 => []
  | i + 1 => if m.testBit i = true then l_wo l m i else l_wo l m i ++ [l.getD i 0]
theorem l_wo_len (l : List Nat) (m : Nat) : ∀ i, (l_wo l m i).length ≤ i
  | 0 => by simp [l_wo]
  | i + 1 => by
    have := l_wo_len l m i
    simp only [l_wo]
    split
    · omega
    · simp
      omega
def cT (s : aS) (dy : Nat) (σ : zS) (o : Nat) : Prop := s_n s ≤ 12 ∧ (∀ b, b < s_n s → σ.1 (o + 1) b = nI (s_t s b) ∧ σ.1 (o + 2) b = nI (s_w s b) ∧ s_t s b ≤ 9 ∧ s_w s b ≤ 9) ∧ σ.1 o 12 = nI dy
theorem cR.cT (h : cR s v σ o) : cT s (v_y v) σ o := ⟨h.n, fun b hb => ⟨h.ft hb, h.fw hb, (h.1.2.2.2.2.2.2.2.1 b hb).2.1, (h.1.2.2.2.2.2.2.2.1 b hb).2.2⟩, h.fy⟩
theorem cc_copyWithout {dy : Nat} {l : List Nat} {d : Nat} (ho : z_oC o) (hd : z_oC d) (hne : o ≠ d) (hT : cT s dy σ o) (hR : cC s dy σ d c l) {m : Nat} (hm : m < 2147483648) : z_Cv 1 zm_City_copyColumnWithout [.inr o, .inr d, .inl (nI c), .inl (nI m)] σ (fun u => cC s dy u o c (l_wo l m l.length) ∧ z_fr (fun q => q = o + 6 ∨ q = o + 7) σ u) := by
  have h6 := hR.c6
  have h4 := hR.l4
  have hn := hR.n
  have far : ∀ {i j : Nat}, i ≤ 9 → j ≤ 9 → d + i ≠ o + j := fun hi hj e => z_oC_far ho hd hne hj hi e.symm
  refine z_Cv_of (by decide) (Nat.le_of_ble_eq_true rfl) (fun Γ hdp he => ?_)
  show z_J Γ zm_City_copyColumnWithout 0 [some (.inr o), some (.inr d), some (.inl (nI c)), some (.inl (nI m)), none] [] σ
  refine zb_City_copyColumnWithout_0 ho hd (k1 := c) (z_ixn h6) ?_
  refine zj_forS (b := l.length) (fun i => [some (.inr o), some (.inr d), some (.inl (nI c)), some (.inl (nI m)), some (.inl (nI i))])
    (fun i u => z_fr (fun q => q = o + 6 ∨ q = o + 7) σ u ∧ u.1 (o + 6) c = nI (l_wo l m i).length ∧ ∀ k, k < (l_wo l m i).length → u.1 (o + 7) (c * 4 + k) = nI ((l_wo l m i).getD k 0) ∧ (l_wo l m i).getD k 0 < s_n s) (fun i u hi hI kk => ?_) (fun u hI => ?_) 0 (Nat.zero_le _) _ ⟨z_fr.rf.pI (Or.inl rfl), by rw [z_pI_at]; rfl, fun k hk => by simp [l_wo] at hk⟩
  · obtain ⟨q1, q2, q3⟩ := hI
    have hlen := l_wo_len l m i
    have hRu : cC s dy u d c l := hR.keep (q1 d (by have := far (i := 0) (j := 6) (by omega) (by omega); have := far (i := 0) (j := 7) (by omega) (by omega); omega)).1 (q1 (d + 1) (by have := far (i := 1) (j := 6) (by omega) (by omega); have := far (i := 1) (j := 7) (by omega) (by omega); omega)).1 (q1 (d + 2) (by have := far (i := 2) (j := 6) (by omega) (by omega); have := far (i := 2) (j := 7) (by omega) (by omega); omega)).1 (q1 (d + 6) (by have := far (i := 6) (j := 6) (by omega) (by omega); have := far (i := 6) (j := 7) (by omega) (by omega); omega)).1 (q1 (d + 7) (by have := far (i := 7) (j := 6) (by omega) (by omega); have := far (i := 7) (j := 7) (by omega) (by omega); omega)).1
    refine zb_City_copyColumnWithout_10 ho hd (k1 := c) (z_ixn h6) (fun h => ?_) (fun _ => ?_)
    · rw [hRu.fM] at h
      exact absurd h (nI_ge hi (by omega))
    refine zb_City_copyColumnWithout_21 ho hd (fun h => ?_) (fun h => ?_)
    · rw [zn_bit0 hm (by omega), Bool.not_eq_false] at h
      refine zb_City_copyColumnWithout_62 ho hd ?_
      rw [nI_add]
      refine kk u ?_
      simp only [l_wo, h, if_true]
      exact ⟨q1, q2, q3⟩
    · rw [zn_bit0 hm (by omega)] at h
      refine zb_City_copyColumnWithout_30 ho hd (k1 := c) (z_ixn h6) (lc_bookAt hd hRu hi) (by omega) (fun x u2 hx => ?_)
      obtain ⟨rfl, rfl⟩ := hx
      rw [q2]
      refine zb_City_copyColumnWithout_51 ho hd (k1 := c * 4 + (l_wo l m i).length) (k2 := c) (k3 := c) (z_ixp (by omega)) (z_ixn h6) (z_ixn h6) (zb_City_copyColumnWithout_62 ho hd ?_)
      rw [z_pI_ne (show o + 6 ≠ o + 7 by omega), q2, nI_add, nI_add]
      refine kk _ ?_
      simp only [l_wo, h, Bool.false_eq_true, if_false]
      refine ⟨(q1.pI (Or.inr rfl)).pI (Or.inl rfl), ?_, fun k hk => ?_⟩
      · rw [z_pI_at]
        simp
      · rw [z_pI_ne (show o + 7 ≠ o + 6 by omega)]
        simp only [List.length_append, List.length_cons, List.length_nil] at hk
        by_cases e : k = (l_wo l m i).length
        · subst e
          have e : (l_wo l m i ++ [l.getD i 0]).getD (l_wo l m i).length 0 = l.getD i 0 := by simp
          rw [z_pI_at, e]
          exact ⟨rfl, hR.mem hi⟩
        · rw [z_pI_ne2 (by omega)]
          have hk' : k < (l_wo l m i).length := by omega
          have := q3 k hk'
          simp only [List.getD_eq_getElem?_getD, List.getElem?_append_left hk'] at this ⊢
          exact this
  · obtain ⟨q1, q2, q3⟩ := hI
    have hM : u.1 (d + 6) c = nI l.length := by rw [(q1 (d + 6) (by have := far (i := 6) (j := 6) (by omega) (by omega); have := far (i := 6) (j := 7) (by omega) (by omega); omega)).1]; exact hR.fM
    refine zb_City_copyColumnWithout_10 ho hd (k1 := c) (z_ixn h6) (fun _ => ?_) (fun h => ?_)
    · refine zb_City_copyColumnWithout_68 ?_
      rw [he]
      have hlen := l_wo_len l m l.length
      refine ⟨rfl, ⟨⟨h6, by omega, fun k hk => (q3 k hk).2, hn⟩, q2, fun k hk => (q3 k hk).1, fun b hb => ?_, ?_⟩, q1⟩
      · rw [(q1 (o + 1) (by omega)).1, (q1 (o + 2) (by omega)).1]
        exact hT.2.1 b hb
      · rw [(q1 o (by omega)).1]
        exact hT.2.2
    · rw [hM] at h
      exact absurd (Int32.le_refl _) h
end
