/-! the program: the city's turn, and play -/
section
variable {E : (Nat → Int32) → Int32} {s : aS} {r : Nat}
theorem d_C1 (hr : z_oR r) {n : Nat} (hn4 : n < 4) (hch : dE E s r n) : dC E s r (n + 1) := by
  intro w τ en hR hE hen
  have h6 := hR.c6
  have hn := hR.n
  have hg99 := p_v_99 (E := E) (s := s) n true
  have ha99 := hg99 w
  have hl99 : a_lh s w ≤ 99 := a_lhi_le _ _ _
  refine z_Ci_of (by decide) (Nat.le_of_ble_eq_true rfl) (fun Γ hd he => ?_)
  show z_J Γ zm_Duel_afterCity 0 [some (.inr 30), some (.inr 43), some (.inr r), some (.inl (nI (n + 1))), some (.inl (nI en)), none, none, none, none] [] τ
  refine zb_Duel_afterCity_0 hr (fun _ => ?_) (fun z => absurd z (by rw [show (0 : Int32) = nI 0 from rfl, zn_eq (by omega) (by omega)]; omega))
  refine zb_Duel_afterCity_9 hr (dc := 5 + n) (P := fun x u' => (∃ y, x = nI y ∧ y ≤ 100 ∧ pLo none (p_v E s n true w) y) ∧ cR s w u' 43 ∧ cX c_tO (fun _ => False) τ u') (by rw [zn_pred (by omega), Nat.add_sub_cancel]; exact hch w τ none hR hE (fun e h => absurd h (by simp))) (by omega) (fun x u1 hx => ?_)
  obtain ⟨⟨y, rfl, y1, y2⟩, R1, F1⟩ := hx
  have ey := y2.2 (fun e h => absurd h (by simp))
  subst ey
  refine zb_Duel_afterCity_19 hr (cc_leastHeight z_c43 R1) (by omega) (fun x u2 hx => ?_)
  obtain ⟨rfl, rfl⟩ := hx
  refine zb_Duel_afterCity_25 hr ?_
  have ev : p_v E s (n + 1) false w = p_ci E s (p_v E s n true) w (p_v E s n true w) (s_n s) := by rw [p_v]
  rw [ev] at he
  have last : ∀ v u, v ≤ 99 → (v = p_ci E s (p_v E s n true) w (p_v E s n true w) (s_n s) ∨ (en ≤ v ∧ v ≤ p_ci E s (p_v E s n true) w (p_v E s n true w) (s_n s))) → cR s w u 43 → cX c_tO (fun _ => False) τ u → z_J Γ zm_Duel_afterCity 146 [none, none, none, none, none, some (.inl (nI v)), none, none, none] [] u := by
    intro v u h1 h2 Ru Fu
    refine zb_Duel_afterCity_146 ?_
    rw [he]
    refine ⟨_, rfl, ⟨v, rfl, by omega, ?_⟩, Ru, Fu⟩
    rcases h2 with q | ⟨q1, q2⟩
    · exact ⟨fun _ => q, fun h => by omega⟩
    · exact ⟨fun h => by omega, fun _ => q1⟩
  refine zj_forS (b := s_n s) (fun b => [some (.inr 30), some (.inr 43), some (.inr r), some (.inl (nI (n + 1))), some (.inl (nI en)), some (.inl (nI (p_ci E s (p_v E s n true) w (p_v E s n true w) b))), some (.inl (nI (a_lh s w))), some (.inl (nI b)), none])
    (fun _ u => cR s w u 43 ∧ cX c_tO (fun _ => False) τ u) (fun b u hb hI kk => ?_) (fun u hI => ?_) 0 (Nat.zero_le _) _ ⟨R1, F1⟩
  rotate_left
  · obtain ⟨Ru, Fu⟩ := hI
    refine zb_Duel_afterCity_30 hr (fun _ => ?_) (fun z => absurd (by rw [Ru.fn]; exact Int32.le_refl _) z)
    exact last _ u (p_ci_99 hg99 ha99 _) (Or.inl rfl) Ru Fu
  obtain ⟨Ru, Fu⟩ := hI
  have hp99 := p_ci_99 (E := E) (s := s) hg99 ha99 (w := w) b
  have hge : ∀ c, c ≤ s_c s → p_cc E s (p_v E s n true) w b (p_ci E s (p_v E s n true) w (p_v E s n true w) b) c ≤ p_ci E s (p_v E s n true) w (p_v E s n true w) (s_n s) := by
    intro c hc
    obtain ⟨d, hd1⟩ : ∃ d, s_c s = c + d := ⟨s_c s - c, by omega⟩
    obtain ⟨d2, hd2⟩ : ∃ d, s_n s = b + 1 + d := ⟨s_n s - (b + 1), by omega⟩
    have h1 := p_cc_mono (E := E) (s := s) (g := p_v E s n true) (w := w) (b := b) (a := p_ci E s (p_v E s n true) w (p_v E s n true w) b) (c := c) d
    have h2 := p_ci_mono (E := E) (s := s) (g := p_v E s n true) (w := w) (a := p_v E s n true w) (b := b + 1) d2
    rw [← hd1] at h1
    rw [← hd2, p_ci] at h2
    exact Nat.le_trans h1 h2
  have hlow : a_lh s w ≤ p_ci E s (p_v E s n true) w (p_v E s n true w) b ∨ n ≠ 0 := by
    by_cases e : n = 0
    · left
      subst e
      have := p_ci_mono (E := E) (s := s) (g := p_v E s 0 true) (w := w) (a := p_v E s 0 true w) (b := 0) b
      rw [Nat.zero_add] at this
      exact this
    · exact Or.inr e
  refine zb_Duel_afterCity_30 hr (fun z => ?_) (fun _ => ?_)
  · rw [Ru.fn] at z
    exact absurd z (nI_ge hb (by omega))
  refine zb_Duel_afterCity_39 hr (fun z => ?_) (fun _ => ?_)
  · rw [zn_le (by omega) (by omega)] at z
    exact last _ u hp99 (Or.inr ⟨z, by have := hge 0 (Nat.zero_le _); exact this⟩) Ru Fu
  have h3 := Ru.w3 b
  rw [p_ci] at kk
  refine zb_Duel_afterCity_46 hr (k1 := b) (z_ixn (by omega)) (fun z => ?_) (fun z => ?_)
  rotate_left
  · rw [show u.1 46 b = nI (v_w w b) from Ru.fW (by omega), show (0 : Int32) = nI 0 from rfl, zn_eq (by omega) (by omega)] at z
    refine zb_Duel_afterCity_56 hr (zb_Duel_afterCity_140 hr ?_)
    rw [nI_add]
    rw [p_cc_no z] at kk
    exact kk u ⟨Ru, Fu⟩
  rw [show u.1 46 b = nI (v_w w b) from Ru.fW (by omega), show (0 : Int32) = nI 0 from rfl, zn_eq (by omega) (by omega)] at z
  refine zb_Duel_afterCity_59 hr ?_
  generalize p_ci E s (p_v E s n true) w (p_v E s n true w) b = a at *
  refine zj_forS (b := s_c s) (fun c => [some (.inr 30), some (.inr 43), some (.inr r), some (.inl (nI (n + 1))), some (.inl (nI en)), some (.inl (nI (p_cc E s (p_v E s n true) w b a c))), some (.inl (nI (a_lh s w))), some (.inl (nI b)), some (.inl (nI c))])
    (fun _ u => cR s w u 43 ∧ cX c_tO (fun _ => False) τ u) (fun c u hc hI kk2 => ?_) (fun u hI => ?_) 0 (Nat.zero_le _) _ ⟨Ru, Fu⟩
  rotate_left
  · obtain ⟨Ru, Fu⟩ := hI
    refine zb_Duel_afterCity_62 hr (fun _ => ?_) (fun z => absurd (by rw [Ru.fc]; exact Int32.le_refl _) z)
    refine zb_Duel_afterCity_140 hr ?_
    rw [nI_add]
    exact kk u ⟨Ru, Fu⟩
  clear Ru Fu
  obtain ⟨Ru, Fu⟩ := hI
  have hc99 := p_cc_99 (E := E) (s := s) hg99 hp99 (w := w) (b := b) c
  have hgc := hge c (by omega)
  have hac := p_cc_mono (E := E) (s := s) (g := p_v E s n true) (w := w) (b := b) (a := a) (c := 0) c
  rw [Nat.zero_add] at hac
  have hac' : a ≤ p_cc E s (p_v E s n true) w b a c := hac
  rw [p_cc] at kk2
  generalize p_cc E s (p_v E s n true) w b a c = A at *
  refine zb_Duel_afterCity_62 hr (fun z2 => ?_) (fun _ => ?_)
  · rw [Ru.fc] at z2
    exact absurd z2 (nI_ge hc (by omega))
  refine zb_Duel_afterCity_71 hr (fun z2 => ?_) (fun z2 => ?_)
  · have z2' := z2
    rw [zn_le (by omega) (by omega)] at z2'
    refine zb_Duel_afterCity_140 hr ?_
    refine zb_Duel_afterCity_30 hr (fun _ => last A u hc99 (Or.inr ⟨z2', hgc⟩) Ru Fu) (fun _ => ?_)
    exact zb_Duel_afterCity_39 hr (fun _ => last A u hc99 (Or.inr ⟨z2', hgc⟩) Ru Fu) (fun z3 => absurd z2 z3)
  rw [zn_le (by omega) (by omega)] at z2
  -- the book may be laid
  have go : z_J Γ zm_Duel_afterCity 97 [some (.inr 30), some (.inr 43), some (.inr r), some (.inl (nI (n + 1))), some (.inl (nI en)), some (.inl (nI A)), some (.inl (nI (a_lh s w))), some (.inl (nI b)), some (.inl (nI c))] [] u := by
    refine zb_Duel_afterCity_97 hr (cc_layOn z_c43 hr Ru (d_keep hr hE Fu) (nI b) (nI c)) (by omega) (fun x u3 hx => ?_)
    rw [a_lay_nn hn h6 hb hc, if_neg (fun q => q z)] at hx
    obtain ⟨rfl, R3, F3⟩ := hx
    have Fu3 := Fu.tr (d_frL hr F3)
    by_cases hk : p_ok E s w b c = true
    rotate_left
    · rw [if_neg hk] at kk2
      have hk' : ¬ b_al E s (v_y w) (v_p w) b c = true := fun q => hk (by unfold p_ok; rw [decide_eq_true z, q]; rfl)
      unfold b_al at hk'
      by_cases q4 : (v_p w c).length = 4
      · rw [if_pos q4] at R3 ⊢
        refine zb_Duel_afterCity_106 hr (fun _ => zb_Duel_afterCity_134 hr ?_) (fun z4 => absurd (show (-3 : Int32) < 0 by decide) z4)
        rw [nI_add]
        exact kk2 u3 ⟨R3, Fu3⟩
      · have q5 : ¬ l_ho E s (v_y w) c (v_p w c ++ [b]) = true := fun q => hk' (by rw [decide_eq_true q4, q]; rfl)
        rw [if_neg q4, if_neg q5] at R3 ⊢
        refine zb_Duel_afterCity_106 hr (fun _ => zb_Duel_afterCity_134 hr ?_) (fun z4 => absurd (show (-4 : Int32) < 0 by decide) z4)
        rw [nI_add]
        exact kk2 u3 ⟨R3, Fu3⟩
    rw [if_pos hk] at kk2
    have hk' := hk
    unfold p_ok b_al at hk'
    rw [Bool.and_eq_true, Bool.and_eq_true, decide_eq_true_eq, decide_eq_true_eq] at hk'
    rw [if_neg hk'.2.1, if_pos hk'.2.2] at R3 ⊢
    have hlh : l_h (s_t s) (v_p w c ++ [b]) ≤ 45 := by
      rw [l_h_app]
      have h1 : l_h (s_t s) (v_p w c) ≤ 36 := hR.1.h36 hc
      have h2 := (hR.1.2.2.2.2.2.2.2.1 b hb).2.1
      omega
    refine zb_Duel_afterCity_106 hr (fun z4 => absurd (show nI _ < 0 from z4) (by rw [show (0 : Int32) = nI 0 from rfl, zn_lt (by omega) (by omega)]; omega)) (fun _ => ?_)
    refine zb_Duel_afterCity_109 hr (dc := 5 + n) (P := fun x u' => (∃ y, x = nI y ∧ y ≤ 100 ∧ pLo (some A) (p_v E s n true (a_put w b c)) y) ∧ cR s (a_put w b c) u' 43 ∧ cX c_tO (fun _ => False) u3 u') (by rw [zn_pred (by omega), Nat.add_sub_cancel]; exact hch (a_put w b c) u3 (some A) R3 (d_keep hr hE Fu3) (fun e h => by simp only [Option.some.injEq] at h; omega)) (by omega) (fun x u4 hx => ?_)
    obtain ⟨⟨y, rfl, y1, y2⟩, R4, F4⟩ := hx
    refine zb_Duel_afterCity_122 hr (cc_lift z_c43 R4 (t := 0) hb) (by omega) (fun u5 h5 => ?_)
    have R5 := h5.R R4 hb (Or.inl rfl)
    have hae := aE_lift_put hR.1 (c := c) hb (Or.inl z)
    rw [z] at hae
    refine zb_Duel_afterCity_134 hr ?_
    rw [zn_max (by omega) (by omega), nI_add]
    have em : (if A < y then y else A) = max A (p_v E s n true (a_put w b c)) := by
      by_cases q : p_v E s n true (a_put w b c) ≤ A
      · have := y2.1 A rfl q
        rw [if_neg (by omega)]
        omega
      · have := y2.2 (fun e h => by simp only [Option.some.injEq] at h; omega)
        rw [this, if_pos (by omega)]
        omega
    rw [em]
    exact kk2 u5 ⟨R5.eqv hae, Fu3.tr (F4.tr (d_fr37 h5.fr))⟩
  refine zb_Duel_afterCity_78 hr (fun _ => go) (fun z3 => ?_)
  rw [zn_eq (by omega) (by omega)] at z3
  have n0 : n = 0 := by omega
  have h36 : a_h s w c ≤ 36 := hR.1.h36 hc
  refine zb_Duel_afterCity_83 hr (cc_heightOf z_c43 Ru hc) (by omega) (fun x u3 hx => ?_)
  obtain ⟨rfl, rfl⟩ := hx
  refine zb_Duel_afterCity_89 hr (fun _ => go) (fun z4 => ?_)
  rw [zn_le (by omega) (by omega)] at z4
  refine zb_Duel_afterCity_94 hr (zb_Duel_afterCity_134 hr ?_)
  rw [nI_add]
  have hA : a_lh s w ≤ A := by
    rcases hlow with q | q
    · omega
    · exact absurd n0 q
  have hpv : p_v E s n true (a_put w b c) ≤ a_lh s w := by
    rw [n0]
    exact a_lh_hi (by omega)
  have e : (if p_ok E s w b c = true then max A (p_v E s n true (a_put w b c)) else A) = A := by
    split
    · omega
    · rfl
  rw [e] at kk2
  exact kk2 u3 ⟨Ru, Fu⟩
theorem d_all (hr : z_oR r) : ∀ n, n ≤ 4 → dE E s r n ∧ dC E s r n
  | 0, _ => ⟨fun w τ en hR _ _ => d_E0 hr en hR, fun w τ en hR _ _ => d_C0 hr en hR⟩
  | n + 1, h => by
    have ih : dE E s r n ∧ dC E s r n := d_all hr n (by omega)
    obtain ⟨h1, h2⟩ := ih
    exact ⟨d_E1 hr (by omega) h2, d_C1 hr (by omega) h1⟩
theorem cc_outcome (hr : z_oR r) {n : Nat} (hn4 : n < 4) {w : aV} {τ : zS} (hR : cR s w τ 43) (hE : rR E τ r) : z_Ci 9 zm_Duel_outcome [.inr 30, .inr 43, .inr r, .inl (nI (n + 1))] τ (fun x u => x = nI (p_v E s (n + 1) true w) ∧ u.1 30 0 = p_t (p_en (p_v E s n false) w (s_c s)) ∧ cX (fun q => c_tO q ∨ q = 30) (fun _ => False) τ u) := by
  have h6 := hR.c6
  have hn := hR.n
  have hch := (d_all (E := E) (s := s) hr n (by omega)).2
  have hg99 := p_v_99 (E := E) (s := s) n false
  refine z_Ci_of (by decide) (Nat.le_of_ble_eq_true rfl) (fun Γ hd he => ?_)
  show z_J Γ zm_Duel_outcome 0 [some (.inr 30), some (.inr 43), some (.inr r), some (.inl (nI (n + 1))), none, none, none, none] [] τ
  refine zb_Duel_outcome_0 hr ?_
  have F0 : cX (fun q => c_tO q ∨ q = 30) (fun _ => False) τ (z_pI τ 30 0 (-1)) := cX.pR cX.rf (Or.inr rfl) (by decide)
  have w0 : ∀ {σ u : zS}, cX c_tO (fun _ => False) σ u → cX (fun q => c_tO q ∨ q = 30) (fun _ => False) σ u := fun h => h.mono (fun _ q => Or.inl q) (fun _ q => q)
  refine zj_forS (b := s_c s) (fun c => [some (.inr 30), some (.inr 43), some (.inr r), some (.inl (nI (n + 1))), some (.inl (nI (p_b1 (p_en (p_v E s n false) w c)))), some (.inl (nI c)), none, none])
    (fun c u => cR s w u 43 ∧ u.1 30 0 = p_t (p_en (p_v E s n false) w c) ∧ cX (fun q => c_tO q ∨ q = 30) (fun _ => False) τ u) (fun c u hc hI kk => ?_) (fun u hI => ?_) 0 (Nat.zero_le _) _ ⟨hR.cX43 (R := fun q => q = 30) (K := fun _ => False) (cX.pR cX.rf rfl (by decide)) (by omega), z_pI_at _ _ _ _, F0⟩
  · obtain ⟨Ru, Tu, Fu⟩ := hI
    have hb100 := p_b1_100 hg99 w c
    refine zb_Duel_outcome_12 hr (fun z => ?_) (fun _ => ?_)
    · rw [Ru.fc] at z
      exact absurd z (nI_ge hc (by omega))
    refine zb_Duel_outcome_21 hr (lc_topOf z_c43 (Ru.cC hc)) (by omega) (fun x u2 hx => ?_)
    obtain ⟨rfl, rfl⟩ := hx
    by_cases q : (v_p w c).length = 0
    · rw [if_pos q]
      refine zb_Duel_outcome_27 hr (fun z => absurd rfl z) (fun _ => ?_)
      refine zb_Duel_outcome_35 hr (zb_Duel_outcome_83 hr ?_)
      rw [nI_add]
      rw [p_en, if_pos q] at kk
      exact kk u2 ⟨Ru, Tu, Fu⟩
    rw [if_neg q]
    have hmem : a_top w c ∈ v_p w c := l_getD_mem (by omega)
    have hm := (hR.1.mm hc _).mp hmem
    rw [show (v_p w c).getD ((v_p w c).length - 1) 0 = a_top w c from rfl]
    refine zb_Duel_outcome_27 hr (fun _ => ?_) (fun z => absurd z (zn_neg1 (by omega)))
    refine zb_Duel_outcome_38 hr (cc_lift z_c43 Ru (t := 3) hm.1) (by omega) (fun u3 hL => ?_)
    have R3 := hL.R Ru hm.1 (Or.inr rfl)
    have F3 := d_fr37 hL.fr
    have Fu3 := Fu.tr (w0 F3)
    refine zb_Duel_outcome_45 hr (dc := 5 + n) (P := fun x u' => (∃ y, x = nI y ∧ y ≤ 100 ∧ pHi (p_b1 (p_en (p_v E s n false) w c)) (p_v E s n false (a_lift w (a_top w c) 3)) y) ∧ cR s (a_lift w (a_top w c) 3) u' 43 ∧ cX c_tO (fun _ => False) u3 u') (by rw [zn_pred (by omega), Nat.add_sub_cancel]; exact hch _ u3 _ R3 (hE.keepX hr Fu3 (by unfold c_tO; omega)) hb100) (by omega) (fun x u4 hx => ?_)
    obtain ⟨⟨y, rfl, y1, y2⟩, R4, F4⟩ := hx
    have hw3 : v_w (a_lift w (a_top w c) 3) (a_top w c) = 3 := a_up_s _ _ _
    have hl4 := hR.1.l4 hc
    have hlt : (v_p (a_lift w (a_top w c) 3) c).length < 4 := by
      show ((v_p w c).erase (a_top w c)).length < 4
      rw [List.length_erase_of_mem hmem]
      omega
    refine zb_Duel_outcome_56 hr (cc_put z_c43 R4 hm.1 (Or.inr hw3) hc hlt) (by omega) (fun u5 h5 => ?_)
    obtain ⟨R5, F5⟩ := h5
    have F35 : cX c_tO (fun _ => False) u2 u5 := F3.tr (F4.tr (d_fr37 F5))
    have R5' := R5.eqv (aE_put_lift hR.1 hc q)
    have T5 : u5.1 30 0 = p_t (p_en (p_v E s n false) w c) := by rw [(F35.1 30 (by decide) (by unfold c_tO; omega)).1]; exact Tu
    obtain ⟨s1, s2, -⟩ := p_en_s (p_v E s n false) w q
    rw [s1, s2] at kk
    have hgv := hg99 (a_lift w (a_top w c) 3)
    refine zb_Duel_outcome_66 hr (fun z => ?_) (fun z => ?_)
    · rw [zn_le (by omega) (by omega)] at z
      have nl : ¬ p_v E s n false (a_lift w (a_top w c) 3) < p_b1 (p_en (p_v E s n false) w c) := fun q => by have := y2.1 q; omega
      have hno : ¬ p_en (p_v E s n false) w c = none := fun q => by
        rw [q] at nl
        have z' : ¬ p_v E s n false (a_lift w (a_top w c) 3) < 100 := nl
        omega
      refine zb_Duel_outcome_83 hr ?_
      rw [nI_add]
      rw [if_neg (fun q => q.elim nl hno), if_neg (fun q => q.elim nl hno)] at kk
      exact kk u5 ⟨R5', T5, Fu.tr (w0 F35)⟩
    · rw [zn_le (by omega) (by omega)] at z
      have lt : p_v E s n false (a_lift w (a_top w c) 3) < p_b1 (p_en (p_v E s n false) w c) := by
        rcases Nat.lt_or_ge (p_v E s n false (a_lift w (a_top w c) 3)) (p_b1 (p_en (p_v E s n false) w c)) with q | q
        · exact q
        · have := y2.2 q; omega
      have ey := y2.1 lt
      refine zb_Duel_outcome_73 hr (zb_Duel_outcome_83 hr ?_)
      rw [nI_add, ey]
      rw [if_pos (Or.inl lt), if_pos (Or.inl lt)] at kk
      exact kk _ ⟨R5'.cX43 (R := fun q => q = 30) (K := fun _ => False) (cX.pR cX.rf rfl (by decide)) (by omega), z_pI_at _ _ _ _, cX.pR (Fu.tr (w0 F35)) (Or.inr rfl) (by decide)⟩
  · obtain ⟨Ru, Tu, Fu⟩ := hI
    refine zb_Duel_outcome_12 hr (fun _ => ?_) (fun z => absurd (by rw [Ru.fc]; exact Int32.le_refl _) z)
    cases ho : p_en (p_v E s n false) w (s_c s) with
    | none =>
      have ev : p_v E s (n + 1) true w = p_v E s n false w := by rw [p_v, ho]
      rw [ho] at Tu
      refine zb_Duel_outcome_89 hr (fun z => absurd Tu z) (fun _ => ?_)
      refine zb_Duel_outcome_97 hr (dc := 5 + n) (P := fun x u' => (∃ y, x = nI y ∧ y ≤ 100 ∧ pHi 100 (p_v E s n false w) y) ∧ cR s w u' 43 ∧ cX c_tO (fun _ => False) u u') (by rw [zn_pred (by omega), Nat.add_sub_cancel]; exact hch w u 100 Ru (hE.keepX hr Fu (by unfold c_tO; omega)) (by omega)) (by omega) (fun x u2 hx => ?_)
      obtain ⟨⟨y, rfl, y1, y2⟩, R2, F2⟩ := hx
      refine zb_Duel_outcome_108 (zb_Duel_outcome_113 ?_)
      have := hg99 w
      have ey := y2.1 (by omega)
      rw [he, ev, ho, ey]
      exact ⟨_, rfl, rfl, by rw [(F2.1 30 (by decide) (by unfold c_tO; omega)).1]; exact Tu, Fu.tr (w0 F2)⟩
    | some q =>
      have hq := (p_en_99 hg99 _ q ho).2
      have ev : p_v E s (n + 1) true w = q.1 := by rw [p_v, ho]
      rw [ho] at Tu
      refine zb_Duel_outcome_89 hr (fun _ => ?_) (fun z => absurd (Tu.symm.trans z) (zn_neg1 (show q.2 < 2147483648 by omega)))
      refine zb_Duel_outcome_111 (zb_Duel_outcome_113 ?_)
      rw [he, ev, ho]
      exact ⟨_, rfl, rfl, Tu, Fu⟩
end
theorem cp_play {x : tX} {σ : zS} (h : cA x σ) (a : Int32) : z_Ci 10 zm_Walls_play [.inr 0, .inl a] σ (fun r u => r = (to_play x a).1 ∧ cA (to_play x a).2 u ∧ zW σ u) := by
  have hn := h.1.n
  have hS := b_S_bc (s := x_s x) (v := x_v x) (w := 0) hn
  have hle := n_bc_le (a_bw (x_v x) 0 (s_n (x_s x)))
  refine z_Ci_of (by decide) (Nat.le_of_ble_eq_true rfl) (fun Γ hd he => ?_)
  show z_J Γ zm_Walls_play 0 [some (.inr 0), some (.inl a), none] [] σ
  have no : ¬ (nI 1 ≤ a ∧ a ≤ nI 4) → z_J Γ zm_Walls_play 10 [none, none, none] [] σ := fun q => by
    refine zb_Walls_play_10 ?_
    rw [he, to_play, if_neg q]
    exact ⟨_, rfl, rfl, h, zW.rf⟩
  refine zb_Walls_play_0 (fun z => no (fun q => absurd z (Int32.not_lt.mpr q.1))) (fun z => ?_)
  refine zb_Walls_play_5 (fun z2 => ?_) (fun z2 => no (fun q => z2 q.2))
  have k : nI 1 ≤ a ∧ a ≤ nI 4 := ⟨Int32.not_lt.mp z, z2⟩
  obtain ⟨m, hn1, hn4, rfl⟩ := zn_btw z z2 (by decide)
  obtain ⟨n, rfl⟩ : ∃ n, m = n + 1 := ⟨m - 1, by omega⟩
  clear no
  rw [to_play, if_pos k, nI_clamp (by omega), Nat.add_sub_cancel] at he
  refine zb_Walls_play_12 (cc_bitsWhere (w := 0) z_c33 h.1 (by decide)) (by omega) (fun r u hr => ?_)
  obtain ⟨rfl, rfl⟩ := hr
  refine zb_Walls_play_20 (by omega) (fun z => ?_) (fun z => ?_)
  rotate_left
  · rw [zn_bc _ (a_bw_12 hn), zn_le (by unfold n_bc at hle; omega) (by omega)] at z
    have z' : ¬ (b_S (x_s x) (x_v x) 0).length ≤ 4 := by rw [← hS]; exact z
    refine zb_Walls_play_27 ?_
    rw [he, if_neg z']
    exact ⟨_, rfl, rfl, h, zW.rf⟩
  rw [zn_bc _ (a_bw_12 hn), zn_le (by unfold n_bc at hle; omega) (by omega)] at z
  have z' : (b_S (x_s x) (x_v x) 0).length ≤ 4 := by rw [← hS]; exact z
  rw [if_pos z'] at he
  refine zb_Walls_play_30 (cc_copyFrom z_c43 z_c33 (by decide) h.1) (by omega) (fun u2 h2 => ?_)
  obtain ⟨R2, p3⟩ := h2
  obtain ⟨f1, A2⟩ := c_cp43 h p3
  refine zb_Walls_play_41 A2.2.2.1.oR (cc_outcome A2.2.2.1.oR (n := n) (by omega) R2 A2.2.2.1.2) (by omega) (fun y u3 h3 => ?_)
  obtain ⟨rfl, T3, F3⟩ := h3
  refine zb_Walls_play_57 (cc_tell _ _) (by omega) (fun u4 h4 => ?_)
  obtain ⟨r1, r2⟩ := h4
  rw [T3] at r1
  refine zb_Walls_play_69 ?_
  rw [he]
  exact ⟨_, rfl, rfl, h.row (((f1.tr (F3.mono (by unfold c_tO c_sO; omega) (fun _ q => q))).mono (fun _ q => Or.inl q) (fun _ q => q.elim)).tr (r2.mono (fun _ q => Or.inr q) (fun _ q => q))) r1⟩
