section
variable {s : aS} {v : aV} {σ u : zS} {o r : Nat}
abbrev z_F09 (o : Nat) : Nat → Prop := fun q => o ≤ q ∧ q ≤ o + 9
theorem z_F37.to {q : Nat} (h : z_F37 o q) : z_F09 o q := by
  have h : o + 3 ≤ q ∧ q ≤ o + 7 := h
  show o ≤ q ∧ q ≤ o + 9
  omega
/-- a field that the picture doesn't see -/
theorem cR.fld (h : cR s v σ o) {k : Nat} {x : Int32} (hk : 13 ≤ k) : cR s v (z_pI σ o k x) o := by
  have e : ∀ j, 1 ≤ j → (z_pI σ o k x).1 (o + j) = σ.1 (o + j) := fun j hj => z_pI_ne (by omega)
  have e0 : ∀ j, j < 13 → (z_pI σ o k x).1 o j = σ.1 o j := fun j hj => z_pI_ne2 (by omega)
  refine ⟨h.1, ?_, ?_⟩
  · unfold cS
    rw [e0 0 (by omega), e0 6 (by omega), e0 9 (by omega), e 1 (by omega), e 2 (by omega), e 8 (by omega)]
    exact h.2.1
  · rw [e0 12 (by omega), e 3 (by omega), e 4 (by omega), e 5 (by omega), e 6 (by omega), e 7 (by omega), e 9 (by omega)]
    exact h.2.2
/-- the book on top of a column -/
abbrev a_top (v : aV) (c : Nat) : Nat := (v_p v c).getD ((v_p v c).length - 1) 0
def a_shi (v : aV) (c : Nat) : Nat → aV × Nat
  | 0 => (v, 0)
  | i + 1 => if (v_p (a_shi v c i).1 c).length = 0 then a_shi v c i else (a_lift (a_shi v c i).1 (a_top (a_shi v c i).1 c) 3, (a_shi v c i).2 ||| 2 ^ (a_top (a_shi v c i).1 c))
theorem a_shi_stop {c i : Nat} (h : (v_p (a_shi v c i).1 c).length = 0) : ∀ j, a_shi v c (i + j) = a_shi v c i
  | 0 => rfl
  | j + 1 => by
    have ih := a_shi_stop h j
    show a_shi v c (i + j + 1) = _
    rw [a_shi, ih, if_pos h]
def a_sh (s : aS) (v : aV) (x y : Int32) : Int32 × aV × Nat :=
  if z_isn x (s_c s) = true ∧ nI 1 ≤ y ∧ y ≤ nI 4 then
    (if (v_p v x.toNatClampNeg).length = 0 then (-2, v, 0) else (nI (a_h s (a_shi v x.toNatClampNeg y.toNatClampNeg).1 x.toNatClampNeg), a_shi v x.toNatClampNeg y.toNatClampNeg))
  else (-1, v, 0)
theorem cc_shoot (ho : z_oC o) (hR : cR s v σ o) (x y : Int32) : z_Ci 3 zm_City_shoot [.inr o, .inl x, .inl y] σ (fun a u => a = (a_sh s v x y).1 ∧ cR s (a_sh s v x y).2.1 u o ∧ ((a_sh s v x y).1 = -1 ∨ (a_sh s v x y).1 = -2 ∨ u.1 o 13 = nI (a_sh s v x y).2.2) ∧ z_fr (z_F09 o) σ u) := by
  have hn := hR.n
  have h6 := hR.c6
  refine z_Ci_of (by decide) (Nat.le_of_ble_eq_true rfl) (fun Γ hd he => ?_)
  show z_J Γ zm_City_shoot 0 [some (.inr o), some (.inl x), some (.inl y), none, none] [] σ
  have no : (¬ (z_isn x (s_c s) = true ∧ nI 1 ≤ y ∧ y ≤ nI 4)) → z_J Γ zm_City_shoot 18 [none, none, none, none, none] [] σ := fun h => by
    refine zb_City_shoot_18 ?_
    rw [he, show a_sh s v x y = (-1, v, 0) from if_neg h]
    exact ⟨_, rfl, rfl, hR, Or.inl rfl, z_fr.rf⟩
  refine zb_City_shoot_0 ho (cc_isColumn ho hR.fc x) (by omega) (fun w σ1 h => ?_)
  obtain ⟨rfl, rfl⟩ := h
  refine zb_City_shoot_5 ho (fun h => no (fun q => ?_)) (fun h => ?_)
  · rw [z_tf_eq0] at h
    rw [h] at q
    exact absurd q.1 (by decide)
  rw [z_tf_eq0, Bool.not_eq_false] at h
  refine zb_City_shoot_8 ho (fun h3 => no (fun q => absurd q.2.1 (Int32.not_le.mpr h3))) (fun h3 => ?_)
  refine zb_City_shoot_13 ho (fun h5 => ?_) (fun h5 => no (fun q => h5 q.2.2))
  obtain ⟨c, hc, rfl⟩ := z_isn_t (by omega) h
  obtain ⟨n, h1, h4, rfl⟩ := zn_btw h3 h5 (by omega)
  have ea : a_sh s v (nI c) (nI n) = if (v_p v c).length = 0 then (-2, v, 0) else (nI (a_h s (a_shi v c n).1 c), a_shi v c n) := by
    unfold a_sh
    rw [if_pos ⟨h, Int32.not_lt.mp h3, h5⟩, nI_clamp (by omega), nI_clamp (by omega)]
  rw [ea] at he
  clear no h h3 h5 ea
  have hl4 := (hR.col hc).2.1
  have e0 : (0 : Int32) = nI 0 := rfl
  refine zb_City_shoot_20 ho (z_ixn (by omega)) (fun hl => ?_) (fun hl => ?_)
  · rw [hR.fM hc, e0, zn_eq (by omega) (by omega)] at hl
    rw [if_neg hl] at he
    refine zb_City_shoot_32 ho ?_
    have fin : ∀ u, cR s (a_shi v c n).1 u o → u.1 o 13 = nI (a_shi v c n).2 → z_fr (z_F09 o) σ1 u → z_J Γ zm_City_shoot 86 [some (.inr o), some (.inl (nI c)), none, none, none] [] u := by
      intro u h1 h2 h3
      refine zb_City_shoot_86 ho (cc_heightOf ho h1 hc) (by omega) (fun w u2 hw => ?_)
      obtain ⟨rfl, rfl⟩ := hw
      refine zb_City_shoot_91 ?_
      rw [he]
      exact ⟨_, rfl, rfl, h1, Or.inr (Or.inr h2), h3⟩
    refine zj_forS (b := n) (fun i => [some (.inr o), some (.inl (nI c)), some (.inl (nI n)), some (.inl (nI i)), none])
      (fun i u => cR s (a_shi v c i).1 u o ∧ u.1 o 13 = nI (a_shi v c i).2 ∧ z_fr (z_F09 o) σ1 u) (fun i u hi hI kk => ?_) (fun u hI => ?_) 0 (Nat.zero_le _) _ ⟨hR.fld (by omega), z_pI_at _ _ _ _, z_fr.rf.pI (by show o ≤ o ∧ _; omega)⟩
    · obtain ⟨q1, q2, q3⟩ := hI
      have ql4 := (q1.col hc).2.1
      refine zb_City_shoot_39 ho (fun h => absurd h (nI_ge hi (by omega))) (fun _ => ?_)
      refine zb_City_shoot_44 ho (z_ixn (by omega)) (fun h => ?_) (fun h => ?_)
      · rw [q1.fM hc, e0, zn_le (by omega) (by omega)] at h
        have hst := a_shi_stop (v := v) (c := c) (i := i) (by omega) (n - i)
        have ei : i + (n - i) = n := by omega
        rw [ei] at hst
        rw [← hst] at q1 q2
        exact fin u q1 q2 q3
      · rw [q1.fM hc, e0, zn_le (by omega) (by omega)] at h
        have hne : ¬ (v_p (a_shi v c i).1 c).length = 0 := by omega
        have htop := lc_topOf ho (q1.cC hc)
        rw [if_neg hne] at htop
        refine zb_City_shoot_53 ho htop (by omega) (fun w u2 hw => ?_)
        obtain ⟨rfl, rfl⟩ := hw
        have hb : a_top (a_shi v c i).1 c < s_n s := q1.mem hc (by omega)
        have q1' := q1.fld (k := 13) (x := nI ((a_shi v c i).2 ||| 2 ^ (a_top (a_shi v c i).1 c))) (by omega)
        have hlift := cc_lift ho q1' (t := 3) hb
        refine zb_City_shoot_58 ho (P := cL s (a_shi v c i).1 o (a_top (a_shi v c i).1 c) 3 (z_pI u2 o 13 (nI ((a_shi v c i).2 ||| 2 ^ (a_top (a_shi v c i).1 c))))) (dc := 2) ?_ (by omega) (fun u3 h3 => ?_)
        · rw [q2, zn_shl (show (v_p (a_shi v c i).1 c).getD ((v_p (a_shi v c i).1 c).length - 1) 0 < 31 from Nat.lt_trans hb (by omega)), zn_or]
          exact hlift
        · refine zb_City_shoot_80 ho ?_
          rw [nI_add]
          refine kk u3 ?_
          have e3 : a_shi v c (i + 1) = (a_lift (a_shi v c i).1 (a_top (a_shi v c i).1 c) 3, (a_shi v c i).2 ||| 2 ^ (a_top (a_shi v c i).1 c)) := by rw [a_shi, if_neg hne]
          rw [e3]
          refine ⟨h3.R q1' hb (Or.inr rfl), ?_, (q3.pI (by show o ≤ o ∧ _; omega)).tr (h3.fr.mono (fun q hq => hq.to))⟩
          rw [(z_fr37 h3.fr).1, z_pI_at]
    · obtain ⟨q1, q2, q3⟩ := hI
      refine zb_City_shoot_39 ho (fun _ => fin u q1 q2 q3) (fun h => absurd (Int32.le_refl _) h)
  · rw [hR.fM hc, e0, zn_eq (by omega) (by omega)] at hl
    rw [if_pos hl] at he
    refine zb_City_shoot_29 ?_
    rw [he]
    exact ⟨_, rfl, rfl, hR, Or.inr (Or.inl rfl), z_fr.rf⟩
/-! a day passes -/
def a_fine (s : aS) (v : aV) (b : Nat) : aV := (v_w v, v_h v, v_d v, a_up (v_f v) (v_h v b) (v_f v (v_h v b) + s_l s (v_h v b)), v_p v, v_y v)
def a_due (s : aS) (v : aV) (b : Nat) : Bool := decide (v_w v b = 2) && decide (nI (v_d v b + s_l s (v_h v b)) = nI (v_y v))
def a_pdi (s : aS) (q : aV × Nat × Nat) : Nat → aV × Nat × Nat
  | 0 => ((v_w q.1, v_h q.1, v_d q.1, v_f q.1, v_p q.1, v_y q.1 + 1), q.2)
  | b + 1 => if a_due s (a_pdi s q b).1 b = true then (a_lift (a_fine s (a_pdi s q b).1 b) b 0, (a_pdi s q b).2.1 ||| 2 ^ b, (a_pdi s q b).2.2 + s_l s (v_h (a_pdi s q b).1 b)) else a_pdi s q b
abbrev a_pd (s : aS) (q : aV × Nat × Nat) : aV × Nat × Nat := a_pdi s q (s_n s)
def a_days (s : aS) (v : aV) : Nat → aV × Nat × Nat
  | 0 => (v, 0, 0)
  | i + 1 => a_pd s (a_days s v i)
theorem a_pdi_y (s : aS) (q : aV × Nat × Nat) : ∀ b, v_y (a_pdi s q b).1 = v_y q.1 + 1
  | 0 => rfl
  | b + 1 => by
    have ih := a_pdi_y s q b
    rw [a_pdi]
    split
    · exact ih
    · exact ih
theorem a_days_y (s : aS) (v : aV) : ∀ i, v_y (a_days s v i).1 = v_y v + i
  | 0 => rfl
  | i + 1 => by
    have ih := a_days_y s v i
    rw [a_days, a_pdi_y, ih]
    omega
theorem cR.fine (h : cR s v σ o) {b : Nat} (hb : b < s_n s) (hw : v_w v b = 2) : cR s (a_fine s v b) (z_pI σ (o + 9) (v_h v b) (nI (v_f v (v_h v b) + s_l s (v_h v b)))) o := by
  have hh := h.1.2.2.2.2.2.1 b hb hw
  have h4 := h.r4
  obtain ⟨h1, h2, h3, h5, h6, h7, h8, h10, h11⟩ := h.1
  refine ⟨⟨h1, h2, h3, h5, h6, h7, fun r hr => ?_, h10, h11⟩, ?_, ?_⟩
  · show a_up (v_f v) (v_h v b) _ r = 0
    rw [a_up_n (by omega)]
    exact h8 r hr
  · unfold cS
    rw [z_pI_ne (show o ≠ o + 9 by omega), z_pI_ne (show o + 1 ≠ o + 9 by omega), z_pI_ne (show o + 2 ≠ o + 9 by omega), z_pI_ne (show o + 8 ≠ o + 9 by omega)]
    exact h.2.1
  · rw [z_pI_ne (show o ≠ o + 9 by omega), z_pI_ne (show o + 3 ≠ o + 9 by omega), z_pI_ne (show o + 4 ≠ o + 9 by omega), z_pI_ne (show o + 5 ≠ o + 9 by omega), z_pI_ne (show o + 6 ≠ o + 9 by omega), z_pI_ne (show o + 7 ≠ o + 9 by omega)]
    obtain ⟨g1, g2, g3, g4, g5, g6, g7⟩ := h.2.2
    refine ⟨g1, g2, g3, g4, g5, fun r hr => ?_, g7⟩
    show _ = nI (a_up (v_f v) (v_h v b) _ r)
    by_cases e : r = v_h v b
    · rw [e, z_pI_at, a_up_s]
    · rw [z_pI_ne2 e, a_up_n e]
      exact g6 r hr
theorem cc_passDay (ho : z_oC o) (hR : cR s v σ o) {cb pd : Nat} (hcb : σ.1 o 14 = nI cb) (hpd : σ.1 o 15 = nI pd) : z_Cv 3 zm_City_passDay [.inr o] σ (fun u => cR s (a_pd s (v, cb, pd)).1 u o ∧ u.1 o 14 = nI (a_pd s (v, cb, pd)).2.1 ∧ u.1 o 15 = nI (a_pd s (v, cb, pd)).2.2 ∧ z_fr (z_F09 o) σ u) := by
  have hn := hR.n
  have h4 := hR.r4
  refine z_Cv_of (by decide) (Nat.le_of_ble_eq_true rfl) (fun Γ hd he => ?_)
  show z_J Γ zm_City_passDay 0 [some (.inr o), none, none] [] σ
  refine zb_City_passDay_0 ho ?_
  rw [hR.fy, nI_add]
  refine zj_forS (b := s_n s) (fun i => [some (.inr o), some (.inl (nI i)), none])
    (fun i u => cR s (a_pdi s (v, cb, pd) i).1 u o ∧ u.1 o 14 = nI (a_pdi s (v, cb, pd) i).2.1 ∧ u.1 o 15 = nI (a_pdi s (v, cb, pd) i).2.2 ∧ z_fr (z_F09 o) σ u) (fun i u hi hI kk => ?_) (fun u hI => ?_) 0 (Nat.zero_le _) _ ⟨?_, ?_, ?_, z_fr.rf.pI (by show o ≤ o ∧ _; omega)⟩
  · obtain ⟨q1, q2, q3, q4⟩ := hI
    have hw3 := q1.w3 i
    refine zb_City_passDay_12 ho (fun h => ?_) (fun _ => ?_)
    · rw [q1.fn] at h
      exact absurd h (nI_ge hi (by omega))
    have skip : a_due s (a_pdi s (v, cb, pd) i).1 i = false → z_J Γ zm_City_passDay 97 [some (.inr o), some (.inl (nI i)), none] [] u := by
      intro hf
      refine zb_City_passDay_97 ho ?_
      rw [nI_add]
      refine kk u ?_
      have e : a_pdi s (v, cb, pd) (i + 1) = a_pdi s (v, cb, pd) i := by rw [a_pdi, if_neg (by rw [hf]; decide)]
      rw [e]
      exact ⟨q1, q2, q3, q4⟩
    refine zb_City_passDay_20 ho (z_ixn (by omega)) (fun hw => ?_) (fun hw => ?_)
    · rw [q1.fW (by omega), zn_eq (by omega) (by omega)] at hw
      exact skip (by unfold a_due; simp [hw])
    rw [q1.fW (by omega), zn_eq (by omega) (by omega)] at hw
    refine zb_City_passDay_30 ho (cc_backOn ho q1 hi hw) (by omega) (fun w u2 h => ?_)
    obtain ⟨rfl, rfl⟩ := h
    refine zb_City_passDay_35 ho (fun h => ?_) (fun h => ?_)
    · rw [q1.fy] at h
      exact skip (by unfold a_due; simp [h])
    rw [q1.fy] at h
    have hdue : a_due s (a_pdi s (v, cb, pd) i).1 i = true := by unfold a_due; simp [hw, h]
    have hh := q1.1.2.2.2.2.2.1 i hi hw
    have eH : u2.1 (o + 4) i = nI (v_h (a_pdi s (v, cb, pd) i).1 i) := by rw [q1.fH hi, if_pos (Or.inr hw)]
    have e1 : a_pdi s (v, cb, pd) (i + 1) = (a_lift (a_fine s (a_pdi s (v, cb, pd) i).1 i) i 0, (a_pdi s (v, cb, pd) i).2.1 ||| 2 ^ i, (a_pdi s (v, cb, pd) i).2.2 + s_l s (v_h (a_pdi s (v, cb, pd) i).1 i)) := by rw [a_pdi, if_pos hdue]
    rw [e1] at kk
    generalize a_pdi s (v, cb, pd) i = q at *
    have c1 := q1.fine hi hw
    have c2 := (c1.fld (k := 15) (x := nI (q.2.2 + s_l s (v_h q.1 i))) (by omega)).fld (k := 14) (x := nI (q.2.1 ||| 2 ^ i)) (by omega)
    have hl := cc_lift ho c2 (t := 0) hi
    refine zb_City_passDay_42 ho (k1 := i) (k2 := v_h q.1 i) (k3 := v_h q.1 i) (k4 := v_h q.1 i) (k5 := v_h q.1 i) (P := cL s (a_fine s q.1 i) o i 0 (z_pI (z_pI (z_pI u2 (o + 9) (v_h q.1 i) (nI (v_f q.1 (v_h q.1 i) + s_l s (v_h q.1 i)))) o 15 (nI (q.2.2 + s_l s (v_h q.1 i)))) o 14 (nI (q.2.1 ||| 2 ^ i)))) (dc := 2) (z_ixn (by omega)) ⟨eH, by omega⟩ ⟨eH, by omega⟩ ⟨eH, by omega⟩ ⟨eH, by omega⟩ ?_ (by omega) (fun u3 h3 => ?_)
    · rw [q1.fF (by omega), q1.fl hh, nI_add, z_pI_ne (show o ≠ o + 9 by omega), z_pI_ne (show o + 8 ≠ o + 9 by omega), q3, q1.fl hh, nI_add, z_pI_ne2 (show 14 ≠ 15 by decide), z_pI_ne (show o ≠ o + 9 by omega), q2, zn_shl (by omega), zn_or]
      exact hl
    · refine zb_City_passDay_97 ho ?_
      rw [nI_add]
      refine kk u3 ⟨h3.R c2 hi (Or.inl rfl), ?_, ?_, (((q4.pI (by show o ≤ _ ∧ _ ≤ o + 9; omega)).pI (by show o ≤ _ ∧ _ ≤ o + 9; omega)).pI (by show o ≤ _ ∧ _ ≤ o + 9; omega)).tr (h3.fr.mono (fun q hq => hq.to))⟩
      · rw [(z_fr37 h3.fr).1, z_pI_at]
      · rw [(z_fr37 h3.fr).1, z_pI_ne2 (by decide), z_pI_at]
  · obtain ⟨q1, q2, q3, q4⟩ := hI
    refine zb_City_passDay_12 ho (fun _ => ?_) (fun h => ?_)
    · refine zb_City_passDay_103 ?_
      rw [he]
      exact ⟨rfl, q1, q2, q3, q4⟩
    · rw [q1.fn] at h
      exact absurd (Int32.le_refl _) h
  · have e : ∀ j, 1 ≤ j → (z_pI σ o 12 (nI (v_y v + 1))).1 (o + j) = σ.1 (o + j) := fun j hj => z_pI_ne (by omega)
    have e0 : ∀ j, j ≠ 12 → (z_pI σ o 12 (nI (v_y v + 1))).1 o j = σ.1 o j := fun j hj => z_pI_ne2 hj
    refine ⟨hR.1, ?_, ?_⟩
    · unfold cS
      rw [e0 0 (by omega), e0 6 (by omega), e0 9 (by omega), e 1 (by omega), e 2 (by omega), e 8 (by omega)]
      exact hR.2.1
    · rw [z_pI_at, e 3 (by omega), e 4 (by omega), e 5 (by omega), e 6 (by omega), e 7 (by omega), e 9 (by omega)]
      obtain ⟨g1, g2, g3, g4, g5, g6, g7⟩ := hR.2.2
      exact ⟨g1, g2, g3, g4, g5, g6, rfl⟩
  · rw [z_pI_ne2 (by decide)]
    exact hcb
  · rw [z_pI_ne2 (by decide)]
    exact hpd
theorem cc_passDays (ho : z_oC o) (hR : cR s v σ o) {n : Nat} (hn99 : n ≤ 99) : z_Ci 4 zm_City_passDays [.inr o, .inl (nI n)] σ (fun a u => a = nI (v_y v + n) ∧ cR s (a_days s v n).1 u o ∧ u.1 o 14 = nI (a_days s v n).2.1 ∧ u.1 o 15 = nI (a_days s v n).2.2 ∧ z_fr (z_F09 o) σ u) := by
  refine z_Ci_of (by decide) (Nat.le_of_ble_eq_true rfl) (fun Γ hd he => ?_)
  show z_J Γ zm_City_passDays 0 [some (.inr o), some (.inl (nI n)), none] [] σ
  refine zb_City_passDays_0 ho (fun h => absurd h (nI_pos (by omega))) (fun _ => ?_)
  refine zb_City_passDays_4 ho (fun _ => ?_) (fun h => absurd (nI_le hn99 (by omega)) h)
  refine zb_City_passDays_12 ho ?_
  refine zj_forS (b := n) (fun i => [some (.inr o), some (.inl (nI n)), some (.inl (nI i))])
    (fun i u => cR s (a_days s v i).1 u o ∧ u.1 o 14 = nI (a_days s v i).2.1 ∧ u.1 o 15 = nI (a_days s v i).2.2 ∧ z_fr (z_F09 o) σ u) (fun i u hi hI kk => ?_) (fun u hI => ?_) 0 (Nat.zero_le _) _ ⟨(hR.fld (by omega)).fld (by omega), ?_, z_pI_at _ _ _ _, (z_fr.rf.pI (by show o ≤ o ∧ _; omega)).pI (by show o ≤ o ∧ _; omega)⟩
  · obtain ⟨q1, q2, q3, q4⟩ := hI
    refine zb_City_passDays_24 ho (fun h => absurd h (nI_ge hi (by omega))) (fun _ => ?_)
    refine zb_City_passDays_29 ho (cc_passDay ho q1 q2 q3) (by omega) (fun u2 h2 => ?_)
    refine zb_City_passDays_33 ho ?_
    rw [nI_add]
    exact kk u2 ⟨h2.1, h2.2.1, h2.2.2.1, q4.tr h2.2.2.2⟩
  · obtain ⟨q1, q2, q3, q4⟩ := hI
    refine zb_City_passDays_24 ho (fun _ => ?_) (fun h => absurd (Int32.le_refl _) h)
    refine zb_City_passDays_39 ho ?_
    rw [he, q1.fy, a_days_y]
    exact ⟨_, rfl, rfl, q1, q2, q3, q4⟩
  · rw [z_pI_ne2 (by decide), z_pI_at]
    rfl
theorem cc_passDaysNo (ho : z_oC o) {x : Int32} (h : x < 0 ∨ nI 99 < x) : z_Ci 4 zm_City_passDays [.inr o, .inl x] σ (z_is (-1) σ) := by
  refine z_Ci_of (by decide) (Nat.le_of_ble_eq_true rfl) (fun Γ hd he => ?_)
  show z_J Γ zm_City_passDays 0 [some (.inr o), some (.inl x), none] [] σ
  have no : z_J Γ zm_City_passDays 10 [none, none, none] [] σ := by
    refine zb_City_passDays_10 ?_
    rw [he]
    exact ⟨_, rfl, rfl, rfl⟩
  refine zb_City_passDays_0 ho (fun _ => no) (fun h0 => ?_)
  refine zb_City_passDays_4 ho (fun h1 => ?_) (fun _ => no)
  rcases h with q | q
  · exact absurd q h0
  · exact absurd h1 (Int32.not_le.mpr q)
end
