section
variable {s : aS} {v w : aV} {σ u : zS} {a : Nat} {f g : Nat → Int32} {R K : Nat → Prop}
theorem mR.k63 (h : mR s v σ a) {k : Nat} {x : Int32} (hk : k ≠ 1 ∧ k ≠ 4 ∧ k ≠ 5) (ha : a ≠ 63) : mR s v (z_pI σ 63 k x) a :=
  h.keepX (R := fun _ => False) (K := fun q => q = k) (mX.rf.pK rfl) ⟨by omega, by omega, by omega⟩ ⟨id, id, id⟩ id ha
theorem mR.fine (h : mR s v σ a) (ha : z_kd a = (11, 53)) {b : Nat} (hr : v_h v b < s_r s) : mR s (a_fine s v b) (z_pI σ a (49 + v_h v b) (nI (v_f v (v_h v b) + s_l s (v_h v b)))) a := by
  have hn := h.n
  refine h.upd (z_fr.pI (F := fun q => q = a) z_fr.rf rfl) ha ?_ ?_
  · obtain ⟨h1, h2, h3, h5, h6, h7, h8, h10, h11⟩ := h.1
    refine ⟨h1, h2, h3, h5, h6, h7, fun r hr2 => ?_, h10, h11⟩
    show a_up (v_f v) (v_h v b) _ r = 0
    rw [a_up_n (by omega)]
    exact h8 r hr2
  · obtain ⟨g1, g2, g3, g4, g5, g6⟩ := h.2.2
    refine ⟨fun b hb => ?_, fun b hb hq => ?_, fun b hb hq => ?_, fun b hb hq => ?_, fun r hr => ?_, ?_⟩
    · rw [z_pI_ne2 (by omega)]; exact g1 b hb
    · rw [z_pI_ne2 (by omega)]; exact g2 b hb hq
    · rw [z_pI_ne2 (by omega)]; exact g3 b hb hq
    · rw [z_pI_ne2 (by omega)]; exact g4 b hb hq
    · show _ = nI (a_up (v_f v) (v_h v b) _ r)
      by_cases e : r = v_h v b
      · rw [e, z_pI_at, a_up_s]
      · rw [z_pI_ne2 (by omega), a_up_n e]
        exact g5 r hr
    · rw [z_pI_ne2 (by omega)]; exact g6
theorem mR.day (h : mR s v σ a) (ha : z_kd a = (11, 53)) : mR s (v_w v, v_h v, v_d v, v_f v, v_p v, v_y v + 1) (z_pI σ a 48 (nI (v_y v + 1))) a := by
  have hn := h.n
  refine h.upd (z_fr.pI (F := fun q => q = a) z_fr.rf rfl) ha h.1 ?_
  obtain ⟨g1, g2, g3, g4, g5, g6⟩ := h.2.2
  refine ⟨fun b hb => ?_, fun b hb hq => ?_, fun b hb hq => ?_, fun b hb hq => ?_, fun r hr => ?_, z_pI_at _ _ _ _⟩
  · rw [z_pI_ne2 (by omega)]; exact g1 b hb
  · rw [z_pI_ne2 (by omega)]; exact g2 b hb hq
  · rw [z_pI_ne2 (by omega)]; exact g3 b hb hq
  · rw [z_pI_ne2 (by omega)]; exact g4 b hb hq
  · rw [z_pI_ne2 (by omega)]; exact g5 r hr
/-- days, one by one, from what came back and was paid before -/
def a_dn (s : aS) (q : aV × Nat × Nat) : Nat → aV × Nat × Nat
  | 0 => q
  | i + 1 => a_pd s (a_dn s q i)
theorem a_days_dn (s : aS) (v : aV) : ∀ i, a_days s v i = a_dn s (v, 0, 0) i
  | 0 => rfl
  | i + 1 => by rw [a_days, a_dn, a_days_dn s v i]
theorem mc_goDays (hR : mR s v σ a) (ha : z_kd a = (11, 53)) {cb pd n : Nat} (hcb : σ.1 63 30 = nI cb) (hpd : σ.1 63 31 = nI pd) (hn31 : n < 2147483648) : z_Cv 0 zm_Model_goDays [.inr 63, .inr a, .inl (nI n)] σ (fun u => mR s (a_dn s (v, cb, pd) n).1 u a ∧ u.1 63 30 = nI (a_dn s (v, cb, pd) n).2.1 ∧ u.1 63 31 = nI (a_dn s (v, cb, pd) n).2.2 ∧ mX (fun q => q = a) (fun k => k = 30 ∨ k = 31) σ u) := by
  have hn := hR.n
  have h4 := hR.r4
  have h53 := z_a53 ha
  have a63 : a ≠ 63 := by omega
  have a67 : (67 : Nat) ≠ a := by omega
  refine z_Cv_of (by decide) (Nat.le_of_ble_eq_true rfl) (fun Γ hd he => ?_)
  show z_J Γ zm_Model_goDays 0 [some (.inr 63), some (.inr a), some (.inl (nI n)), none, none] [] σ
  refine zb_Model_goDays_0 ha ?_
  refine zj_forS (b := n) (fun i => [some (.inr 63), some (.inr a), some (.inl (nI n)), some (.inl (nI i)), none])
    (fun i u => mR s (a_dn s (v, cb, pd) i).1 u a ∧ u.1 63 30 = nI (a_dn s (v, cb, pd) i).2.1 ∧ u.1 63 31 = nI (a_dn s (v, cb, pd) i).2.2 ∧ mX (fun q => q = a) (fun k => k = 30 ∨ k = 31) σ u) (fun i u hi hI kk => ?_) (fun u hI => ?_) 0 (Nat.zero_le _) _ ⟨hR, hcb, hpd, mX.rf⟩
  · obtain ⟨q1, q2, q3, q4⟩ := hI
    refine zb_Model_goDays_2 ha (fun h => absurd h (nI_ge hi (by omega))) (fun _ => ?_)
    refine zb_Model_goDays_7 ha (k1 := 48) (k2 := 48) (z_ixn (by omega)) (z_ixn (by omega)) ?_
    rw [q1.fy, nI_add]
    have e1 : a_dn s (v, cb, pd) (i + 1) = a_pdi s (a_dn s (v, cb, pd) i) (s_n s) := rfl
    rw [e1] at kk
    generalize a_dn s (v, cb, pd) i = q0 at *
    refine zj_forS (b := s_n s) (fun j => [some (.inr 63), some (.inr a), some (.inl (nI n)), some (.inl (nI i)), some (.inl (nI j))])
      (fun j u => mR s (a_pdi s q0 j).1 u a ∧ u.1 63 30 = nI (a_pdi s q0 j).2.1 ∧ u.1 63 31 = nI (a_pdi s q0 j).2.2 ∧ mX (fun q => q = a) (fun k => k = 30 ∨ k = 31) σ u) (fun j u hj hI kk => ?_) (fun u hI => ?_) 0 (Nat.zero_le _) _ ⟨q1.day ha, ?_, ?_, q4.pR rfl a63⟩
    · obtain ⟨q1, q2, q3, q4⟩ := hI
      have hw3 := q1.w3 j
      refine zb_Model_goDays_18 ha (fun h => ?_) (fun _ => ?_)
      · rw [q1.2.1.1] at h
        exact absurd h (nI_ge hj (by omega))
      have skip : a_due s (a_pdi s q0 j).1 j = false → z_J Γ zm_Model_goDays 131 [some (.inr 63), some (.inr a), some (.inl (nI n)), some (.inl (nI i)), some (.inl (nI j))] [] u := by
        intro hf
        refine zb_Model_goDays_131 ha ?_
        rw [nI_add]
        refine kk u ?_
        have e : a_pdi s q0 (j + 1) = a_pdi s q0 j := by rw [a_pdi, if_neg (by rw [hf]; decide)]
        rw [e]
        exact ⟨q1, q2, q3, q4⟩
      refine zb_Model_goDays_27 ha (k1 := j) (z_ixn (by omega)) (fun hw => ?_) (fun hw => ?_)
      · rw [q1.fw hj, zn_eq (by omega) (by omega)] at hw
        exact skip (by unfold a_due; simp [hw])
      rw [q1.fw hj, zn_eq (by omega) (by omega)] at hw
      have hh := q1.1.lt hj hw
      have eH : u.1 a (12 + j) = nI (v_h (a_pdi s q0 j).1 j) := q1.fh hj (Or.inr hw)
      have eL : u.1 67 (v_h (a_pdi s q0 j).1 j) = nI (s_l s (v_h (a_pdi s q0 j).1 j)) := q1.2.1.2.2.2.2.2 _ hh
      refine zb_Model_goDays_35 ha (k1 := 36 + j) (k2 := 12 + j) (k3 := v_h (a_pdi s q0 j).1 j) (k4 := 48) ⟨nI_add _ _, by omega⟩ ⟨nI_add _ _, by omega⟩ ⟨eH, by omega⟩ (z_ixn (by omega)) (fun h => ?_) (fun h => ?_)
      · rw [q1.fd hj hw, eL, q1.fy, nI_add] at h
        have hdue : a_due s (a_pdi s q0 j).1 j = true := by unfold a_due; simp [hw, h]
        have e1 : a_pdi s q0 (j + 1) = (a_lift (a_fine s (a_pdi s q0 j).1 j) j 0, (a_pdi s q0 j).2.1 ||| 2 ^ j, (a_pdi s q0 j).2.2 + s_l s (v_h (a_pdi s q0 j).1 j)) := by rw [a_pdi, if_pos hdue]
        rw [e1] at kk
        generalize a_pdi s q0 j = q at *
        have eF : u.1 a (49 + v_h q.1 j) = nI (v_f q.1 (v_h q.1 j)) := q1.ff hh
        have p1 : ∀ x k, k ≠ j → (z_pI u a j x).1 a k = u.1 a k := fun x k hk => z_pI_ne2 hk
        have c1 : mR s (a_lift q.1 j 0) (z_pI u a j (nI 0)) a := q1.lift0 ha hj (Or.inl rfl) (a_last0 q1.1 (by omega))
        have c2 := c1.fine ha (b := j) hh
        have c3 := (c2.k63 (k := 30) (x := nI (q.2.1 ||| 2 ^ j)) (by omega) a63).k63 (k := 31) (x := nI (q.2.2 + s_l s (v_h q.1 j))) (by omega) a63
        refine zb_Model_goDays_65 ha (k1 := j) (k2 := 12 + j) (k3 := 49 + v_h q.1 j) (k4 := 12 + j) (k5 := v_h q.1 j) (k6 := 49 + v_h q.1 j) (k7 := 12 + j) (k8 := v_h q.1 j) (z_ixn (by omega)) ⟨nI_add _ _, by omega⟩ ⟨by rw [p1 _ _ (by omega), eH, nI_add], by omega⟩ ⟨nI_add _ _, by omega⟩ ⟨by rw [p1 _ _ (by omega), eH], by omega⟩ ⟨by rw [p1 _ _ (by omega), eH, nI_add], by omega⟩ ⟨nI_add _ _, by omega⟩ ⟨by rw [z_pI_ne a63, z_pI_ne2 (by omega), p1 _ _ (by omega), eH], by omega⟩ ?_
        rw [p1 _ _ (show 49 + v_h q.1 j ≠ j by omega), eF, z_pI_ne (σ := u) (k := j) (v := nI 0) a67, eL, nI_add, z_pI_ne (σ := z_pI u a j (nI 0)) (Ne.symm a63), z_pI_ne (σ := u) (Ne.symm a63), q2, zn_shl (by omega), zn_or, z_pI_ne2 (show 31 ≠ 30 by decide), z_pI_ne (σ := z_pI u a j (nI 0)) (Ne.symm a63), z_pI_ne (σ := u) (Ne.symm a63), q3, z_pI_ne (show 67 ≠ 63 by decide), z_pI_ne a67, z_pI_ne a67, eL, nI_add]
        refine zb_Model_goDays_131 ha ?_
        rw [nI_add]
        refine kk _ ⟨c3, ?_, z_pI_at _ _ _ _, (((q4.pR rfl a63).pR rfl a63).pK (Or.inl rfl)).pK (Or.inr rfl)⟩
        rw [z_pI_ne2 (by decide), z_pI_at]
      · rw [q1.fd hj hw, eL, q1.fy, nI_add] at h
        refine zb_Model_goDays_62 ha ?_
        exact skip (by unfold a_due; simp [h])
    · obtain ⟨q1, q2, q3, q4⟩ := hI
      refine zb_Model_goDays_18 ha (fun _ => ?_) (fun h => ?_)
      · refine zb_Model_goDays_137 ha ?_
        rw [nI_add]
        exact kk u ⟨q1, q2, q3, q4⟩
      · rw [q1.2.1.1] at h
        exact absurd (Int32.le_refl _) h
    · rw [z_pI_ne (Ne.symm a63)]; exact q2
    · rw [z_pI_ne (Ne.symm a63)]; exact q3
  · obtain ⟨q1, q2, q3, q4⟩ := hI
    refine zb_Model_goDays_2 ha (fun _ => ?_) (fun h => absurd (Int32.le_refl _) h)
    refine zb_Model_goDays_143 ?_
    rw [he]
    exact ⟨rfl, q1, q2, q3, q4⟩
theorem mc_copy {a0 a1 n1 k : Nat} (h0 : z_kd a0 = (11, 53)) (h1 : z_kd a1 = (11, n1)) (hn : n1 < 2147483648) (hk : k + 53 ≤ n1) (hne : a0 ≠ a1) : z_Cv 0 zm_Model_lay_1 [.inr a0, .inr a1, .inl (nI k)] σ (fun u => (∀ i, i < 53 → u.1 a1 (k + i) = σ.1 a0 i) ∧ (∀ j, j < k ∨ k + 53 ≤ j → u.1 a1 j = σ.1 a1 j) ∧ z_fr (fun q => q = a1) σ u) := by
  refine z_Cv_of (by decide) (Nat.le_of_ble_eq_true rfl) (fun Γ hd he => ?_)
  show z_J Γ zm_Model_lay_1 0 [some (.inr a0), some (.inr a1), some (.inl (nI k)), none] [] σ
  refine zb_Model_lay_1_0 h0 h1 ?_
  refine zj_forS (b := 53) (fun i => [some (.inr a0), some (.inr a1), some (.inl (nI k)), some (.inl (nI i))])
    (fun i u => (∀ j, j < i → u.1 a1 (k + j) = σ.1 a0 j) ∧ (∀ j, j < k ∨ k + i ≤ j → u.1 a1 j = σ.1 a1 j) ∧ z_fr (fun q => q = a1) σ u) (fun i u hi hI kk => ?_) (fun u hI => ?_) 0 (Nat.zero_le _) _ ⟨fun _ q => absurd q (by omega), fun _ _ => rfl, z_fr.rf⟩
  · obtain ⟨q1, q2, q3⟩ := hI
    refine zb_Model_lay_1_2 h0 h1 (fun h => absurd h (nI_ge hi (by omega))) (fun _ => ?_)
    refine zb_Model_lay_1_8 h0 h1 (by omega) (k1 := i) (k2 := k + i) (z_ixn (by omega)) ⟨nI_add _ _, by omega⟩ ?_
    rw [nI_add]
    refine kk _ ⟨fun j hj => ?_, fun j hj => ?_, q3.pI rfl⟩
    · by_cases e : j = i
      · subst e
        rw [z_pI_at, (q3 a0 hne).1]
      · rw [z_pI_ne2 (by omega)]
        exact q1 j (by omega)
    · rw [z_pI_ne2 (by omega)]
      exact q2 j (by omega)
  · refine zb_Model_lay_1_2 h0 h1 (fun _ => ?_) (fun h => absurd (Int32.le_refl _) h)
    refine zb_Model_lay_1_22 ?_
    rw [he]
    exact ⟨rfl, hI⟩
theorem mV.congr (hn : s_n s ≤ 12) (hr : s_r s ≤ 4) (h : mV s v f) (hg : ∀ k, k < 53 → g k = f k) : mV s v g := by
  obtain ⟨g1, g2, g3, g4, g5, g6⟩ := h
  refine ⟨fun b hb => ?_, fun b hb hq => ?_, fun b hb hq => ?_, fun b hb hq => ?_, fun r hr => ?_, ?_⟩
  · rw [hg _ (by omega)]; exact g1 b hb
  · rw [hg _ (by omega)]; exact g2 b hb hq
  · rw [hg _ (by omega)]; exact g3 b hb hq
  · rw [hg _ (by omega)]; exact g4 b hb hq
  · rw [hg _ (by omega)]; exact g5 r hr
  · rw [hg _ (by omega)]; exact g6
/-- what can be undone, in the model's rows -/
def mH (s : aS) (H : List aV) (σ : zS) : Prop := H.length ≤ 12 ∧ σ.1 63 27 = nI H.length ∧ ∀ i w, H[i]? = some w → aI s w ∧ mV s w (fun k => σ.1 76 (53 * i + k))
def a_rem (H : List aV) (v : aV) : List aV := (if H.length = 12 then H.drop 1 else H) ++ [v]
theorem mc_remember {H : List aV} (hR : mR s v σ a) (hH : mH s H σ) (ha : z_kd a = (11, 53)) : z_Cv 1 zm_Model_remember [.inr 63, .inr a] σ (fun u => mH s (a_rem H v) u ∧ mX (fun q => q = 76) (fun k => k = 27) σ u) := by
  have hn := hR.n
  have h4 := hR.r4
  have h53 := z_a53 ha
  refine z_Cv_of (by decide) (Nat.le_of_ble_eq_true rfl) (fun Γ hd he => ?_)
  show z_J Γ zm_Model_remember 0 [some (.inr 63), some (.inr a), none] [] σ
  have last : ∀ (G : List aV) (u : zS), G.length ≤ 11 → mH s G u → mX (fun q => q = 76) (fun k => k = 27) σ u → G ++ [v] = a_rem H v → z_J Γ zm_Model_remember 49 [some (.inr 63), some (.inr a), none] [] u := by
    intro G u hG hGH hF hGe
    have hcp := mc_copy (σ := u) (a0 := a) (a1 := 76) (n1 := 636) (k := 53 * G.length) ha (by decide) (by decide) (by omega) (by omega)
    refine zb_Model_remember_49 ha (P := fun u2 => (∀ i, i < 53 → u2.1 76 (53 * G.length + i) = u.1 a i) ∧ (∀ j, j < 53 * G.length ∨ 53 * G.length + 53 ≤ j → u2.1 76 j = u.1 76 j) ∧ z_fr (fun q => q = 76) u u2) (dc := 0) ?_ (by omega) (fun u2 h => ?_)
    · rw [hGH.2.1, pk_mul]
      exact hcp
    · obtain ⟨p1, p2, p3⟩ := h
      refine zb_Model_remember_64 ?_
      rw [he]
      have e27 : u2.1 63 27 = nI G.length := by rw [(p3 63 (by decide)).1]; exact hGH.2.1
      rw [e27, nI_add]
      refine ⟨rfl, ⟨?_, ?_, fun i w hw => ?_⟩, (hF.tr (p3.X (by decide) (fun _ h => h))).pK rfl⟩
      · rw [← hGe]; simp; omega
      · rw [z_pI_at, ← hGe]; simp
      · rw [← hGe] at hw
        have e76 : ∀ x, (z_pI u2 63 27 x).1 76 = u2.1 76 := fun x => z_pI_ne (by decide)
        rw [e76]
        rcases Nat.lt_or_ge i G.length with hi | hi
        · rw [List.getElem?_append_left hi] at hw
          obtain ⟨w1, w2⟩ := hGH.2.2 i w hw
          refine ⟨w1, w2.congr hn h4 (fun k hk => ?_)⟩
          exact p2 _ (by omega)
        · rw [List.getElem?_append_right hi] at hw
          have hi2 : i - G.length = 0 := by
            rcases Nat.eq_zero_or_pos (i - G.length) with q | q
            · exact q
            · rw [List.getElem?_eq_none (by simp; omega)] at hw
              exact absurd hw (by simp)
          rw [hi2] at hw
          simp at hw
          subst hw
          have ei : i = G.length := by omega
          subst ei
          refine ⟨hR.1, hR.2.2.congr hn h4 (fun k hk => ?_)⟩
          show u2.1 76 (53 * G.length + k) = σ.1 a k
          rw [p1 k hk, (hF.1 a (by omega) (by omega)).1]
  refine zb_Model_remember_0 ha (fun h => ?_) (fun h => ?_)
  · rw [hH.2.1, zn_eq (by have := hH.1; omega) (by omega)] at h
    refine last H σ (by have := hH.1; omega) hH mX.rf ?_
    rw [a_rem, if_neg h]
  · rw [hH.2.1, zn_eq (by have := hH.1; omega) (by omega)] at h
    refine zb_Model_remember_9 ha ?_
    refine zj_forS (b := 583) (fun i => [some (.inr 63), some (.inr a), some (.inl (nI i))])
      (fun i u => (∀ j, j < i → u.1 76 j = σ.1 76 (j + 53)) ∧ (∀ j, i ≤ j → u.1 76 j = σ.1 76 j) ∧ z_fr (fun q => q = 76) σ u) (fun i u hi hI kk => ?_) (fun u hI => ?_) 0 (Nat.zero_le _) _ ⟨fun _ q => absurd q (by omega), fun _ _ => rfl, z_fr.rf⟩
    · obtain ⟨q1, q2, q3⟩ := hI
      refine zb_Model_remember_11 ha (fun h => absurd h (nI_ge hi (by omega))) (fun _ => ?_)
      refine zb_Model_remember_18 ha (k1 := i + 53) (k2 := i) ⟨nI_add _ _, by omega⟩ (z_ixn (by omega)) ?_
      rw [nI_add]
      refine kk _ ⟨fun j hj => ?_, fun j hj => ?_, q3.pI rfl⟩
      · by_cases e : j = i
        · subst e
          rw [z_pI_at, q2 _ (by omega)]
        · rw [z_pI_ne2 (by omega)]
          exact q1 j (by omega)
      · rw [z_pI_ne2 (by omega)]
        exact q2 j (by omega)
    · obtain ⟨q1, q2, q3⟩ := hI
      refine zb_Model_remember_11 ha (fun _ => ?_) (fun h => absurd (Int32.le_refl _) h)
      refine zb_Model_remember_39 ha ?_
      have e27 : u.1 63 27 = nI 12 := by rw [(q3 63 (by decide)).1, hH.2.1, h]
      rw [e27, zn_pred (by omega)]
      refine last (H.drop 1) _ (by simp; omega) ⟨by simp; omega, by rw [z_pI_at]; simp [h], fun i w hw => ?_⟩ ((q3.X (by decide) (fun _ h => h)).pK rfl) (by rw [a_rem, if_pos h])
      rw [List.getElem?_drop] at hw
      obtain ⟨w1, w2⟩ := hH.2.2 (1 + i) w hw
      have hlt : 1 + i < H.length := by
        rcases Nat.lt_or_ge (1 + i) H.length with q | q
        · exact q
        · rw [List.getElem?_eq_none q] at hw
          exact absurd hw (by simp)
      refine ⟨w1, w2.congr hn h4 (fun k hk => ?_)⟩
      rw [z_pI_ne (show 76 ≠ 63 by decide), q1 _ (by omega)]
      show σ.1 76 (53 * i + k + 53) = σ.1 76 (53 * (1 + i) + k)
      rw [show 53 * i + k + 53 = 53 * (1 + i) + k by omega]
/-- the row of numbers that the latest call told -/
def mRow (l : List Int32) (σ : zS) : Prop := l.length ≤ 20 ∧ σ.1 63 10 = nI l.length ∧ ∀ i x, l[i]? = some x → σ.1 69 i = x
theorem mRow.nil : mRow [] (z_pI σ 63 10 (nI 0)) := ⟨by simp, z_pI_at _ _ _ _, fun i x h => absurd h (by simp)⟩
theorem mc_tell {l : List Int32} (h : mRow l σ) (h20 : l.length < 20) (x : Int32) : z_Cv 0 zm_Model_tell [.inr 63, .inl x] σ (fun u => mRow (l ++ [x]) u ∧ mX (fun q => q = 69) (fun k => k = 10) σ u) := by
  refine z_Cv_of (by decide) (Nat.le_of_ble_eq_true rfl) (fun Γ hd he => ?_)
  show z_J Γ zm_Model_tell 0 [some (.inr 63), some (.inl x)] [] σ
  refine zb_Model_tell_0 (k1 := l.length) ⟨h.2.1, h20⟩ ?_
  rw [he, z_pI_ne (show 63 ≠ 69 by decide), h.2.1, nI_add]
  refine ⟨rfl, ⟨by simp; omega, by rw [z_pI_at]; simp, fun i y hy => ?_⟩, (mX.pR (R := fun q => q = 69) (K := fun k => k = 10) mX.rf rfl (show 69 ≠ 63 by decide)).pK rfl⟩
  rw [z_pI_ne (show 69 ≠ 63 by decide)]
  rcases Nat.lt_or_ge i l.length with hi | hi
  · rw [List.getElem?_append_left hi] at hy
    rw [z_pI_ne2 (by omega)]
    exact h.2.2 i y hy
  · rw [List.getElem?_append_right hi] at hy
    have hi2 : i - l.length = 0 := by
      rcases Nat.eq_zero_or_pos (i - l.length) with q | q
      · exact q
      · rw [List.getElem?_eq_none (by simp; omega)] at hy
        exact absurd hy (by simp)
    rw [hi2] at hy
    simp at hy
    subst hy
    have ei : i = l.length := by omega
    subst ei
    exact z_pI_at _ _ _ _
end
