/-! the program: rests, years -/
section
variable {x : tX} {σ u : zS}
theorem cc_gain (m o v f : Int32) (σ : zS) : z_Ci 0 zm_Walls_gain [.inl m, .inl o, .inl v, .inl f] σ (z_is (r_g m o v f) σ) := by
  refine z_Ci_of (by decide) (Nat.le_of_ble_eq_true rfl) (fun Γ hd he => ?_)
  show z_J Γ zm_Walls_gain 0 [some (.inl m), some (.inl o), some (.inl v), some (.inl f), none] [] σ
  have fin : ∀ z : Int32, z = (if ¬ m ≤ o then v else if m = o then v / nI 2 else nI 0) → z_J Γ zm_Walls_gain 21 [some (.inl m), none, none, some (.inl f), none] [.inl z] σ := fun z hz => by
    refine zb_Walls_gain_21 ?_
    rw [he, hz]
    exact ⟨_, rfl, rfl, rfl⟩
  refine zb_Walls_gain_0 (fun p => ?_) (fun p => ?_)
  · refine zb_Walls_gain_9 (fun p2 => ?_) (fun p2 => ?_)
    · exact zb_Walls_gain_20 (fin _ (by rw [if_neg (fun z => z p), if_neg p2]))
    · exact zb_Walls_gain_14 (fin _ (by rw [if_neg (fun z => z p), if_pos p2]))
  · exact zb_Walls_gain_5 (fin _ (by rw [if_pos p]))
theorem cc_isBestAgainst (m o v f : Int32) (σ : zS) : z_Ci 1 zm_Walls_isBestAgainst [.inl m, .inl o, .inl v, .inl f] σ (z_is (z_tf (r_b m o v f)) σ) := by
  refine z_Ci_of (by decide) (Nat.le_of_ble_eq_true rfl) (fun Γ hd he => ?_)
  show z_J Γ zm_Walls_isBestAgainst 0 [some (.inl m), some (.inl o), some (.inl v), some (.inl f), none, none] [] σ
  refine zb_Walls_isBestAgainst_0 (cc_gain _ _ _ _ _) (by omega) (fun r u hr => ?_)
  obtain ⟨rfl, rfl⟩ := hr
  refine zb_Walls_isBestAgainst_7 ?_
  refine zj_forM (fun n L w => ∃ i, n = 10 - i ∧ i ≤ 10 ∧ L = [none, some (.inl o), some (.inl v), some (.inl f), some (.inl (r_g m o v f)), some (.inl (nI i))] ∧ (List.range i).all (fun x => decide (r_g (nI x) o v f ≤ r_g m o v f)) = true ∧ w = u) (fun n L w hI kk => ?_) 10 _ u ⟨0, rfl, by omega, rfl, rfl, rfl⟩
  obtain ⟨i, rfl, hi, rfl, hall, rfl⟩ := hI
  refine zb_Walls_isBestAgainst_12 (fun p => ?_) (fun p => ?_)
  · rw [zn_lt (by omega) (by omega)] at p
    have e : i = 10 := by omega
    subst e
    refine zb_Walls_isBestAgainst_40 ?_
    rw [he, show r_b m o v f = true from hall]
    exact ⟨_, rfl, rfl, rfl⟩
  · rw [zn_lt (by omega) (by omega)] at p
    refine zb_Walls_isBestAgainst_19 (cc_gain _ _ _ _ _) (by omega) (fun r u hr => ?_)
    obtain ⟨rfl, rfl⟩ := hr
    refine zb_Walls_isBestAgainst_27 (fun p2 => ?_) (fun p2 => ?_)
    · refine zb_Walls_isBestAgainst_34 ?_
      rw [nI_add]
      refine kk _ _ u (show 10 - (i + 1) < 10 - i by omega) ⟨i + 1, rfl, by omega, rfl, ?_, rfl⟩
      rw [r_b_pre, hall, decide_eq_true p2]
      rfl
    · refine zb_Walls_isBestAgainst_32 ?_
      have hb : r_b m o v f = false := by
        rw [Bool.eq_false_iff]
        intro z
        unfold r_b at z
        rw [List.all_eq_true] at z
        have := z i (List.mem_range.mpr (by omega))
        rw [decide_eq_true_eq] at this
        exact p2 this
      rw [he, hb]
      exact ⟨_, rfl, rfl, rfl⟩
theorem cRow.nil : cRow [] (z_pI σ 0 3 (nI 0)) := ⟨by simp, z_pI_at _ _ _ _, fun i x h => absurd h (by simp)⟩
theorem cp_rests (h : cA x σ) (v f : Int32) : z_Ci 3 zm_Walls_rests [.inr 0, .inl v, .inl f] σ (fun r u => r = (to_rests x v f).1 ∧ cA (to_rests x v f).2 u ∧ zW σ u) := by
  refine z_Ci_of (by decide) (Nat.le_of_ble_eq_true rfl) (fun Γ hd he => ?_)
  show z_J Γ zm_Walls_rests 0 [some (.inr 0), some (.inl v), some (.inl f), none, none, none] [] σ
  have e0 : (0 : Int32) = nI 0 := rfl
  have no : ¬ ((nI 0 ≤ v ∧ v ≤ nI 9) ∧ (nI 0 ≤ f ∧ f ≤ nI 9)) → z_J Γ zm_Walls_rests 20 [none, none, none, none, none, none] [] σ := fun q => by
    refine zb_Walls_rests_20 ?_
    rw [he, to_rests, if_neg q]
    exact ⟨_, rfl, rfl, h, zW.rf⟩
  refine zb_Walls_rests_0 (fun k => no (fun q => absurd q.1.1 (Int32.not_le.mpr k))) (fun k => ?_)
  refine zb_Walls_rests_4 (fun k1 => no (fun q => absurd q.1.2 (Int32.not_le.mpr k1))) (fun k1 => ?_)
  refine zb_Walls_rests_10 (fun k2 => no (fun q => absurd q.2.1 (Int32.not_le.mpr k2))) (fun k2 => ?_)
  refine zb_Walls_rests_14 (fun k3 => ?_) (fun k3 => no (fun q => k3 q.2.2))
  rw [to_rests, if_pos ⟨⟨Int32.not_lt.mp k, Int32.not_lt.mp k1⟩, ⟨Int32.not_lt.mp k2, k3⟩⟩] at he
  refine zb_Walls_rests_22 ?_
  refine zj_forS (b := 10) (fun i => [some (.inr 0), some (.inl v), some (.inl f), some (.inl (nI (r_al v f i).1)), some (.inl (nI i)), none])
    (fun i w => cRow (r_al v f i).2 w ∧ cX (fun q => q = 2) c_qK σ w) (fun i w hi hI kk => ?_) (fun w hI => ?_) 0 (Nat.zero_le _) _ ⟨cRow.nil, cX.pK cX.rf rfl⟩
  · refine zb_Walls_rests_32 (fun p => ?_) (fun _ => ?_)
    · rw [zn_lt (by omega) (by omega)] at p
      omega
    refine zb_Walls_rests_39 ?_
    obtain ⟨h1, h2, h3⟩ := r_al_le v f i
    refine zj_forS (b := 10) (fun j => [some (.inr 0), some (.inl v), some (.inl f), some (.inl (nI (r_ro v f (r_al v f i) i j).1)), some (.inl (nI i)), some (.inl (nI j))])
      (fun j w => cRow (r_ro v f (r_al v f i) i j).2 w ∧ cX (fun q => q = 2) c_qK σ w) (fun j w hj hI kk2 => ?_) (fun w hI => ?_) 0 (Nat.zero_le _) _ hI
    · obtain ⟨q1, q2⟩ := hI
      obtain ⟨g1, g2, g3⟩ := r_ro_le v f (r_al v f i) i j
      refine zb_Walls_rests_42 (fun p => ?_) (fun _ => ?_)
      · rw [zn_lt (by omega) (by omega)] at p
        omega
      have e1 := r_ro_s v f (r_al v f i) i j
      rw [e1] at kk2
      unfold r_st at kk2
      have skip : ¬ (r_b (nI i) (nI j) v f = true ∧ r_b (nI j) (nI i) v f = true) → z_J Γ zm_Walls_rests 91 [some (.inr 0), some (.inl v), some (.inl f), some (.inl (nI (r_ro v f (r_al v f i) i j).1)), some (.inl (nI i)), some (.inl (nI j))] [] w := by
        intro p
        refine zb_Walls_rests_91 ?_
        rw [nI_add]
        rw [if_neg p] at kk2
        exact kk2 w ⟨q1, q2⟩
      refine zb_Walls_rests_49 (cc_isBestAgainst _ _ _ _ _) (by omega) (fun r u hr => ?_)
      obtain ⟨rfl, rfl⟩ := hr
      refine zb_Walls_rests_58 (fun p => skip (fun z => ?_)) (fun p => ?_)
      · rw [z_tf_eq0] at p
        rw [p] at z
        exact absurd z.1 (by decide)
      rw [z_tf_eq0, Bool.not_eq_false] at p
      refine zb_Walls_rests_61 (cc_isBestAgainst _ _ _ _ _) (by omega) (fun r u2 hr => ?_)
      obtain ⟨rfl, rfl⟩ := hr
      refine zb_Walls_rests_70 (fun p2 => ?_) (fun p2 => ?_)
      rotate_left
      · rw [z_tf_eq0] at p2
        exact zb_Walls_rests_73 (skip (fun z => by rw [p2] at z; exact absurd z.2 (by decide)))
      rw [z_tf_eq0, Bool.not_eq_false] at p2
      rw [if_pos ⟨p, p2⟩] at kk2
      refine zb_Walls_rests_76 (fun p3 => ?_) (fun p3 => ?_)
      · rw [e0, zn_eq (by omega) (by omega)] at p3
        rw [if_neg p3] at kk2
        refine zb_Walls_rests_88 (zb_Walls_rests_91 ?_)
        rw [nI_add, nI_add]
        exact kk2 u2 ⟨q1, q2⟩
      · rw [e0, zn_eq (by omega) (by omega)] at p3
        rw [if_pos p3] at kk2
        refine zb_Walls_rests_80 (cc_tellTwo _ _ _) (by omega) (fun u3 h3 => ?_)
        refine zb_Walls_rests_88 (zb_Walls_rests_91 ?_)
        rw [nI_add, nI_add]
        exact kk2 u3 ⟨h3.1, q2.tr h3.2⟩
    · refine zb_Walls_rests_42 (fun _ => ?_) (fun p => absurd (by decide) p)
      refine zb_Walls_rests_97 ?_
      rw [nI_add]
      rw [r_al_s] at kk
      exact kk w hI
  · refine zb_Walls_rests_32 (fun _ => ?_) (fun p => absurd (by decide) p)
    refine zb_Walls_rests_103 ?_
    rw [he]
    exact ⟨_, rfl, rfl, h.row (hI.2.mono (fun _ h => Or.inr h) (fun _ h => h)) hI.1⟩
theorem cc_nextDraw (a : Int32) (σ : zS) : z_Ci 0 zm_Walls_nextDraw [.inl a] σ (z_is (y_nx a) σ) := by
  refine z_Ci_of (by decide) (Nat.le_of_ble_eq_true rfl) (fun Γ hd he => ?_)
  show z_J Γ zm_Walls_nextDraw 0 [some (.inl a)] [] σ
  refine zb_Walls_nextDraw_0 ?_
  rw [he]
  exact ⟨_, rfl, rfl, rfl⟩
theorem cc_drawn (a : Int32) {n : Nat} (hn : 0 < n) (hn2 : n < 2147483648) (σ : zS) : z_Ci 0 zm_Walls_drawn [.inl a, .inl (nI n)] σ (z_is (nI (y_hi a % n)) σ) := by
  refine z_Ci_of (by decide) (Nat.le_of_ble_eq_true rfl) (fun Γ hd he => ?_)
  show z_J Γ zm_Walls_drawn 0 [some (.inl a), some (.inl (nI n))] [] σ
  have e0 : (0 : Int32) = nI 0 := rfl
  refine zb_Walls_drawn_0 (fun p => ?_) (fun _ => ?_)
  · rw [e0, zn_le (by omega) (by omega)] at p
    omega
  refine zb_Walls_drawn_4 (fun p => ?_) (zb_Walls_drawn_14 ?_)
  · rw [e0, zn_eq (by omega) (by omega)] at p
    omega
  obtain ⟨h1, h2⟩ := y_hi_e a
  rw [he, h1, zn_rem (by omega) hn hn2]
  exact ⟨_, rfl, rfl, rfl⟩
theorem cp_years (h : cA x σ) (a b : Int32) : z_Ci 6 zm_Walls_years [.inr 0, .inl a, .inl b] σ (fun r u => r = (to_years x a b).1 ∧ cA (to_years x a b).2 u ∧ zW σ u) := by
  have hn := h.1.n
  have h6 := h.1.c6
  have h1c := h.1.c1
  have e0 : (0 : Int32) = nI 0 := rfl
  refine z_Ci_of (by decide) (Nat.le_of_ble_eq_true rfl) (fun Γ hd he => ?_)
  show z_J Γ zm_Walls_years 0 [some (.inr 0), some (.inl a), some (.inl b), none, none, none, none, none, none] [] σ
  refine zb_Walls_years_0 (fun p => ?_) (fun p => ?_)
  rotate_left
  · rw [h.1.fn, e0, zn_eq (by omega) (by omega)] at p
    refine zb_Walls_years_10 ?_
    rw [he, to_years, if_pos p]
    exact ⟨_, rfl, rfl, h, zW.rf⟩
  rw [h.1.fn, e0, zn_eq (by omega) (by omega)] at p
  rw [to_years, if_neg p] at he
  have no : ¬ (nI 1 ≤ b ∧ b ≤ nI 60) → z_J Γ zm_Walls_years 24 [none, none, none, none, none, none, none, none, none] [] σ := fun q => by
    refine zb_Walls_years_24 ?_
    rw [he, if_neg q]
    exact ⟨_, rfl, rfl, h, zW.rf⟩
  refine zb_Walls_years_13 (fun k => no (fun q => absurd q.1 (Int32.not_le.mpr k))) (fun k => ?_)
  refine zb_Walls_years_18 (fun k1 => ?_) (fun k1 => no (fun q => k1 q.2))
  obtain ⟨n, hn1, hn60, rfl⟩ := zn_btw k k1 (by decide)
  rw [if_pos ⟨Int32.not_lt.mp k, k1⟩, nI_clamp (by omega)] at he
  refine zb_Walls_years_26 (cc_copyFrom z_c43 z_c33 (by decide) h.1) (by omega) (fun u1 hr => ?_)
  obtain ⟨R1, F1⟩ := hr
  have G1 : cX c_tO (fun _ => False) σ u1 := F1.cX (by show ¬ (43 ≤ 0 ∧ 0 ≤ 52); omega) (fun q hq => Or.inl hq)
  refine zb_Walls_years_37 ?_
  let Y := fun i => y_it (x_E x) (x_s x) (a, x_v x, 0, 0, 99) i
  refine zj_forS (b := n) (fun i => [some (.inr 0), none, some (.inl (nI n)), some (.inl (Y i).1), some (.inl (nI (Y i).2.2.1)), some (.inl (nI (Y i).2.2.2.1)), some (.inl (nI (Y i).2.2.2.2)), some (.inl (nI i)), none])
    (fun i w => cX c_tO (fun _ => False) σ w ∧ cR (x_s x) (Y i).2.1 w 43) (fun i w hi hI kk => ?_) (fun w hI => ?_) 0 (Nat.zero_le _) _ ⟨G1, R1⟩
  · obtain ⟨q1, q2⟩ := hI
    refine zb_Walls_years_52 (fun p => absurd p (nI_ge hi (by omega))) (fun _ => ?_)
    have eY : Y (i + 1) = y_st (x_E x) (x_s x) (Y i) := rfl
    have hYl : ∀ j, (Y j).2.2.2.2 ≤ 99 := by
      intro j
      induction j with
      | zero => exact Nat.le_refl _
      | succ j ih =>
        show (if a_lh (x_s x) (y_v3 (x_E x) (x_s x) (Y j)) < (Y j).2.2.2.2 then a_lh (x_s x) (y_v3 (x_E x) (x_s x) (Y j)) else (Y j).2.2.2.2) ≤ 99
        split
        · exact a_lhi_le _ _ _
        · exact ih
    have hYi := hYl i
    rw [eY] at kk
    generalize Y i = q at *
    have hd1 : y_d (x_s x) q < s_c (x_s x) := Nat.mod_lt _ (by omega)
    have hd2 : y_b (x_s x) q < s_n (x_s x) := Nat.mod_lt _ (by omega)
    have hd3 : y_c (x_s x) q < s_c (x_s x) := Nat.mod_lt _ (by omega)
    refine zb_Walls_years_58 (cc_nextDraw _ _) (by omega) (fun r w1 hr => ?_)
    obtain ⟨rfl, rfl⟩ := hr
    refine zb_Walls_years_62 (dc := 0) (P := z_is (nI (y_d (x_s x) q)) w1) (by rw [q2.fc]; exact cc_drawn _ (by omega) (by omega) _) (by omega) (fun r w2 hr => ?_)
    obtain ⟨rfl, rfl⟩ := hr
    refine zb_Walls_years_78 (cc_shoot z_c43 q2 _ _) (by omega) (fun r w3 hr => ?_)
    obtain ⟨rfl, r3, -, F3⟩ := hr
    have G3 : cX c_tO (fun _ => False) σ w3 := q1.tr (F3.cX (by show ¬ (43 ≤ 0 ∧ 0 ≤ 52); omega) (fun q hq => Or.inl hq))
    have es : a_sh (x_s x) q.2.1 (nI (y_d (x_s x) q)) (nI 1) = if (v_p q.2.1 (y_d (x_s x) q)).length = 0 then (-2, q.2.1, 0) else (nI (a_h (x_s x) (a_shi q.2.1 (y_d (x_s x) q) 1).1 (y_d (x_s x) q)), a_shi q.2.1 (y_d (x_s x) q) 1) := by
      unfold a_sh
      rw [if_pos ⟨z_isn_n (by omega) hd1, by decide, by decide⟩, nI_clamp (by omega)]
      rfl
    have ev : (a_sh (x_s x) q.2.1 (nI (y_d (x_s x) q)) (nI 1)).2.1 = y_v1 (x_s x) q := by
      rw [es]
      by_cases z : (v_p q.2.1 (y_d (x_s x) q)).length = 0
      · rw [if_pos z]
        unfold y_v1
        rw [a_shi, if_pos (by exact z)]
        rfl
      · rw [if_neg z]
        rfl
    rw [ev] at r3
    have go2 : z_J Γ zm_Walls_years 88 [some (.inr 0), none, some (.inl (nI n)), some (.inl (y_nx q.1)), some (.inl (nI q.2.2.1)), some (.inl (nI (q.2.2.2.1 + (if (v_p q.2.1 (y_d (x_s x) q)).length = 0 then 0 else 1)))), some (.inl (nI q.2.2.2.2)), some (.inl (nI i)), none] [] w3 := by
      refine zb_Walls_years_88 (cc_nextDraw _ _) (by omega) (fun r w4 hr => ?_)
      obtain ⟨rfl, rfl⟩ := hr
      refine zb_Walls_years_92 (dc := 0) (P := z_is (nI (y_b (x_s x) q)) w4) (by rw [r3.fn]; exact cc_drawn _ (by omega) (by omega) _) (by omega) (fun r w5 hr => ?_)
      obtain ⟨rfl, rfl⟩ := hr
      refine zb_Walls_years_104 (cc_nextDraw _ _) (by omega) (fun r w6 hr => ?_)
      obtain ⟨rfl, rfl⟩ := hr
      refine zb_Walls_years_110 (dc := 0) (P := z_is (nI (y_c (x_s x) q)) w6) (by rw [r3.fc]; exact cc_drawn _ (by omega) (by omega) _) (by omega) (fun r w7 hr => ?_)
      obtain ⟨rfl, rfl⟩ := hr
      have A7 := (h.low G3.tr1).1
      have hor := A7.2.2.1.oR
      refine zb_Walls_years_128 hor (cc_layOn z_c43 hor r3 A7.2.2.1.2 _ _) (by omega) (fun r w8 hr => ?_)
      obtain ⟨rfl, r8, F8⟩ := hr
      have G8 : cX c_tO (fun _ => False) σ w8 := G3.tr (F8.cX (by rcases hor with e | e <;> rw [e] <;> show ¬ ((43 + 3 ≤ 0 ∧ 0 ≤ 43 + 7) ∨ _) <;> omega) (fun q hq => by
        rcases hq with q1 | q1
        · have q1' : 43 + 3 ≤ q ∧ q ≤ 43 + 7 := q1
          unfold c_tO
          omega
        · unfold c_tO
          rcases hor with e | e <;> rw [e] at q1 <;> omega))
      have go3 : z_J Γ zm_Walls_years 141 [some (.inr 0), none, some (.inl (nI n)), some (.inl (y_nx (y_nx (y_nx q.1)))), some (.inl (nI (q.2.2.1 + (if 0 ≤ (y_l (x_E x) (x_s x) q).1 then 1 else 0)))), some (.inl (nI (q.2.2.2.1 + (if (v_p q.2.1 (y_d (x_s x) q)).length = 0 then 0 else 1)))), some (.inl (nI q.2.2.2.2)), some (.inl (nI i)), none] [] w8 := by
        refine zb_Walls_years_141 (cc_passDay z_c43 r8 (zn_nat _) (zn_nat _)) (by omega) (fun w9 h9 => ?_)
        obtain ⟨r9, -, -, F9⟩ := h9
        have G9 : cX c_tO (fun _ => False) σ w9 := G8.tr (F9.cX (by show ¬ (43 ≤ 0 ∧ 0 ≤ 52); omega) (fun q hq => Or.inl hq))
        have r9' : cR (x_s x) (y_v3 (x_E x) (x_s x) q) w9 43 := by
          have : (a_pd (x_s x) ((y_l (x_E x) (x_s x) q).2, (w8.1 43 14).toBitVec.toNat, (w8.1 43 15).toBitVec.toNat)).1 = y_v3 (x_E x) (x_s x) q := a_pdi_ind _ _ _ _ _ _ _
          rw [← this]
          exact r9
        refine zb_Walls_years_148 (cc_leastHeight z_c43 r9') (by omega) (fun r w10 hr => ?_)
        obtain ⟨rfl, rfl⟩ := hr
        refine zb_Walls_years_157 (by omega) ?_
        have hlh : a_lh (x_s x) (y_v3 (x_E x) (x_s x) q) ≤ 99 := a_lhi_le (x_s x) (y_v3 (x_E x) (x_s x) q) (s_c (x_s x))
        rw [zn_min (by omega) (by omega), nI_add]
        exact kk w10 ⟨G9, r9'⟩
      refine zb_Walls_years_135 (fun z => ?_) (fun z => ?_)
      · have z' : ¬ 0 ≤ (y_l (x_E x) (x_s x) q).1 := Int32.not_le.mpr z
        rw [if_neg z', Nat.add_zero] at go3
        exact go3
      · have z' : 0 ≤ (y_l (x_E x) (x_s x) q).1 := Int32.not_lt.mp z
        rw [if_pos z'] at go3
        refine zb_Walls_years_138 ?_
        rw [nI_add]
        exact go3
    refine zb_Walls_years_82 (fun z => ?_) (fun z => ?_)
    · have z' : (v_p q.2.1 (y_d (x_s x) q)).length = 0 := by
        by_cases p : (v_p q.2.1 (y_d (x_s x) q)).length = 0
        · exact p
        · exfalso
          rw [es, if_neg p] at z
          have hI : aI (x_s x) (a_shi q.2.1 (y_d (x_s x) q) 1).1 := r3.1
          have h36 : a_h (x_s x) (a_shi q.2.1 (y_d (x_s x) q) 1).1 (y_d (x_s x) q) ≤ 36 := hI.h36 hd1
          exact absurd (zn_ge0 (by omega)) (Int32.not_le.mpr z)
      rw [if_pos z', Nat.add_zero] at go2
      exact go2
    · have z' : ¬ (v_p q.2.1 (y_d (x_s x) q)).length = 0 := fun p => by
        rw [es, if_pos p] at z
        exact z (show (-2 : Int32) < 0 by decide)
      rw [if_neg z'] at go2
      refine zb_Walls_years_85 ?_
      rw [nI_add]
      exact go2
  · refine zb_Walls_years_52 (fun _ => ?_) (fun p => absurd (Int32.le_refl _) p)
    refine zb_Walls_years_168 (cc_tellTwo _ _ _) (by omega) (fun u3 h3 => ?_)
    refine zb_Walls_years_176 ?_
    rw [he]
    exact ⟨_, rfl, rfl, h.row ((hI.1.mono (by unfold c_tO c_qO c_sO; omega) (fun _ h => h.elim)).tr (h3.2.mono (fun _ h => Or.inr h) (fun _ h => h))) h3.1⟩
end
