/-! the program's acts -/
section
variable {x : tX} {σ u : zS}
theorem cA.nx (h : cA x σ) : ∃ nx, nx < 13 ∧ σ.1 11 1 = nI nx := by
  obtain ⟨_, _, nx, c, d, _⟩ := h.2.1
  exact ⟨nx, c, d⟩
theorem cR.cX13 {s : aS} {v : aV} (h : cR s v σ 33) (hF : cX (fun q => 13 ≤ q ∧ q ≤ 25) (fun _ => False) σ u) : cR s v u 33 := h.cX33 hF (by omega)
theorem cX.a13 {R : Nat → Prop} (hF : cX R (fun _ => False) σ u) (h : ∀ q, R q → c_aO q) : cX c_aO c_qK σ u := hF.mono h (fun _ h => h.elim)
theorem cp_lay (h : cA x σ) (a b : Int32) : z_Ci 6 zm_Walls_lay [.inr 0, .inl a, .inl b] σ (fun r u => r = (to_lay x a b).1 ∧ cA (to_lay x a b).2 u ∧ zW σ u) := by
  refine z_Ci_of (by decide) (Nat.le_of_ble_eq_true rfl) (fun Γ hd he => ?_)
  show z_J Γ zm_Walls_lay 0 [some (.inr 0), some (.inl a), some (.inl b)] [] σ
  refine zb_Walls_lay_0 (cc_mark h.1 h.2.1) (by omega) (fun u1 h1 => ?_)
  obtain ⟨H1, M1, F1⟩ := h1
  have R1 := h.1.cX13 F1
  have U1 := h.2.2.1.keepX F1 (by omega)
  refine zb_Walls_lay_11 U1.oR (cc_layOn z_c33 U1.oR R1 U1.2 a b) (by omega) (fun r u2 h2 => ?_)
  obtain ⟨rfl, R2, F2⟩ := h2
  have hor := U1.oR
  have F2' : cX (fun q => (36 ≤ q ∧ q ≤ 40) ∨ q = 55 ∨ q = 60) (fun _ => False) u1 u2 := F2.cX (by rcases hor with e | e <;> rw [e] <;> show ¬ ((33 + 3 ≤ 0 ∧ 0 ≤ 33 + 7) ∨ _) <;> omega) (fun q hq => by
    rcases hq with q1 | q1
    · exact Or.inl q1
    · rcases hor with e | e <;> rw [e] at q1 <;> omega)
  refine zb_Walls_lay_25 (cc_keepIfDone (H1.keepX F2' (by omega) (by omega)) (M1.keepX F2' (by omega) (by omega)) _) (by omega) (fun r u3 h3 => ?_)
  obtain ⟨rfl, H3, F3⟩ := h3
  refine zb_Walls_lay_28 ?_
  have hF : cX c_aO c_qK σ u3 := ((F1.a13 (by unfold c_aO; omega)).tr (F2'.a13 (by unfold c_aO; omega))).tr (F3.a13 (by unfold c_aO; omega))
  have R3 := R2.cX33 F3 (by omega)
  have Ro : cRow (x_r x) u3 := ((h.2.2.2.2.1.keepX F1 (by omega) id).keepX F2' (by omega) id).keepX F3 (by omega) id
  rw [he, to_lay]
  by_cases q : 0 ≤ (a_lay (x_E x) (x_s x) (x_v x) a b).1
  · rw [if_pos q] at H3
    rw [if_pos q]
    exact ⟨_, rfl, rfl, h.act hF R3 H3 Ro, hF.toWa⟩
  · rw [if_neg q] at H3
    rw [if_neg q]
    have ev : (a_lay (x_E x) (x_s x) (x_v x) a b).2 = x_v x := by
      rcases a_lay0_c (E := x_E x) h.1.1 a b with ⟨q1, q2⟩ | ⟨b', c', rfl, rfl, hb, hc, hw, h4, q1, q2⟩
      · rw [q2]
      · exfalso
        apply q
        rw [q2]
        have hI := aI_put h.1.1 hb (by omega) hc h4
        have ep : v_p (a_put (x_v x) b' c') c' = v_p (x_v x) c' ++ [b'] := if_pos rfl
        have h36 : l_h (s_t (x_s x)) (v_p (x_v x) c' ++ [b']) ≤ 36 := by
          rw [← ep]
          exact l_h36 (x := x_act x (a_put (x_v x) b' c') [] []) hI (fun b hb => ((hI.mm hc b).mp hb).1) (hI.l4 hc)
        exact zn_ge0 (by omega)
    rw [ev] at R3
    exact ⟨_, rfl, rfl, h.act hF R3 H3 Ro, hF.toWa⟩
theorem cp_lend (h : cA x σ) (hy : x_y x) (a b c : Int32) : z_Ci 6 zm_Walls_lend [.inr 0, .inl a, .inl b, .inl c] σ (fun r u => r = (to_lend x a b c).1 ∧ cA (to_lend x a b c).2 u ∧ zW σ u) := by
  unfold x_y at hy
  refine z_Ci_of (by decide) (Nat.le_of_ble_eq_true rfl) (fun Γ hd he => ?_)
  show z_J Γ zm_Walls_lend 0 [some (.inr 0), some (.inl a), some (.inl b), some (.inl c)] [] σ
  refine zb_Walls_lend_0 (cc_mark h.1 h.2.1) (by omega) (fun u1 h1 => ?_)
  obtain ⟨H1, M1, F1⟩ := h1
  have R1 := h.1.cX13 F1
  refine zb_Walls_lend_11 (cc_lendTo z_c33 R1 a b c) (by omega) (fun r u2 h2 => ?_)
  obtain ⟨rfl, R2, F2⟩ := h2
  have F2' : cX (fun q => 36 ≤ q ∧ q ≤ 40) (fun _ => False) u1 u2 := F2.cX (by show ¬ (33 + 3 ≤ 0 ∧ 0 ≤ 33 + 7); omega) (fun q hq => hq)
  refine zb_Walls_lend_22 (cc_keepIfDone (H1.keepX F2' (by omega) (by omega)) (M1.keepX F2' (by omega) (by omega)) _) (by omega) (fun r u3 h3 => ?_)
  obtain ⟨rfl, H3, F3⟩ := h3
  refine zb_Walls_lend_25 ?_
  have hF : cX c_aO c_qK σ u3 := ((F1.a13 (by unfold c_aO; omega)).tr (F2'.a13 (by unfold c_aO; omega))).tr (F3.a13 (by unfold c_aO; omega))
  have R3 := R2.cX33 F3 (by omega)
  have Ro : cRow (x_r x) u3 := ((h.2.2.2.2.1.keepX F1 (by omega) id).keepX F2' (by omega) id).keepX F3 (by omega) id
  rw [he, to_lend]
  by_cases q : 0 ≤ (a_ln (x_s x) (x_v x) a b c).1
  · rw [if_pos q] at H3
    rw [if_pos q]
    exact ⟨_, rfl, rfl, h.act hF R3 H3 Ro, hF.toWa⟩
  · rw [if_neg q] at H3
    rw [if_neg q]
    have ev : (a_ln (x_s x) (x_v x) a b c).2 = x_v x := by
      rcases a_ln0_c h.1.1 a b c with ⟨q1, q2⟩ | ⟨b', r', n', rfl, rfl, rfl, hb, hr, h1, h30, hw, h3, q1, q2⟩
      · rw [q2]
      · exfalso
        apply q
        rw [q2]
        exact zn_ge0 (by omega)
    rw [ev] at R3
    exact ⟨_, rfl, rfl, h.act hF R3 H3 Ro, hF.toWa⟩
theorem cp_recall (h : cA x σ) (a : Int32) : z_Ci 6 zm_Walls_recall [.inr 0, .inl a] σ (fun r u => r = (to_recall x a).1 ∧ cA (to_recall x a).2 u ∧ zW σ u) := by
  refine z_Ci_of (by decide) (Nat.le_of_ble_eq_true rfl) (fun Γ hd he => ?_)
  show z_J Γ zm_Walls_recall 0 [some (.inr 0), some (.inl a)] [] σ
  refine zb_Walls_recall_0 (cc_mark h.1 h.2.1) (by omega) (fun u1 h1 => ?_)
  obtain ⟨H1, M1, F1⟩ := h1
  have R1 := h.1.cX13 F1
  refine zb_Walls_recall_11 (cc_callBack z_c33 R1 a) (by omega) (fun r u2 h2 => ?_)
  obtain ⟨rfl, R2, F2⟩ := h2
  have F2' : cX (fun q => 36 ≤ q ∧ q ≤ 40) (fun _ => False) u1 u2 := F2.cX (by show ¬ (33 + 3 ≤ 0 ∧ 0 ≤ 33 + 7); omega) (fun q hq => hq)
  refine zb_Walls_recall_20 (cc_keepIfDone (H1.keepX F2' (by omega) (by omega)) (M1.keepX F2' (by omega) (by omega)) _) (by omega) (fun r u3 h3 => ?_)
  obtain ⟨rfl, H3, F3⟩ := h3
  refine zb_Walls_recall_23 ?_
  have hF : cX c_aO c_qK σ u3 := ((F1.a13 (by unfold c_aO; omega)).tr (F2'.a13 (by unfold c_aO; omega))).tr (F3.a13 (by unfold c_aO; omega))
  have R3 := R2.cX33 F3 (by omega)
  have Ro : cRow (x_r x) u3 := ((h.2.2.2.2.1.keepX F1 (by omega) id).keepX F2' (by omega) id).keepX F3 (by omega) id
  rw [he, to_recall]
  by_cases q : 0 ≤ (a_cb (x_s x) (x_v x) a).1
  · rw [if_pos q] at H3
    rw [if_pos q]
    exact ⟨_, rfl, rfl, h.act hF R3 H3 Ro, hF.toWa⟩
  · rw [if_neg q] at H3
    rw [if_neg q]
    have ev : (a_cb (x_s x) (x_v x) a).2 = x_v x := by
      have hn := h.1.n
      have h4 := h.1.r4
      unfold a_cb at q ⊢
      by_cases k : z_isn a (s_n (x_s x)) = true
      · rw [if_pos k] at q ⊢
        obtain ⟨b, hb, rfl⟩ := z_isn_t (by omega) k
        rw [nI_clamp (by omega)] at q ⊢
        by_cases k2 : v_w (x_v x) b = 2
        · rw [if_pos k2] at q
          have := h.1.1.lt hb k2
          exact absurd (zn_ge0 (by omega)) q
        · rw [if_neg k2]
      · rw [if_neg k]
    rw [ev] at R3
    exact ⟨_, rfl, rfl, h.act hF R3 H3 Ro, hF.toWa⟩
theorem cp_shot (h : cA x σ) (a b : Int32) : z_Ci 6 zm_Walls_shot [.inr 0, .inl a, .inl b] σ (fun r u => r = (to_shot x a b).1 ∧ cA (to_shot x a b).2 u ∧ zW σ u) := by
  refine z_Ci_of (by decide) (Nat.le_of_ble_eq_true rfl) (fun Γ hd he => ?_)
  show z_J Γ zm_Walls_shot 0 [some (.inr 0), some (.inl a), some (.inl b), none] [] σ
  refine zb_Walls_shot_0 (cc_mark h.1 h.2.1) (by omega) (fun u1 h1 => ?_)
  obtain ⟨H1, M1, F1⟩ := h1
  have R1 := h.1.cX13 F1
  refine zb_Walls_shot_11 (cc_shoot z_c33 R1 a b) (by omega) (fun r u2 h2 => ?_)
  obtain ⟨rfl, R2, B2, F2⟩ := h2
  have F2' : cX (fun q => 33 ≤ q ∧ q ≤ 42) (fun _ => False) u1 u2 := F2.cX (by show ¬ (33 ≤ 0 ∧ 0 ≤ 33 + 9); omega) (fun q hq => hq)
  refine zb_Walls_shot_21 (cc_keepIfDone (H1.keepX F2' (by omega) (by omega)) (M1.keepX F2' (by omega) (by omega)) _) (by omega) (fun r u3 h3 => ?_)
  obtain ⟨rfl, H3, F3⟩ := h3
  have hF : cX c_aO c_qK σ u3 := ((F1.a13 (by unfold c_aO; omega)).tr (F2'.a13 (by unfold c_aO; omega))).tr (F3.a13 (by unfold c_aO; omega))
  have R3 := R2.cX33 F3 (by omega)
  have Ro : cRow (x_r x) u3 := ((h.2.2.2.2.1.keepX F1 (by omega) id).keepX F2' (by omega) id).keepX F3 (by omega) id
  refine zb_Walls_shot_24 (fun q => ?_) (fun q => ?_)
  · refine zb_Walls_shot_40 ?_
    have q' := Int32.not_le.mpr q
    rw [if_neg q'] at H3
    rw [he, to_shot, if_neg q']
    have ev : (a_sh (x_s x) (x_v x) a b).2.1 = x_v x := by
      rcases a_sh0_c h.1.1 a b with ⟨q1, q2⟩ | ⟨c', n', rfl, rfl, hc, h1, h4, q1, q2⟩
      · rw [q2]
      · exfalso
        apply q'
        rw [q2]
        have hI : aI (x_s x) (a_shi (x_v x) c' n').1 := aI_shi h.1.1 hc n'
        have h36 : a_h (x_s x) (a_shi (x_v x) c' n').1 c' ≤ 36 := hI.h36 hc
        exact zn_ge0 (by omega)
    rw [ev] at R3
    exact ⟨_, rfl, rfl, h.act hF R3 H3 Ro, hF.toWa⟩
  · have q' := Int32.not_lt.mp q
    rw [if_pos q'] at H3
    refine zb_Walls_shot_29 (cc_tell _ _) (by omega) (fun u4 h4 => ?_)
    obtain ⟨r4, F4⟩ := h4
    refine zb_Walls_shot_40 ?_
    have e13 : u3.1 33 13 = nI (a_sh (x_s x) (x_v x) a b).2.2 := by
      rw [(F3.1 33 (by decide) (by decide)).1]
      rcases B2 with e | e | e
      · rw [e] at q'; exact absurd q' (by decide)
      · rw [e] at q'; exact absurd q' (by decide)
      · exact e
    rw [e13] at r4
    rw [he, to_shot, if_pos q']
    have hF4 : cX c_aO c_qK σ u4 := hF.tr (F4.mono (by unfold c_aO; omega) (fun _ h => h))
    exact ⟨_, rfl, rfl, h.act hF4 (R3.cX33 F4 (by omega)) (H3.keepX F4 (by omega) (by omega)) r4, hF4.toWa⟩
theorem cp_days (h : cA x σ) (hy : x_y x) (a : Int32) : z_Ci 6 zm_Walls_days [.inr 0, .inl a] σ (fun r u => r = (to_days x a).1 ∧ cA (to_days x a).2 u ∧ zW σ u) := by
  unfold x_y at hy
  refine z_Ci_of (by decide) (Nat.le_of_ble_eq_true rfl) (fun Γ hd he => ?_)
  show z_J Γ zm_Walls_days 0 [some (.inr 0), some (.inl a), none] [] σ
  refine zb_Walls_days_0 (cc_mark h.1 h.2.1) (by omega) (fun u1 h1 => ?_)
  obtain ⟨H1, M1, F1⟩ := h1
  have R1 := h.1.cX13 F1
  have e0 : (0 : Int32) = nI 0 := rfl
  by_cases k : nI 0 ≤ a ∧ a ≤ nI 99
  · obtain ⟨n, hn, rfl⟩ := z_0to (by decide) k
    have et : to_days x (nI n) = (nI (v_y (x_v x) + n), x_act x (a_days (x_s x) (x_v x) n).1 (if n = 0 then x_H x else a_rem (x_H x) (x_v x)) [nI (a_days (x_s x) (x_v x) n).2.1, nI (a_days (x_s x) (x_v x) n).2.2]) := by
      unfold to_days
      rw [if_pos k, nI_clamp (by omega)]
    refine zb_Walls_days_11 (cc_passDays z_c33 R1 hn) (by omega) (fun r u2 h2 => ?_)
    obtain ⟨rfl, R2, c1, c2, F2⟩ := h2
    have F2' : cX (fun q => 33 ≤ q ∧ q ≤ 42) (fun _ => False) u1 u2 := F2.cX (by show ¬ (33 ≤ 0 ∧ 0 ≤ 33 + 9); omega) (fun q hq => hq)
    refine zb_Walls_days_19 (fun _ => ?_) (fun q => absurd (zn_ge0 (by omega)) q)
    have key : ∀ u3, cH (x_s x) (if n = 0 then x_H x else a_rem (x_H x) (x_v x)) u3 → cX (fun q => q = 11) (fun _ => False) u2 u3 → z_J Γ zm_Walls_days 37 [some (.inr 0), none, some (.inl (nI (v_y (x_v x) + n)))] [] u3 := by
      intro u3 H3 F3
      have hF : cX c_aO c_qK σ u3 := ((F1.a13 (by unfold c_aO; omega)).tr (F2'.a13 (by unfold c_aO; omega))).tr (F3.a13 (by unfold c_aO; omega))
      have R3 := R2.cX33 F3 (by omega)
      refine zb_Walls_days_37 (cc_tellTwo _ _ _) (by omega) (fun u4 h4 => ?_)
      obtain ⟨r4, F4⟩ := h4
      refine zb_Walls_days_55 ?_
      rw [(F3.1 33 (by decide) (by decide)).1, c1, c2] at r4
      have hF4 : cX c_aO c_qK σ u4 := hF.tr (F4.mono (by unfold c_aO; omega) (fun _ h => h))
      rw [he, et]
      exact ⟨_, rfl, rfl, h.act hF4 (R3.cX33 F4 (by omega)) (H3.keepX F4 (by omega) (by omega)) r4, hF4.toWa⟩
    have H2 := H1.keepX F2' (by omega) (by omega)
    refine zb_Walls_days_26 (fun q => ?_) (fun q => ?_)
    · rw [e0, zn_le (by omega) (by omega)] at q
      refine key u2 ?_ cX.rf
      rw [if_pos (by omega)]
      exact H2
    · rw [e0, zn_le (by omega) (by omega)] at q
      refine zb_Walls_days_30 (cc_keepMark H2 (M1.keepX F2' (by omega) (by omega))) (by omega) (fun u3 h3 => ?_)
      refine key u3 ?_ h3.2
      rw [if_neg (by omega)]
      exact h3.1
  · have k' : a < 0 ∨ nI 99 < a := by
      by_cases k1 : a < 0
      · exact Or.inl k1
      · refine Or.inr (Int32.not_le.mp (fun q => k ⟨?_, q⟩))
        rw [← e0]
        exact Int32.not_lt.mp k1
    refine zb_Walls_days_11 (cc_passDaysNo z_c33 k') (by omega) (fun r u2 h2 => ?_)
    obtain ⟨rfl, rfl⟩ := h2
    refine zb_Walls_days_19 (fun q => absurd q (by decide)) (fun _ => ?_)
    refine zb_Walls_days_24 ?_
    rw [he, to_days, if_neg k]
    have hF : cX c_aO c_qK σ u2 := F1.a13 (by unfold c_aO; omega)
    exact ⟨_, rfl, rfl, h.act hF R1 H1 (h.2.2.2.2.1.keepX F1 (by omega) id), hF.toWa⟩
theorem cp_undo (h : cA x σ) : z_Ci 3 zm_Walls_undo [.inr 0] σ (fun r u => r = (to_undo x).1 ∧ cA (to_undo x).2 u ∧ zW σ u) := by
  refine z_Ci_of (by decide) (Nat.le_of_ble_eq_true rfl) (fun Γ hd he => ?_)
  show z_J Γ zm_Walls_undo 0 [some (.inr 0)] [] σ
  have hl := h.2.1.1
  have e0 : (0 : Int32) = nI 0 := rfl
  cases hH : x_H x with
  | nil =>
    refine zb_Walls_undo_0 (fun q => ?_) (fun _ => ?_)
    · rw [h.2.1.2.1, hH] at q
      exact absurd rfl q
    refine zb_Walls_undo_10 ?_
    have et : to_undo x = (-1, x) := by
      unfold to_undo
      split
      · rfl
      · rename_i w H e
        rw [hH] at e
        exact absurd e (by simp)
    rw [he, et]
    exact ⟨_, rfl, rfl, h, zW.rf⟩
  | cons w H =>
    have hne : 0 < (x_H x).length := by rw [hH]; simp
    refine zb_Walls_undo_0 (fun _ => ?_) (fun q => ?_)
    rotate_left
    · rw [h.2.1.2.1, e0, zn_eq (by omega) (by omega)] at q
      omega
    have hlast : (x_H x).getLast? = some ((w :: H).getLast (by simp)) := by
      rw [hH, List.getLast?_eq_some_getLast]
    refine zb_Walls_undo_12 (cc_restore h.1.2.1 h.2.1 hlast) (by omega) (fun u1 h1 => ?_)
    obtain ⟨R1, H1, F1⟩ := h1
    refine zb_Walls_undo_23 ?_
    have et : to_undo x = (nI (x_H x).dropLast.length, x_act x ((w :: H).getLast (by simp)) (x_H x).dropLast (x_r x)) := by
      unfold to_undo
      split
      · rename_i e
        rw [hH] at e
        exact absurd e (by simp)
      · rename_i w' H' e
        rw [hH] at e
        simp only [List.cons.injEq] at e
        obtain ⟨rfl, rfl⟩ := e
        rfl
    rw [he, et, H1.2.1]
    have hF : cX c_aO c_qK σ u1 := F1.a13 (by unfold c_aO; omega)
    exact ⟨_, rfl, rfl, h.act hF R1 H1 (h.2.2.2.2.1.keepX F1 (by omega) id), hF.toWa⟩
theorem cp_keep (h : cA x σ) (a : Int32) : z_Ci 2 zm_Walls_keep [.inr 0, .inl a] σ (fun r u => r = (to_keep x a).1 ∧ cA (to_keep x a).2 u ∧ zW σ u) := by
  refine z_Ci_of (by decide) (Nat.le_of_ble_eq_true rfl) (fun Γ hd he => ?_)
  show z_J Γ zm_Walls_keep 0 [some (.inr 0), some (.inl a)] [] σ
  have e0 : (0 : Int32) = nI 0 := rfl
  have no : ¬ (nI 0 ≤ a ∧ a ≤ nI 1) → z_J Γ zm_Walls_keep 9 [none, none] [] σ := fun q => by
    refine zb_Walls_keep_9 ?_
    rw [he, to_keep, if_neg q]
    exact ⟨_, rfl, rfl, h, zW.rf⟩
  refine zb_Walls_keep_0 (fun k => no (fun q => ?_)) (fun k => ?_)
  · rw [e0] at k
    exact absurd q.1 (Int32.not_le.mpr k)
  refine zb_Walls_keep_4 (fun k2 => ?_) (fun k2 => no (fun q => ?_))
  rotate_left
  · exact k2 (Int32.lt_of_le_of_lt q.2 (by decide))
  obtain ⟨n, hn, rfl⟩ := zn_0le (x := a) (n := 2) k (by omega) (Int32.not_le.mpr k2)
  have et : to_keep x (nI n) = (nI 1, (x_s x, x_v x, x_H x, (x_K x, x_T x), (x_L x, x_X x), x_r x, x_e x, fun i => if i = n then some (x_v x) else x_k x i, x_m x)) := by
    unfold to_keep
    rw [if_pos ⟨nI_le (by omega) (by omega), nI_le (by omega) (by omega)⟩, nI_clamp (by omega)]
  refine zb_Walls_keep_11 (k1 := n) (z_ixn hn) (cc_writePage z_c33 h.1 (zk_row3 hn) (by omega)) (by omega) (fun u1 h1 => ?_)
  obtain ⟨P1, F1⟩ := h1
  refine zb_Walls_keep_24 (k1 := n) (z_ixn hn) ?_
  have eb : vp_nar .boolean (nI 1) = nI 1 := by decide
  rw [he, et, eb]
  have hF : cX (fun q => q = 4 + n ∨ q = 6) (fun _ => False) σ (z_pI u1 6 n (nI 1)) := cX.pR (F1.cX (by omega) (fun q hq => Or.inl (by omega))) (Or.inr rfl) (by decide)
  refine ⟨_, rfl, rfl, ⟨h.1.cX33 hF (by omega), h.2.1.keepX hF (by omega) (by omega), h.2.2.1.keepX hF (by omega), h.2.2.2.1.keepX hF (by omega) id, h.2.2.2.2.1.keepX hF (by omega) id, h.2.2.2.2.2.1.keepX hF (by omega), fun i hi => ?_⟩, hF.toW (by omega)⟩
  rw [z_pI_ne (show 4 + i ≠ 6 by omega)]
  by_cases e : i = n
  · subst e
    refine ⟨fun hw => ?_, fun w hw => ?_⟩
    · change (if i = i then some (x_v x) else x_k x i) = none at hw
      rw [if_pos rfl] at hw
      exact absurd hw (by simp)
    · change (if i = i then some (x_v x) else x_k x i) = some w at hw
      rw [if_pos rfl, Option.some.injEq] at hw
      subst hw
      refine ⟨z_pI_at _ _ _ _, h.1.1, ?_⟩
      rw [show 4 + i = 3 + 1 + i by omega]
      exact P1
  · rw [z_pI_ne2 e, (F1 6 (by omega)).1, (F1 (4 + i) (by omega)).1]
    have h7 := h.2.2.2.2.2.2 i hi
    refine ⟨fun hw => h7.1 ?_, fun w hw => h7.2 w ?_⟩
    · change (if i = n then some (x_v x) else x_k x i) = none at hw
      rw [if_neg e] at hw
      exact hw
    · change (if i = n then some (x_v x) else x_k x i) = some w at hw
      rw [if_neg e] at hw
      exact hw
theorem cp_again (h : cA x σ) (a : Int32) : z_Ci 2 zm_Walls_again [.inr 0, .inl a] σ (fun r u => r = (to_again x a).1 ∧ cA (to_again x a).2 u ∧ zW σ u) := by
  refine z_Ci_of (by decide) (Nat.le_of_ble_eq_true rfl) (fun Γ hd he => ?_)
  show z_J Γ zm_Walls_again 0 [some (.inr 0), some (.inl a)] [] σ
  have e0 : (0 : Int32) = nI 0 := rfl
  have no : to_again x a = (nI 0, x) → z_J Γ zm_Walls_again 18 [none, none] [] σ := fun q => by
    refine zb_Walls_again_18 ?_
    rw [he, q]
    exact ⟨_, rfl, rfl, h, zW.rf⟩
  refine zb_Walls_again_0 (fun k => no ?_) (fun k => ?_)
  · unfold to_again
    rw [e0] at k
    rw [if_neg (fun q => absurd q.1 (Int32.not_le.mpr k))]
  refine zb_Walls_again_4 (fun k2 => no ?_) (fun k2 => ?_)
  · unfold to_again
    rw [if_neg (fun q => absurd (Int32.le_trans k2 q.2) (by decide))]
  obtain ⟨n, hn, rfl⟩ := zn_0le (x := a) (n := 2) k (by omega) k2
  have et : to_again x (nI n) = (match x_k x n with
    | some w => (nI 1, x_act x w [] (x_r x))
    | none => (nI 0, x)) := by
    unfold to_again
    rw [if_pos ⟨nI_le (by omega) (by omega), nI_le (by omega) (by omega)⟩, nI_clamp (by omega)]
    cases x_k x n <;> rfl
  have h7 := h.2.2.2.2.2.2 n hn
  cases hk : x_k x n with
  | none =>
    rw [hk] at et
    refine zb_Walls_again_9 (k1 := n) (z_ixn hn) (fun q => absurd (h7.1 hk) q) (fun _ => no et)
  | some w =>
    rw [hk] at et
    obtain ⟨w1, w2, w3⟩ := h7.2 w hk
    refine zb_Walls_again_9 (k1 := n) (z_ixn hn) (fun _ => ?_) (fun q => ?_)
    rotate_left
    · rw [w1] at q
      exact absurd q (by decide)
    refine zb_Walls_again_20 (k1 := n) (z_ixn hn) (cc_readPage z_c33 w2 h.1.2.1 (zk_row3 hn) (by omega) (by rw [show 3 + 1 + n = 4 + n by omega]; exact w3)) (by omega) (fun u1 h1 => ?_)
    obtain ⟨R1, F1⟩ := h1
    have F1' : cX (fun q => 33 ≤ q ∧ q ≤ 42) (fun _ => False) σ u1 := F1.cX (by show ¬ (33 ≤ 0 ∧ 0 ≤ 33 + 9); omega) (fun q hq => hq)
    obtain ⟨nx, n1, n2⟩ := h.nx
    refine zb_Walls_again_33 (cc_clear (x_s x) ⟨nx, n1, by rw [(F1'.1 11 (by decide) (by decide)).1]; exact n2⟩) (by omega) (fun u2 h2 => ?_)
    obtain ⟨H2, F2⟩ := h2
    refine zb_Walls_again_40 ?_
    rw [he, et]
    have hF : cX c_aO c_qK σ u2 := (F1'.a13 (by unfold c_aO; omega)).tr (F2.a13 (by unfold c_aO; omega))
    exact ⟨_, rfl, rfl, h.act hF (R1.cX33 F2 (by omega)) H2 ((h.2.2.2.2.1.keepX F1' (by omega) id).keepX F2 (by omega) id), hF.toWa⟩
end
