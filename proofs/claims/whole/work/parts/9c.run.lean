/-! what stays true of every run of calls -/
def xQ (B : Nat) (x : tX) : Prop := aT (x_s x) (x_v x) B ∧ (∀ w ∈ x_H x, aT (x_s x) w B) ∧ (∀ i w, x_k x i = some w → aT (x_s x) w B) ∧ (∀ c t, x_e x c = some t → t ≤ 99) ∧ x_m x ≤ B
theorem a_rem_mem {H : List aV} {v w : aV} (h : w ∈ a_rem H v) : w ∈ H ∨ w = v := by
  unfold a_rem at h
  rcases List.mem_append.mp h with q | q
  · left
    by_cases e : H.length = 12
    · rw [if_pos e] at q; exact List.mem_of_mem_drop q
    · rw [if_neg e] at q; exact q
  · exact Or.inr (List.mem_singleton.mp q)
section
variable {x : tX} {B : Nat}
theorem xQ.mono {B' : Nat} (h : xQ B x) (hb : B ≤ B') : xQ B' x := ⟨h.1.mono hb, fun w hw => (h.2.1 w hw).mono hb, fun i w hw => (h.2.2.1 i w hw).mono hb, h.2.2.2.1, Nat.le_trans h.2.2.2.2 hb⟩
theorem xQ.up (h : xQ B x) : xQ (B + 2079) x := h.mono (Nat.le_add_right _ _)
theorem xQ.act {v : aV} {H : List aV} {r : List Int32} (h : xQ B x) (hv : aT (x_s x) v (B + 2079)) (hH : ∀ w ∈ H, w ∈ x_H x ∨ w = x_v x) : xQ (B + 2079) (x_act x v H r) := by
  have g := h.up
  exact ⟨hv, fun w hw => (hH w hw).elim (g.2.1 w) (fun e => by rw [e]; exact g.1), g.2.2.1, g.2.2.2.1, g.2.2.2.2⟩
theorem aT.u {s : aS} {v : aV} (h : aT s v B) : aT s v (B + 2079) := h.mono (Nat.le_add_right _ _)
variable (hI : aI (x_s x) (x_v x)) (hB : B + 2079 < 1073741824)
theorem xq_lay (hI : aI (x_s x) (x_v x)) (h : xQ B x) (a b : Int32) : xQ (B + 2079) (to_lay x a b).2 := by
  unfold to_lay
  split
  · exact h.act (aT_lay hI h.1 a b).2.u (fun w hw => a_rem_mem hw)
  · exact h.up
theorem xq_lend (hI : aI (x_s x) (x_v x)) (h : xQ B x) (a b c : Int32) : xQ (B + 2079) (to_lend x a b c).2 := by
  unfold to_lend
  split
  · exact h.act (aT_ln hI h.1 a b c).2.u (fun w hw => a_rem_mem hw)
  · exact h.up
theorem xq_recall (hI : aI (x_s x) (x_v x)) (h : xQ B x) (a : Int32) : xQ (B + 2079) (to_recall x a).2 := by
  unfold to_recall
  split
  · exact h.act (aT_cb hI h.1 a).2.u (fun w hw => a_rem_mem hw)
  · exact h.up
theorem xq_shot (hI : aI (x_s x) (x_v x)) (h : xQ B x) (a b : Int32) : xQ (B + 2079) (to_shot x a b).2 := by
  unfold to_shot
  split
  · exact h.act (aT_sh hI h.1 a b).2.u (fun w hw => a_rem_mem hw)
  · exact h.up
theorem xq_days (hI : aI (x_s x) (x_v x)) (hB : B + 2079 < 1073741824) (h : xQ B x) (a : Int32) : xQ (B + 2079) (to_days x a).2 := by
  unfold to_days
  split
  · rename_i q
    have h99 : a.toNatClampNeg ≤ 99 := by
      have h0 : ¬ a < 0 := by rw [← nI_0]; exact Int32.not_lt.mpr q.1
      obtain ⟨i, hi, rfl⟩ := nI_of h0
      rw [nI_clamp hi]
      exact (nI_leI hi (by decide)).mp q.2
    have hd := (aT_dn hI h.1 (0, 0) a.toNatClampNeg (by omega)).2
    rw [← a_days_dn] at hd
    refine h.act (hd.mono (by omega)) (fun w hw => ?_)
    by_cases e : a.toNatClampNeg = 0
    · rw [if_pos e] at hw; exact Or.inl hw
    · rw [if_neg e] at hw; exact a_rem_mem hw
  · exact h.up
theorem xq_low (h : xQ B x) (a : Int32) : xQ (B + 2079) (to_low x a).2 := by
  unfold to_low
  split <;> exact h.up
theorem xq_weakest (h : xQ B x) : xQ (B + 2079) (to_weakest x).2 := by
  unfold to_weakest
  split <;> exact h.up
theorem xq_room (h : xQ B x) (a : Int32) : xQ (B + 2079) (to_room x a).2 := by
  unfold to_room
  split
  · split <;> exact h.up
  · exact h.up
theorem xq_home (h : xQ B x) : xQ (B + 2079) (to_home x).2 := h.up
theorem xq_sign (h : xQ B x) (a : Int32) : xQ (B + 2079) (to_sign x a).2 := by
  unfold to_sign
  split <;> exact h.up
theorem xq_end (h : xQ B x) (a : Int32) : xQ (B + 2079) (to_end x a).2 := by
  unfold to_end
  split <;> exact h.up
theorem xq_seen (h : xQ B x) (a b : Int32) : xQ (B + 2079) (to_seen x a b).2 := by
  unfold to_seen
  split
  · rename_i q
    have h99 : b.toNatClampNeg ≤ 99 := by
      have h0 : ¬ b < 0 := by rw [← nI_0]; exact Int32.not_lt.mpr q.2.1
      obtain ⟨i, hi, rfl⟩ := nI_of h0
      rw [nI_clamp hi]
      exact (nI_leI hi (by decide)).mp q.2.2
    have g := h.up
    refine ⟨g.1, g.2.1, g.2.2.1, fun c t ht => ?_, g.2.2.2.2⟩
    have ht : (if c = a.toNatClampNeg then some b.toNatClampNeg else x_e x c) = some t := ht
    by_cases e : c = a.toNatClampNeg
    · rw [if_pos e] at ht; cases ht; exact h99
    · rw [if_neg e] at ht; exact g.2.2.2.1 c t ht
  · exact h.up
theorem xq_forget (h : xQ B x) : xQ (B + 2079) (to_forget x).2 := by
  have g := h.up
  exact ⟨g.1, g.2.1, g.2.2.1, fun c t ht => (by cases ht), g.2.2.2.2⟩
theorem xq_keep (h : xQ B x) (a : Int32) : xQ (B + 2079) (to_keep x a).2 := by
  unfold to_keep
  split
  · have g := h.up
    refine ⟨g.1, g.2.1, fun i w hw => ?_, g.2.2.2.1, g.2.2.2.2⟩
    have hw : (if i = a.toNatClampNeg then some (x_v x) else x_k x i) = some w := hw
    by_cases e : i = a.toNatClampNeg
    · rw [if_pos e] at hw; cases hw; exact g.1
    · rw [if_neg e] at hw; exact g.2.2.1 i w hw
  · exact h.up
theorem xq_again (h : xQ B x) (a : Int32) : xQ (B + 2079) (to_again x a).2 := by
  unfold to_again
  split
  · cases e : x_k x a.toNatClampNeg with
    | none => exact h.up
    | some w => exact h.act (h.up.2.2.1 _ w e) (fun w hw => by cases hw)
  · exact h.up
theorem xq_undo (h : xQ B x) : xQ (B + 2079) (to_undo x).2 := by
  unfold to_undo
  split
  · exact h.up
  · rename_i w H e
    refine h.act (h.up.2.1 _ ?_) (fun w hw => Or.inl ((List.dropLast_sublist _).subset hw))
    rw [e]
    exact List.getLast_mem _
theorem xq_sheet (h : xQ B x) (k n f st : Int32) : xQ (B + 2079) (to_sheet x k n f st).2 := by
  unfold to_sheet
  split
  · split <;> exact h.up
  · exact h.up
theorem xq_spares (h : xQ B x) (a : Int32) : xQ (B + 2079) (to_spares x a).2 := by
  unfold to_spares
  split <;> exact h.up
theorem xq_spare (h : xQ B x) (a : Int32) : xQ (B + 2079) (to_spare x a).2 := by
  unfold to_spare
  split
  · split <;> exact h.up
  · exact h.up
theorem xq_out (h : xQ B x) (a : Int32) : xQ (B + 2079) (to_out x a).2 := by
  unfold to_out
  split
  · split <;> exact h.up
  · exact h.up
theorem xq_look (h : xQ B x) : xQ (B + 2079) (to_look x).2 := by
  unfold to_look
  split <;> exact h.up
theorem xq_stack (h : xQ B x) (a b : Int32) : xQ (B + 2079) (to_stack x a b).2 := by
  unfold to_stack
  split
  · split <;> exact h.up
  · exact h.up
theorem xq_rests (h : xQ B x) (a b : Int32) : xQ (B + 2079) (to_rests x a b).2 := by
  unfold to_rests
  split <;> exact h.up
theorem xq_years (h : xQ B x) (a b : Int32) : xQ (B + 2079) (to_years x a b).2 := by
  unfold to_years
  split
  · exact h.up
  · split <;> exact h.up
theorem xq_rule (h : xQ B x) : xQ (B + 2079) (to_rule x).2 := by
  unfold to_rule
  split <;> exact h.up
theorem xq_law (h : xQ B x) : xQ (B + 2079) (to_law x).2 := by
  unfold to_law
  split <;> exact h.up
theorem xq_bld (h : xQ B x) (w k : Nat) : xQ (B + 2079) (to_bld x w k).2 := by
  unfold to_bld
  split <;> exact h.up
theorem xq_builds (h : xQ B x) (w : Nat) (a : Int32) : xQ (B + 2079) (to_builds w x a).2 := by
  unfold to_builds
  split
  · split
    · exact xq_bld h _ _
    · exact h.up
  · exact h.up
theorem xq_tallest (h : xQ B x) : xQ (B + 2079) (to_tallest x).2 := by
  unfold to_tallest
  split <;> exact h.up
theorem xq_play (h : xQ B x) (a : Int32) : xQ (B + 2079) (to_play x a).2 := by
  unfold to_play
  split
  · split <;> exact h.up
  · exact h.up
/-- nothing is lent that was not: what new books and readers leave -/
theorem aT_grow {s s' : aS} {v w : aV} (h : aT s v B) (hI : aI s v) (h12 : s_n s' ≤ 12) (hn : s_n s ≤ s_n s') (hl : ∀ r, r < s_r s → s_l s' r = s_l s r) (hs : ∀ b, b < s_n s' → v_w w b = 2 → b < s_n s ∧ v_w v b = 2 ∧ v_h w b = v_h v b ∧ v_d w b = v_d v b) (hy : v_y w = v_y v) : aT s' w B := by
  obtain ⟨g1, g2, g3⟩ := h
  have hn12 : s_n s ≤ 12 := hI.1.1
  refine ⟨?_, fun b hb hw => ?_, by omega⟩
  · rw [a_L3_n h12]
    rw [a_L3_n hn12] at g1
    intro r hr
    by_cases hrr : r < s_r s
    · refine Nat.le_trans (n_bc_mono (fun i hi => ?_)) (g1 r hrr)
      rw [a_lo_bit, decide_eq_true_eq] at hi ⊢
      obtain ⟨c1, c2, c3⟩ := hi
      obtain ⟨d1, d2, d3, d4⟩ := hs i c1 c2
      exact ⟨d1, d2, by rw [← d3]; exact c3⟩
    · have e0 : a_lo w r (s_n s') = 0 := Nat.eq_of_testBit_eq (fun i => by
        rw [a_lo_bit, Nat.zero_testBit, decide_eq_false_iff_not]
        rintro ⟨c1, c2, c3⟩
        obtain ⟨d1, d2, d3, d4⟩ := hs i c1 c2
        have := hI.2.2.2.2.2.1 i d1 d2
        omega)
      rw [e0]
      exact Nat.le_trans (by decide : n_bc 0 ≤ 0) (Nat.zero_le 3)
  · obtain ⟨d1, d2, d3, d4⟩ := hs b hb hw
    have hr := hI.2.2.2.2.2.1 b d1 d2
    have := g2 b d1 d2
    rw [d3, d4, hy, hl _ hr]
    exact this
theorem bk_s_l (s : aS) (X : Nat → Nat) : ∀ k, s_l (bk_s s X k) = s_l s
  | 0 => rfl
  | k + 1 => bk_s_l s X k
theorem rs_s_l (s : aS) (X : Nat → Nat) : ∀ k r, r < s_r s → s_l (rs_s s X k) r = s_l s r
  | 0, _, _ => rfl
  | k + 1, r, hr => by
    show a_up (s_l (rs_s s X k)) (s_r (rs_s s X k)) _ r = _
    have h1 := (rs_s_n s X k).2.2
    unfold a_up
    rw [if_neg (by omega)]
    exact rs_s_l s X k r hr
theorem xq_books (hI : aI (x_s x) (x_v x)) (hI' : aI (x_s (to_books x).2) (x_v (to_books x).2)) (h : xQ B x) : xQ (B + 2079) (to_books x).2 := by
  revert hI'
  unfold to_books
  split
  · intro _; exact h.up
  · split
    · intro _; exact h.up
    · intro hI'
      have g := h.up
      have hk := bk_s_n (x_s x) (x_X x) ((x_L x + 1) / 3)
      refine ⟨?_, fun w hw => (by cases hw), fun i w hw => (by cases hw), g.2.2.2.1, ?_⟩
      · refine aT_grow (s := x_s x) (v := x_v x) g.1 hI hI'.1.1 (by show _ ≤ s_n (bk_s _ _ _); omega) (fun r _ => by show s_l (bk_s _ _ _) r = _; rw [bk_s_l]) (fun b hb hw => ?_) rfl
        have hb2 : b < s_n (x_s x) := by
          rcases Nat.lt_or_ge b (s_n (x_s x)) with q | q
          · exact q
          · have := hI.2.2.1 b q
            have hw : v_w (x_v x) b = 2 := hw
            omega
        exact ⟨hb2, hw, rfl, rfl⟩
      · show x_m x + 1 ≤ _
        have := h.2.2.2.2
        omega
theorem xq_readers (hI : aI (x_s x) (x_v x)) (hI' : aI (x_s (to_readers x).2) (x_v (to_readers x).2)) (h : xQ B x) : xQ (B + 2079) (to_readers x).2 := by
  revert hI'
  unfold to_readers
  split
  · intro _; exact h.up
  · split
    · intro _; exact h.up
    · intro hI'
      have g := h.up
      have hk := rs_s_n (x_s x) (x_X x) ((x_L x + 1) / 2)
      refine ⟨?_, fun w hw => (by cases hw), fun i w hw => (by cases hw), g.2.2.2.1, ?_⟩
      · refine aT_grow (s := x_s x) (v := x_v x) g.1 hI hI'.1.1 (by show _ ≤ s_n (rs_s _ _ _); omega) (fun r hr => rs_s_l _ _ _ r hr) (fun b hb hw => ?_) rfl
        have hb : b < s_n (rs_s (x_s x) (x_X x) ((x_L x + 1) / 2)) := hb
        exact ⟨by omega, hw, rfl, rfl⟩
      · show x_m x + 1 ≤ _
        have := h.2.2.2.2
        omega
theorem wl_no2 (s : aS) (v : aV) (X : Nat → Nat) : ∀ i b, b < s_n s → v_w (wl_st s v X i).2 b ≠ 2
  | 0, b, hb => by
    show (if b < s_n s then 0 else v_w v b) ≠ 2
    rw [if_pos hb]; decide
  | i + 1, b, hb => by
    have ih := wl_no2 s v X i b hb
    rw [wl_st]
    split
    · exact ih
    · split
      · exact ih
      · show a_up (v_w (wl_st s v X i).2) (X i - 97) 1 b ≠ 2
        unfold a_up
        split
        · decide
        · exact ih
theorem xq_wall (hI : aI (x_s x) (x_v x)) (h : xQ B x) : xQ (B + 2079) (to_wall x).2 := by
  unfold to_wall
  split
  · exact h.up
  · split
    · have g := h.up
      refine ⟨?_, fun w hw => (by cases hw), fun i w hw => (by cases hw), fun c t ht => (by cases ht), ?_⟩
      · exact aT_grow (s := x_s x) (v := x_v x) g.1 hI hI.1.1 (Nat.le_refl _) (fun _ _ => rfl) (fun b hb hw => absurd hw (wl_no2 _ _ _ _ b hb)) (wl_y (s := x_s x) (v := x_v x) (x_X x) (x_L x)).1
      · show x_m x + 1 ≤ _
        have := h.2.2.2.2
        omega
    · exact h.up
theorem xq_siege (hI : aI (x_s x) (x_v x)) (hB : B + 2079 < 1073741824) (h : xQ B x) : xQ (B + 2079) (to_siege x).2 := by
  unfold to_siege
  split
  · exact h.up
  · rename_i hb
    obtain ⟨hok, hfin⟩ := sc_b_none hb
    obtain ⟨hA20, hAI⟩ := g_acts_I hok hfin
    have hle : g_n (x_E x) (x_s x) (g_acts (g_st (x_X x) (x_L x))) (x_v x) ≤ (g_acts (g_st (x_X x) (x_L x))).length := by
      unfold g_n
      cases e : sc_b (g_sc (x_E x) (x_s x) (g_acts (g_st (x_X x) (x_L x))) (x_v x)) true (g_acts (g_st (x_X x) (x_L x))).length with
      | none => exact Nat.le_refl _
      | some p => exact sc_b_lt e
    have gv := (g_v_I (E := x_E x) (A := g_acts (g_st (x_X x) (x_L x))) hI h.1 hAI _ hle (by omega)).2
    have g := h.up
    refine ⟨gv.mono (by omega), fun w hw => ?_, g.2.2.1, g.2.2.2.1, g.2.2.2.2⟩
    have hw : w ∈ (if g_n (x_E x) (x_s x) (g_acts (g_st (x_X x) (x_L x))) (x_v x) = 0 then x_H x else a_rem (x_H x) (x_v x)) := hw
    split at hw
    · exact g.2.1 w hw
    · rcases a_rem_mem hw with q | q
      · exact g.2.1 w q
      · rw [q]; exact g.1
end
