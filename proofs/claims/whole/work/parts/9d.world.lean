def y_perm : List Nat := [0, 1, 2, 51, 52, 53, 54, 55, 33, 34, 35, 36, 37, 38, 39, 40, 41, 42, 43, 44, 45, 46, 47, 48, 49, 50, 56, 57, 58, 59, 60, 61, 62, 3, 4, 5, 6, 7, 8, 9, 10, 11, 12, 13, 14, 15, 16, 17, 18, 19, 20, 21, 22, 23, 24, 25, 26, 27, 28, 29, 30, 31, 32, 63, 64, 65, 66, 67, 68, 69, 70, 71, 72, 74, 75, 76, 77, 78, 79, 80, 81, 82, 83, 84, 85, 86, 87, 88, 73, 0, 89]
/-- where the object o lies; 89: the script, 90: the law's row of one long -/
def y_ad (a b : Nat) : Nat → Nat := fun o => if o = 89 then b else a + y_perm.getD o 0
/-- the state behind the constructors -/
def y_σ0 : zS := (fun o => if o = 7 then yO_m1 else if o = 33 ∨ o = 43 then (fun k => if k = 6 then nI 1 else 0) else if o = 53 ∨ o = 58 then (fun k => if k = 1 then nI 3 else 0) else if o = 54 ∨ o = 59 then yU_f else if o = 26 then (fun k => if k = 4 then nI 1 else 0) else if o = 63 then (fun k => if k = 4 then nI 1 else 0) else fun _ => 0,
  fun o k => if o = 0 ∧ k = 6 then 53 else if o = 0 ∧ k = 7 then 58 else if o = 63 ∧ k = 20 then 88 else 89)
def y_all (cy : Nat → ClassId) (a : Nat) : va_W := ((a, .inr (7, yf_Walls (a + 1))) :: yw_Walls cy (a + 1)) ++ ((a + 63, .inr (8, yf_Model (a + 63 + 1))) :: yw_Model cy (a + 63 + 1))

theorem va_P.spl {D : va_G} {w1 w2 : va_W} {H : Heap} (h : va_P D zC (w1 ++ w2) H) : va_P D zC w1 H ∧ va_P D zC w2 H := by
  refine ⟨fun k q hk => h k q ?_, fun k q hk => h (w1.length + k) q ?_⟩
  · rw [List.getElem?_append_left (List.getElem?_eq_some_iff.mp hk).1]; exact hk
  · rw [List.getElem?_append_right (Nat.le_add_right _ _), Nat.add_sub_cancel_left]; exact hk
theorem va_P.cns {D : va_G} {q : Nat × va_E} {w : va_W} {H : Heap} (h : va_P D zC (q :: w) H) : va_at D zC q H ∧ va_P D zC w H := ⟨h 0 q rfl, fun k x hk => h (k + 1) x hk⟩
theorem va_P.rng {D : va_G} {n : Nat} {f : Nat → Nat × va_E} {H : Heap} (h : va_P D zC ((List.range n).map f) H) : ∀ j, j < n → va_at D zC (f j) H := fun j hj => h j _ (by rw [List.getElem?_map, List.getElem?_range hj]; rfl)
theorem y_row2 {D : va_G} {H : Heap} {q n : Nat} {cA : ClassId} {f g : Nat → Option Nat} (h : va_at D zC (q, .inl (cA, n, .inr (.inr (.inr (.inr f))))) H) (hfg : ∀ j, j < n → f j = g j) : va_at D zC (q, .inl (cA, n, .inr (.inr (.inr (.inr g))))) H := by
  have h : H[q]? = some (vp_cell _ _) := h
  show H[q]? = some (vp_cell _ _)
  rw [h, vp_cell_q, vp_cell_q]
  congr 1
  unfold arrV
  congr 2
  funext j
  show va_rf (f j) = va_rf (g j)
  rw [hfg j j.isLt]
theorem y_ad_at {a b o : Nat} (ho : o < 89) : y_ad a b o = a + y_perm.getD o 0 := by
  unfold y_ad
  rw [if_neg (by omega)]
section
variable {D : va_G} {cy : Nat → ClassId} {a b : Nat} {H : Heap}
def yW_A (D : va_G) (cy : Nat → ClassId) (a b : Nat) (H : Heap) (o : Nat) : Prop := va_at D zC (y_ad a b o, z_cell cy (y_ad a b) y_σ0 o) H
set_option maxHeartbeats 4000000 in
set_option maxRecDepth 20000 in
theorem yW_0 (h0 : va_at D zC (a, .inr (7, yf_Walls (a + 1))) H) (hw : va_P D zC (yw_Walls cy (a + 1)) H) (h1 : va_P D zC ((a + 63, .inr (8, yf_Model (a + 63 + 1))) :: yw_Model cy (a + 63 + 1)) H) : ∀ o, 0 ≤ o → o < 15 → yW_A D cy a b H o := by
  have r13 := hw.spl
  have b_orders := r13.2
  have r12 := r13.1.spl
  have b_duel := r12.2
  have r11 := r12.1.spl
  have b_mason := r11.2
  have r10 := r11.1.spl
  have b_seenHeight := r10.2
  have r9 := r10.1.spl
  have b_isKept := r9.2
  have r8 := r9.1.spl
  have b_kept := r8.2
  have r7 := r8.1.spl
  have b_history := r7.2
  have r6 := r7.1.spl
  have b_acts := r6.2
  have r5 := r6.1.spl
  have b_ruleB := r5.2
  have r4 := r5.1.spl
  have b_ruleA := r4.2
  have r3 := r4.1.spl
  have b_trial := r3.2
  have r2 := r3.1.spl
  have b_now := r2.2
  have r1 := r2.1.spl
  have b_told := r1.2
  have b_signs := r1.1
  intro o h1o h2o
  rcases (show o = 0 ∨ o = 1 ∨ o = 2 ∨ o = 3 ∨ o = 4 ∨ o = 5 ∨ o = 6 ∨ o = 7 ∨ o = 8 ∨ o = 9 ∨ o = 10 ∨ o = 11 ∨ o = 12 ∨ o = 13 ∨ o = 14 by omega) with rfl | rfl | rfl | rfl | rfl | rfl | rfl | rfl | rfl | rfl | rfl | rfl | rfl | rfl | rfl
  · unfold yW_A; rw [z_ob (o := 0) (c := 7) (n := 16) rfl (by decide)]; exact h0
  · unfold yW_A; rw [z_ar (o := 1) (c := 10) (n := 80) rfl (by decide) (by decide)]; exact b_signs.one
  · unfold yW_A; rw [z_ar (o := 2) (c := 11) (n := 12) rfl (by decide) (by decide)]; exact b_told.one
  · unfold yW_A; rw [z_aa (o := 3) (n := 2) rfl]; exact y_row2 b_kept.cns.1 (fun j hj => by
      rcases (show j = 0 ∨ j = 1 by omega) with rfl | rfl <;> rfl)
  · unfold yW_A; rw [z_ar (o := 4) (c := 11) (n := 71) rfl (by decide) (by decide)]; exact (b_kept.cns.2.rng 0 (by decide))
  · unfold yW_A; rw [z_ar (o := 5) (c := 11) (n := 71) rfl (by decide) (by decide)]; exact (b_kept.cns.2.rng 1 (by decide))
  · unfold yW_A; rw [z_ar (o := 6) (c := 12) (n := 2) rfl (by decide) (by decide)]; exact b_isKept.one
  · unfold yW_A; rw [z_ar (o := 7) (c := 11) (n := 6) rfl (by decide) (by decide)]; exact b_seenHeight.one
  · unfold yW_A; rw [z_ob (o := 8) (c := 0) (n := 5) rfl (by decide)]; exact b_acts.cns.1
  · unfold yW_A; rw [z_ar (o := 9) (c := 11) (n := 20) rfl (by decide) (by decide)]; exact (b_acts.cns.2 0 _ rfl)
  · unfold yW_A; rw [z_ar (o := 10) (c := 11) (n := 60) rfl (by decide) (by decide)]; exact (b_acts.cns.2 1 _ rfl)
  · unfold yW_A; rw [z_ob (o := 11) (c := 3) (n := 3) rfl (by decide)]; exact b_history.cns.1
  · unfold yW_A; rw [z_aa (o := 12) (n := 13) rfl]; exact y_row2 b_history.cns.2.cns.1 (fun j hj => by
      rcases (show j = 0 ∨ j = 1 ∨ j = 2 ∨ j = 3 ∨ j = 4 ∨ j = 5 ∨ j = 6 ∨ j = 7 ∨ j = 8 ∨ j = 9 ∨ j = 10 ∨ j = 11 ∨ j = 12 by omega) with rfl | rfl | rfl | rfl | rfl | rfl | rfl | rfl | rfl | rfl | rfl | rfl | rfl <;> rfl)
  · unfold yW_A; rw [z_ar (o := 13) (c := 11) (n := 71) rfl (by decide) (by decide)]; exact (b_history.cns.2.cns.2.rng 0 (by decide))
  · unfold yW_A; rw [z_ar (o := 14) (c := 11) (n := 71) rfl (by decide) (by decide)]; exact (b_history.cns.2.cns.2.rng 1 (by decide))
set_option maxHeartbeats 4000000 in
set_option maxRecDepth 20000 in
theorem yW_15 (h0 : va_at D zC (a, .inr (7, yf_Walls (a + 1))) H) (hw : va_P D zC (yw_Walls cy (a + 1)) H) (h1 : va_P D zC ((a + 63, .inr (8, yf_Model (a + 63 + 1))) :: yw_Model cy (a + 63 + 1)) H) : ∀ o, 15 ≤ o → o < 30 → yW_A D cy a b H o := by
  have r13 := hw.spl
  have b_orders := r13.2
  have r12 := r13.1.spl
  have b_duel := r12.2
  have r11 := r12.1.spl
  have b_mason := r11.2
  have r10 := r11.1.spl
  have b_seenHeight := r10.2
  have r9 := r10.1.spl
  have b_isKept := r9.2
  have r8 := r9.1.spl
  have b_kept := r8.2
  have r7 := r8.1.spl
  have b_history := r7.2
  have r6 := r7.1.spl
  have b_acts := r6.2
  have r5 := r6.1.spl
  have b_ruleB := r5.2
  have r4 := r5.1.spl
  have b_ruleA := r4.2
  have r3 := r4.1.spl
  have b_trial := r3.2
  have r2 := r3.1.spl
  have b_now := r2.2
  have r1 := r2.1.spl
  have b_told := r1.2
  have b_signs := r1.1
  intro o h1o h2o
  rcases (show o = 15 ∨ o = 16 ∨ o = 17 ∨ o = 18 ∨ o = 19 ∨ o = 20 ∨ o = 21 ∨ o = 22 ∨ o = 23 ∨ o = 24 ∨ o = 25 ∨ o = 26 ∨ o = 27 ∨ o = 28 ∨ o = 29 by omega) with rfl | rfl | rfl | rfl | rfl | rfl | rfl | rfl | rfl | rfl | rfl | rfl | rfl | rfl | rfl
  · unfold yW_A; rw [z_ar (o := 15) (c := 11) (n := 71) rfl (by decide) (by decide)]; exact (b_history.cns.2.cns.2.rng 2 (by decide))
  · unfold yW_A; rw [z_ar (o := 16) (c := 11) (n := 71) rfl (by decide) (by decide)]; exact (b_history.cns.2.cns.2.rng 3 (by decide))
  · unfold yW_A; rw [z_ar (o := 17) (c := 11) (n := 71) rfl (by decide) (by decide)]; exact (b_history.cns.2.cns.2.rng 4 (by decide))
  · unfold yW_A; rw [z_ar (o := 18) (c := 11) (n := 71) rfl (by decide) (by decide)]; exact (b_history.cns.2.cns.2.rng 5 (by decide))
  · unfold yW_A; rw [z_ar (o := 19) (c := 11) (n := 71) rfl (by decide) (by decide)]; exact (b_history.cns.2.cns.2.rng 6 (by decide))
  · unfold yW_A; rw [z_ar (o := 20) (c := 11) (n := 71) rfl (by decide) (by decide)]; exact (b_history.cns.2.cns.2.rng 7 (by decide))
  · unfold yW_A; rw [z_ar (o := 21) (c := 11) (n := 71) rfl (by decide) (by decide)]; exact (b_history.cns.2.cns.2.rng 8 (by decide))
  · unfold yW_A; rw [z_ar (o := 22) (c := 11) (n := 71) rfl (by decide) (by decide)]; exact (b_history.cns.2.cns.2.rng 9 (by decide))
  · unfold yW_A; rw [z_ar (o := 23) (c := 11) (n := 71) rfl (by decide) (by decide)]; exact (b_history.cns.2.cns.2.rng 10 (by decide))
  · unfold yW_A; rw [z_ar (o := 24) (c := 11) (n := 71) rfl (by decide) (by decide)]; exact (b_history.cns.2.cns.2.rng 11 (by decide))
  · unfold yW_A; rw [z_ar (o := 25) (c := 11) (n := 71) rfl (by decide) (by decide)]; exact (b_history.cns.2.cns.2.rng 12 (by decide))
  · unfold yW_A; rw [z_ob (o := 26) (c := 4) (n := 6) rfl (by decide)]; exact b_mason.cns.1
  · unfold yW_A; rw [z_ar (o := 27) (c := 11) (n := 12) rfl (by decide) (by decide)]; exact (b_mason.cns.2 0 _ rfl)
  · unfold yW_A; rw [z_ar (o := 28) (c := 11) (n := 6) rfl (by decide) (by decide)]; exact (b_mason.cns.2 1 _ rfl)
  · unfold yW_A; rw [z_ar (o := 29) (c := 11) (n := 49) rfl (by decide) (by decide)]; exact (b_mason.cns.2 2 _ rfl)
set_option maxHeartbeats 4000000 in
set_option maxRecDepth 20000 in
theorem yW_30 (h0 : va_at D zC (a, .inr (7, yf_Walls (a + 1))) H) (hw : va_P D zC (yw_Walls cy (a + 1)) H) (h1 : va_P D zC ((a + 63, .inr (8, yf_Model (a + 63 + 1))) :: yw_Model cy (a + 63 + 1)) H) : ∀ o, 30 ≤ o → o < 45 → yW_A D cy a b H o := by
  have r13 := hw.spl
  have b_orders := r13.2
  have r12 := r13.1.spl
  have b_duel := r12.2
  have r11 := r12.1.spl
  have b_mason := r11.2
  have r10 := r11.1.spl
  have b_seenHeight := r10.2
  have r9 := r10.1.spl
  have b_isKept := r9.2
  have r8 := r9.1.spl
  have b_kept := r8.2
  have r7 := r8.1.spl
  have b_history := r7.2
  have r6 := r7.1.spl
  have b_acts := r6.2
  have r5 := r6.1.spl
  have b_ruleB := r5.2
  have r4 := r5.1.spl
  have b_ruleA := r4.2
  have r3 := r4.1.spl
  have b_trial := r3.2
  have r2 := r3.1.spl
  have b_now := r2.2
  have r1 := r2.1.spl
  have b_told := r1.2
  have b_signs := r1.1
  intro o h1o h2o
  rcases (show o = 30 ∨ o = 31 ∨ o = 32 ∨ o = 33 ∨ o = 34 ∨ o = 35 ∨ o = 36 ∨ o = 37 ∨ o = 38 ∨ o = 39 ∨ o = 40 ∨ o = 41 ∨ o = 42 ∨ o = 43 ∨ o = 44 by omega) with rfl | rfl | rfl | rfl | rfl | rfl | rfl | rfl | rfl | rfl | rfl | rfl | rfl | rfl | rfl
  · unfold yW_A; rw [z_ob (o := 30) (c := 2) (n := 1) rfl (by decide)]; exact b_duel.cns.1
  · unfold yW_A; rw [z_ob (o := 31) (c := 5) (n := 2) rfl (by decide)]; exact b_orders.cns.1
  · unfold yW_A; rw [z_ar (o := 32) (c := 11) (n := 4) rfl (by decide) (by decide)]; exact (b_orders.cns.2 0 _ rfl)
  · unfold yW_A; rw [z_ob (o := 33) (c := 1) (n := 16) rfl (by decide)]; exact b_now.cns.1
  · unfold yW_A; rw [z_ar (o := 34) (c := 11) (n := 12) rfl (by decide) (by decide)]; exact (b_now.cns.2 0 _ rfl)
  · unfold yW_A; rw [z_ar (o := 35) (c := 11) (n := 12) rfl (by decide) (by decide)]; exact (b_now.cns.2 1 _ rfl)
  · unfold yW_A; rw [z_ar (o := 36) (c := 11) (n := 12) rfl (by decide) (by decide)]; exact (b_now.cns.2 2 _ rfl)
  · unfold yW_A; rw [z_ar (o := 37) (c := 11) (n := 12) rfl (by decide) (by decide)]; exact (b_now.cns.2 3 _ rfl)
  · unfold yW_A; rw [z_ar (o := 38) (c := 11) (n := 12) rfl (by decide) (by decide)]; exact (b_now.cns.2 4 _ rfl)
  · unfold yW_A; rw [z_ar (o := 39) (c := 11) (n := 6) rfl (by decide) (by decide)]; exact (b_now.cns.2 5 _ rfl)
  · unfold yW_A; rw [z_ar (o := 40) (c := 11) (n := 24) rfl (by decide) (by decide)]; exact (b_now.cns.2 6 _ rfl)
  · unfold yW_A; rw [z_ar (o := 41) (c := 11) (n := 4) rfl (by decide) (by decide)]; exact (b_now.cns.2 7 _ rfl)
  · unfold yW_A; rw [z_ar (o := 42) (c := 11) (n := 4) rfl (by decide) (by decide)]; exact (b_now.cns.2 8 _ rfl)
  · unfold yW_A; rw [z_ob (o := 43) (c := 1) (n := 16) rfl (by decide)]; exact b_trial.cns.1
  · unfold yW_A; rw [z_ar (o := 44) (c := 11) (n := 12) rfl (by decide) (by decide)]; exact (b_trial.cns.2 0 _ rfl)
set_option maxHeartbeats 4000000 in
set_option maxRecDepth 20000 in
theorem yW_45 (h0 : va_at D zC (a, .inr (7, yf_Walls (a + 1))) H) (hw : va_P D zC (yw_Walls cy (a + 1)) H) (h1 : va_P D zC ((a + 63, .inr (8, yf_Model (a + 63 + 1))) :: yw_Model cy (a + 63 + 1)) H) : ∀ o, 45 ≤ o → o < 60 → yW_A D cy a b H o := by
  have r13 := hw.spl
  have b_orders := r13.2
  have r12 := r13.1.spl
  have b_duel := r12.2
  have r11 := r12.1.spl
  have b_mason := r11.2
  have r10 := r11.1.spl
  have b_seenHeight := r10.2
  have r9 := r10.1.spl
  have b_isKept := r9.2
  have r8 := r9.1.spl
  have b_kept := r8.2
  have r7 := r8.1.spl
  have b_history := r7.2
  have r6 := r7.1.spl
  have b_acts := r6.2
  have r5 := r6.1.spl
  have b_ruleB := r5.2
  have r4 := r5.1.spl
  have b_ruleA := r4.2
  have r3 := r4.1.spl
  have b_trial := r3.2
  have r2 := r3.1.spl
  have b_now := r2.2
  have r1 := r2.1.spl
  have b_told := r1.2
  have b_signs := r1.1
  intro o h1o h2o
  rcases (show o = 45 ∨ o = 46 ∨ o = 47 ∨ o = 48 ∨ o = 49 ∨ o = 50 ∨ o = 51 ∨ o = 52 ∨ o = 53 ∨ o = 54 ∨ o = 55 ∨ o = 56 ∨ o = 57 ∨ o = 58 ∨ o = 59 by omega) with rfl | rfl | rfl | rfl | rfl | rfl | rfl | rfl | rfl | rfl | rfl | rfl | rfl | rfl | rfl
  · unfold yW_A; rw [z_ar (o := 45) (c := 11) (n := 12) rfl (by decide) (by decide)]; exact (b_trial.cns.2 1 _ rfl)
  · unfold yW_A; rw [z_ar (o := 46) (c := 11) (n := 12) rfl (by decide) (by decide)]; exact (b_trial.cns.2 2 _ rfl)
  · unfold yW_A; rw [z_ar (o := 47) (c := 11) (n := 12) rfl (by decide) (by decide)]; exact (b_trial.cns.2 3 _ rfl)
  · unfold yW_A; rw [z_ar (o := 48) (c := 11) (n := 12) rfl (by decide) (by decide)]; exact (b_trial.cns.2 4 _ rfl)
  · unfold yW_A; rw [z_ar (o := 49) (c := 11) (n := 6) rfl (by decide) (by decide)]; exact (b_trial.cns.2 5 _ rfl)
  · unfold yW_A; rw [z_ar (o := 50) (c := 11) (n := 24) rfl (by decide) (by decide)]; exact (b_trial.cns.2 6 _ rfl)
  · unfold yW_A; rw [z_ar (o := 51) (c := 11) (n := 4) rfl (by decide) (by decide)]; exact (b_trial.cns.2 7 _ rfl)
  · unfold yW_A; rw [z_ar (o := 52) (c := 11) (n := 4) rfl (by decide) (by decide)]; exact (b_trial.cns.2 8 _ rfl)
  · unfold yW_A; rw [z_ob (o := 53) (c := 6) (n := 9) rfl (by decide)]; exact b_ruleA.cns.1
  · unfold yW_A; rw [z_ar (o := 54) (c := 11) (n := 40) rfl (by decide) (by decide)]; exact (b_ruleA.cns.2 0 _ rfl)
  · unfold yW_A; rw [z_ar (o := 55) (c := 11) (n := 40) rfl (by decide) (by decide)]; exact (b_ruleA.cns.2 1 _ rfl)
  · unfold yW_A; rw [z_ar (o := 56) (c := 11) (n := 40) rfl (by decide) (by decide)]; exact (b_ruleA.cns.2 2 _ rfl)
  · unfold yW_A; rw [z_ar (o := 57) (c := 12) (n := 5) rfl (by decide) (by decide)]; exact (b_ruleA.cns.2 3 _ rfl)
  · unfold yW_A; rw [z_ob (o := 58) (c := 6) (n := 9) rfl (by decide)]; exact b_ruleB.cns.1
  · unfold yW_A; rw [z_ar (o := 59) (c := 11) (n := 40) rfl (by decide) (by decide)]; exact (b_ruleB.cns.2 0 _ rfl)
set_option maxHeartbeats 4000000 in
set_option maxRecDepth 20000 in
theorem yW_60 (h0 : va_at D zC (a, .inr (7, yf_Walls (a + 1))) H) (hw : va_P D zC (yw_Walls cy (a + 1)) H) (h1 : va_P D zC ((a + 63, .inr (8, yf_Model (a + 63 + 1))) :: yw_Model cy (a + 63 + 1)) H) : ∀ o, 60 ≤ o → o < 75 → yW_A D cy a b H o := by
  have r13 := hw.spl
  have b_orders := r13.2
  have r12 := r13.1.spl
  have b_duel := r12.2
  have r11 := r12.1.spl
  have b_mason := r11.2
  have r10 := r11.1.spl
  have b_seenHeight := r10.2
  have r9 := r10.1.spl
  have b_isKept := r9.2
  have r8 := r9.1.spl
  have b_kept := r8.2
  have r7 := r8.1.spl
  have b_history := r7.2
  have r6 := r7.1.spl
  have b_acts := r6.2
  have r5 := r6.1.spl
  have b_ruleB := r5.2
  have r4 := r5.1.spl
  have b_ruleA := r4.2
  have r3 := r4.1.spl
  have b_trial := r3.2
  have r2 := r3.1.spl
  have b_now := r2.2
  have r1 := r2.1.spl
  have b_told := r1.2
  have b_signs := r1.1
  intro o h1o h2o
  rcases (show o = 60 ∨ o = 61 ∨ o = 62 ∨ o = 63 ∨ o = 64 ∨ o = 65 ∨ o = 66 ∨ o = 67 ∨ o = 68 ∨ o = 69 ∨ o = 70 ∨ o = 71 ∨ o = 72 ∨ o = 73 ∨ o = 74 by omega) with rfl | rfl | rfl | rfl | rfl | rfl | rfl | rfl | rfl | rfl | rfl | rfl | rfl | rfl | rfl
  · unfold yW_A; rw [z_ar (o := 60) (c := 11) (n := 40) rfl (by decide) (by decide)]; exact (b_ruleB.cns.2 1 _ rfl)
  · unfold yW_A; rw [z_ar (o := 61) (c := 11) (n := 40) rfl (by decide) (by decide)]; exact (b_ruleB.cns.2 2 _ rfl)
  · unfold yW_A; rw [z_ar (o := 62) (c := 12) (n := 5) rfl (by decide) (by decide)]; exact (b_ruleB.cns.2 3 _ rfl)
  · unfold yW_A; rw [z_ob (o := 63) (c := 8) (n := 48) rfl (by decide)]; exact h1.cns.1
  · unfold yW_A; rw [z_ar (o := 64) (c := 11) (n := 53) rfl (by decide) (by decide)]; exact (h1.cns.2 0 _ rfl)
  · unfold yW_A; rw [z_ar (o := 65) (c := 11) (n := 12) rfl (by decide) (by decide)]; exact (h1.cns.2 1 _ rfl)
  · unfold yW_A; rw [z_ar (o := 66) (c := 11) (n := 12) rfl (by decide) (by decide)]; exact (h1.cns.2 2 _ rfl)
  · unfold yW_A; rw [z_ar (o := 67) (c := 11) (n := 4) rfl (by decide) (by decide)]; exact (h1.cns.2 3 _ rfl)
  · unfold yW_A; rw [z_ar (o := 68) (c := 9) (n := 80) rfl (by decide) (by decide)]; exact (h1.cns.2 4 _ rfl)
  · unfold yW_A; rw [z_ar (o := 69) (c := 11) (n := 20) rfl (by decide) (by decide)]; exact (h1.cns.2 5 _ rfl)
  · unfold yW_A; rw [z_ar (o := 70) (c := 11) (n := 24) rfl (by decide) (by decide)]; exact (h1.cns.2 6 _ rfl)
  · unfold yW_A; rw [z_ar (o := 71) (c := 11) (n := 12) rfl (by decide) (by decide)]; exact (h1.cns.2 7 _ rfl)
  · unfold yW_A; rw [z_ar (o := 72) (c := 11) (n := 12) rfl (by decide) (by decide)]; exact (h1.cns.2 8 _ rfl)
  · unfold yW_A; rw [z_ar (o := 73) (c := 9) (n := 40) rfl (by decide) (by decide)]; exact (h1.cns.2 10 _ rfl)
  · unfold yW_A; rw [z_ar (o := 74) (c := 11) (n := 6) rfl (by decide) (by decide)]; exact (h1.cns.2 11 _ rfl)
set_option maxHeartbeats 4000000 in
set_option maxRecDepth 20000 in
theorem yW_75 (h0 : va_at D zC (a, .inr (7, yf_Walls (a + 1))) H) (hw : va_P D zC (yw_Walls cy (a + 1)) H) (h1 : va_P D zC ((a + 63, .inr (8, yf_Model (a + 63 + 1))) :: yw_Model cy (a + 63 + 1)) H) : ∀ o, 75 ≤ o → o < 89 → yW_A D cy a b H o := by
  have r13 := hw.spl
  have b_orders := r13.2
  have r12 := r13.1.spl
  have b_duel := r12.2
  have r11 := r12.1.spl
  have b_mason := r11.2
  have r10 := r11.1.spl
  have b_seenHeight := r10.2
  have r9 := r10.1.spl
  have b_isKept := r9.2
  have r8 := r9.1.spl
  have b_kept := r8.2
  have r7 := r8.1.spl
  have b_history := r7.2
  have r6 := r7.1.spl
  have b_acts := r6.2
  have r5 := r6.1.spl
  have b_ruleB := r5.2
  have r4 := r5.1.spl
  have b_ruleA := r4.2
  have r3 := r4.1.spl
  have b_trial := r3.2
  have r2 := r3.1.spl
  have b_now := r2.2
  have r1 := r2.1.spl
  have b_told := r1.2
  have b_signs := r1.1
  intro o h1o h2o
  rcases (show o = 75 ∨ o = 76 ∨ o = 77 ∨ o = 78 ∨ o = 79 ∨ o = 80 ∨ o = 81 ∨ o = 82 ∨ o = 83 ∨ o = 84 ∨ o = 85 ∨ o = 86 ∨ o = 87 ∨ o = 88 by omega) with rfl | rfl | rfl | rfl | rfl | rfl | rfl | rfl | rfl | rfl | rfl | rfl | rfl | rfl
  · unfold yW_A; rw [z_ar (o := 75) (c := 11) (n := 4) rfl (by decide) (by decide)]; exact (h1.cns.2 12 _ rfl)
  · unfold yW_A; rw [z_ar (o := 76) (c := 11) (n := 636) rfl (by decide) (by decide)]; exact (h1.cns.2 13 _ rfl)
  · unfold yW_A; rw [z_ar (o := 77) (c := 11) (n := 53) rfl (by decide) (by decide)]; exact (h1.cns.2 14 _ rfl)
  · unfold yW_A; rw [z_ar (o := 78) (c := 11) (n := 53) rfl (by decide) (by decide)]; exact (h1.cns.2 15 _ rfl)
  · unfold yW_A; rw [z_ar (o := 79) (c := 11) (n := 320) rfl (by decide) (by decide)]; exact (h1.cns.2 16 _ rfl)
  · unfold yW_A; rw [z_ar (o := 80) (c := 11) (n := 24) rfl (by decide) (by decide)]; exact (h1.cns.2 17 _ rfl)
  · unfold yW_A; rw [z_ar (o := 81) (c := 11) (n := 24) rfl (by decide) (by decide)]; exact (h1.cns.2 18 _ rfl)
  · unfold yW_A; rw [z_ar (o := 82) (c := 11) (n := 4) rfl (by decide) (by decide)]; exact (h1.cns.2 19 _ rfl)
  · unfold yW_A; rw [z_ar (o := 83) (c := 11) (n := 6) rfl (by decide) (by decide)]; exact (h1.cns.2 20 _ rfl)
  · unfold yW_A; rw [z_ar (o := 84) (c := 12) (n := 37) rfl (by decide) (by decide)]; exact (h1.cns.2 21 _ rfl)
  · unfold yW_A; rw [z_ar (o := 85) (c := 11) (n := 106) rfl (by decide) (by decide)]; exact (h1.cns.2 22 _ rfl)
  · unfold yW_A; rw [z_ar (o := 86) (c := 12) (n := 2) rfl (by decide) (by decide)]; exact (h1.cns.2 23 _ rfl)
  · unfold yW_A; rw [z_ar (o := 87) (c := 11) (n := 2) rfl (by decide) (by decide)]; exact (h1.cns.2 24 _ rfl)
  · unfold yW_A; rw [z_ar (o := 88) (c := 9) (n := 40) rfl (by decide) (by decide)]; exact (h1.cns.2 9 _ rfl)
theorem y_world (h0 : va_at D zC (a, .inr (7, yf_Walls (a + 1))) H) (hw : va_P D zC (yw_Walls cy (a + 1)) H) (h1 : va_P D zC ((a + 63, .inr (8, yf_Model (a + 63 + 1))) :: yw_Model cy (a + 63 + 1)) H) : va_P D zC (z_ws cy (y_ad a b) y_σ0) H := by
  intro o q hq
  have ho : o < 89 := by
    have := (List.getElem?_eq_some_iff.mp hq).1
    simpa [z_ws, zK] using this
  rw [z_at ho] at hq
  cases hq
  by_cases q0 : o < 15
  · exact yW_0 h0 hw h1 o (by omega) q0
  by_cases q15 : o < 30
  · exact yW_15 h0 hw h1 o (by omega) q15
  by_cases q30 : o < 45
  · exact yW_30 h0 hw h1 o (by omega) q30
  by_cases q45 : o < 60
  · exact yW_45 h0 hw h1 o (by omega) q45
  by_cases q60 : o < 75
  · exact yW_60 h0 hw h1 o (by omega) q60
  exact yW_75 h0 hw h1 o (by omega) ho
end
theorem y_perm_inj : ∀ i, i < 89 → ∀ j, j < 89 → y_perm.getD i 0 = y_perm.getD j 0 → i = j := by decide +kernel
theorem y_perm_lt : ∀ i, i < 89 → y_perm.getD i 0 < 89 := by decide +kernel
theorem y_apart {A : Nat → Prop} {cy : Nat → ClassId} {a b : Nat} {σ : zS} (hA : ∀ q, a ≤ q → A q) : va_D A (z_ws cy (y_ad a b) σ) := by
  have lt : ∀ {k : Nat} {q : Nat × va_E}, (z_ws cy (y_ad a b) σ)[k]? = some q → k < 89 ∧ q.1 = a + y_perm.getD k 0 := fun {k q} hk => by
    have ho : k < 89 := by
      have := (List.getElem?_eq_some_iff.mp hk).1
      simpa [z_ws, zK] using this
    rw [z_at ho] at hk
    cases hk
    exact ⟨ho, y_ad_at ho⟩
  refine ⟨fun i j p q hi hj hpq => ?_, fun k q hk => ?_⟩
  · obtain ⟨a1, a2⟩ := lt hi
    obtain ⟨b1, b2⟩ := lt hj
    exact y_perm_inj i a1 j b1 (by omega)
  · obtain ⟨a1, a2⟩ := lt hk
    exact hA _ (by omega)
