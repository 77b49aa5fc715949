/-! the program's book, column, reader and row: answered, or thrown -/
section
variable {σ : zS} {x : tX}
theorem nI_ne7 {b : Int32} {m : Nat} (hm : m ≤ 6) (q : b.toInt < 0 ∨ (m : Int) < b.toInt) : ∀ j, j ≤ m → ¬ b = nI j := fun j hj e => by
  rw [e, nI_toInt (by omega)] at q
  omega
theorem cp_book (h : cA x σ) (a b : Int32) {y : Int32} (hy : x_book x a b = some y) : z_Ci 6 zm_Walls_book [.inr 0, .inl a, .inl b] σ (fun r u => r = y ∧ cA x u ∧ zW σ u) := by
  have hn := h.1.n
  have k : z_isn a (s_n (x_s x)) = true := by
    cases q : z_isn a (s_n (x_s x)) with
    | true => rfl
    | false => rw [x_book, if_neg (by rw [q]; decide)] at hy; cases hy
  refine z_Ci_of (by decide) (Nat.le_of_ble_eq_true rfl) (fun Γ hd he => ?_)
  show z_J Γ zm_Walls_book 0 [some (.inr 0), some (.inl a), some (.inl b)] [] σ
  refine zb_Walls_book_0 (cc_isBook z_c33 hn h.1.fn a) (by omega) (fun r u hr => ?_)
  obtain ⟨rfl, rfl⟩ := hr
  refine zb_Walls_book_8 (fun _ => ?_) (fun q => absurd q (by rw [z_tf_eq0, k]; decide))
  obtain ⟨i, hi, rfl⟩ := z_isn_t (by omega) k
  rw [x_book, if_pos k, nI_clamp (by omega)] at hy
  have hix : z_ix (nI i) 12 i := ⟨rfl, by omega⟩
  have hw3 := h.1.w3 i
  have fin : ∀ {r : Int32}, r = y → z_end Γ (some r) u := fun hr => by
    rw [he]
    exact ⟨_, rfl, hr, h, zW.rf⟩
  refine zb_Walls_book_21 (fun q => ?_) (fun q => ?_) (fun q => ?_) (fun q => ?_) (fun q => ?_) (fun q => ?_) (fun q => ?_) (fun q => ?_)
  · have hne := nI_ne7 (m := 6) (by decide) q
    rw [if_neg (hne 0 (by decide)), if_neg (hne 1 (by decide)), if_neg (hne 2 (by decide)), if_neg (hne 3 (by decide)), if_neg (hne 4 (by decide)), if_neg (hne 5 (by decide)), if_neg (hne 6 (by decide))] at hy
    cases hy
  · subst q
    have hy : some (nI (s_t (x_s x) i)) = some y := hy
    exact zb_Walls_book_64 hix (fin (by rw [h.1.ft hi]; exact Option.some.inj hy))
  · subst q
    have hy : some (nI (s_w (x_s x) i)) = some y := hy
    exact zb_Walls_book_74 hix (fin (by rw [h.1.fw hi]; exact Option.some.inj hy))
  · subst q
    have hy : some (nI (v_w (x_v x) i)) = some y := hy
    exact zb_Walls_book_84 hix (fin (by rw [h.1.fW (by omega)]; exact Option.some.inj hy))
  · subst q
    have hy : some (if v_w (x_v x) i = 1 ∨ v_w (x_v x) i = 2 then nI (v_h (x_v x) i) else -1) = some y := hy
    exact zb_Walls_book_94 hix (fin (by rw [h.1.fH hi]; exact Option.some.inj hy))
  · subst q
    have hy : some (if v_w (x_v x) i = 1 then nI ((v_p (x_v x) (v_h (x_v x) i)).idxOf i) else -1) = some y := hy
    have hy := Option.some.inj hy
    by_cases hw : v_w (x_v x) i = 1
    · rw [if_pos hw] at hy
      refine zb_Walls_book_104 (cc_placeOf z_c33 h.1 hi hw) (by omega) (fun r u hr => ?_)
      obtain ⟨rfl, rfl⟩ := hr
      exact zb_Walls_book_112 (fin hy)
    · rw [if_neg hw] at hy
      refine zb_Walls_book_104 (cc_placeOf0 z_c33 (by omega) (h.1.fW (by omega)) hw (by omega)) (by omega) (fun r u hr => ?_)
      obtain ⟨rfl, rfl⟩ := hr
      exact zb_Walls_book_112 (fin hy)
  · subst q
    have hy : some (if v_w (x_v x) i = 2 then nI (v_d (x_v x) i) else -1) = some y := hy
    exact zb_Walls_book_113 hix (fin (by rw [h.1.fD hi]; exact Option.some.inj hy))
  · subst q
    have hy : some (if v_w (x_v x) i = 1 then l_br (x_E x) (x_s x) (v_y (x_v x)) (v_h (x_v x) i) (v_p (x_v x) (v_h (x_v x) i)) ((v_p (x_v x) (v_h (x_v x) i)).idxOf i) else -1) = some y := hy
    have hy := Option.some.inj hy
    have e36 : u.1 36 i = nI (v_w (x_v x) i) := h.1.fW (by omega)
    by_cases hw : v_w (x_v x) i = 1
    · rw [if_pos hw] at hy
      refine zb_Walls_book_123 hix (fun q => absurd (by rw [e36, hw]) q) (fun _ => ?_)
      have hc := h.1.1.2.2.2.2.1 i hi hw
      have hlt := List.idxOf_lt_length_iff.mpr (((h.1.col hc).2.2 i).mpr ⟨hi, hw, rfl⟩)
      refine zb_Walls_book_136 hix (cc_placeOf z_c33 h.1 hi hw) (by omega) (fun r u1 hr => ?_)
      obtain ⟨rfl, rfl⟩ := hr
      have e37 : u1.1 37 i = nI (v_h (x_v x) i) := by rw [show u1.1 37 i = _ from h.1.fH hi, if_pos (Or.inl hw)]
      rw [e37]
      have hor := h.2.2.1.oR
      refine zb_Walls_book_157 hor (lc_bearsAt z_c33 hor (h.1.cC hc) h.2.2.1.2 hlt) (by omega) (fun r u2 hr => ?_)
      obtain ⟨rfl, F1⟩ := hr
      have A1 := h.low ((z_frR hor F1).mono (by unfold c_sO; omega) (fun _ h => h))
      refine zb_Walls_book_164 (zb_Walls_book_168 ?_)
      rw [he]
      exact ⟨_, rfl, hy, A1⟩
    · rw [if_neg hw] at hy
      refine zb_Walls_book_123 hix (fun _ => zb_Walls_book_167 (zb_Walls_book_168 (fin hy))) (fun q => ?_)
      rw [e36] at q
      exact absurd ((nI_eq (by omega) (by decide)).mp q) hw
theorem ct_book (h : cA x σ) (a b : Int32) (hy : x_book x a b = none) : y_Ct 7 zm_Walls_book [.inr 0, .inl a, .inl b] σ := by
  have hn := h.1.n
  refine y_Ct_of (by decide) (Nat.le_of_ble_eq_true rfl) (by decide) (fun Γ hd hT => ?_)
  show z_J Γ zm_Walls_book 0 [some (.inr 0), some (.inl a), some (.inl b)] [] σ
  refine zb_Walls_book_0 (cc_isBook z_c33 hn h.1.fn a) (by omega) (fun r u hr => ?_)
  obtain ⟨rfl, rfl⟩ := hr
  refine zb_Walls_book_8 (fun q => ?_) (fun _ => zj_throw (tx := "no such book") hT rfl (by decide) zd_Walls_book_11 zd_Walls_book_14 zd_Walls_book_15 zd_Walls_book_17 zd_Walls_book_20)
  rw [z_tf_eq0, Bool.not_eq_false] at q
  rw [x_book, if_pos q] at hy
  refine zb_Walls_book_21 (fun _ => zj_throw (tx := "nothing such of a book") hT rfl (by decide) zd_Walls_book_169 zd_Walls_book_172 zd_Walls_book_173 zd_Walls_book_175 zd_Walls_book_178) (fun q => ?_) (fun q => ?_) (fun q => ?_) (fun q => ?_) (fun q => ?_) (fun q => ?_) (fun q => ?_)
  all_goals subst q; exact absurd hy (by intro e; cases e)
theorem l_wti_ab (s : aS) (l : List Nat) : l_wti (s_w s) l l.length = l_ab s l 0 := by
  have key : ∀ i, i ≤ l.length → l_wti (s_w s) l i + l_ab s l i = l_ab s l 0 := by
    intro i
    induction i with
    | zero => intro _; show 0 + _ = _; omega
    | succ i ih =>
      intro hi
      have h1 := ih (by omega)
      have h2 := l_ab_step (s := s) (l := l) (k := i) (by omega)
      show l_wti (s_w s) l i + s_w s (l.getD i 0) + _ = _
      omega
  have h := key l.length (Nat.le_refl _)
  have e0 : l_ab s l l.length = 0 := by simp [l_ab]
  omega
theorem cp_column (h : cA x σ) (a b : Int32) {y : Int32} (hy : x_col x a b = some y) : z_Ci 6 zm_Walls_column [.inr 0, .inl a, .inl b] σ (fun r u => r = y ∧ cA x u ∧ zW σ u) := by
  have h6 := h.1.c6
  have k : z_isn a (s_c (x_s x)) = true := by
    cases q : z_isn a (s_c (x_s x)) with
    | true => rfl
    | false => rw [x_col, if_neg (by rw [q]; decide)] at hy; cases hy
  refine z_Ci_of (by decide) (Nat.le_of_ble_eq_true rfl) (fun Γ hd he => ?_)
  show z_J Γ zm_Walls_column 0 [some (.inr 0), some (.inl a), some (.inl b)] [] σ
  refine zb_Walls_column_0 (cc_isColumn z_c33 h.1.fc a) (by omega) (fun r u hr => ?_)
  obtain ⟨rfl, rfl⟩ := hr
  refine zb_Walls_column_8 (fun _ => ?_) (fun q => absurd q (by rw [z_tf_eq0, k]; decide))
  obtain ⟨i, hi, rfl⟩ := z_isn_t (by omega) k
  rw [x_col, if_pos k, nI_clamp (by omega)] at hy
  have hix : z_ix (nI i) 6 i := ⟨rfl, by omega⟩
  have fin : ∀ {r : Int32}, r = y → z_end Γ (some r) u := fun hr => by
    rw [he]
    exact ⟨_, rfl, hr, h, zW.rf⟩
  refine zb_Walls_column_21 (fun q => ?_) (fun q => ?_) (fun q => ?_) (fun q => ?_) (fun q => ?_) (fun q => ?_)
  · have hne := nI_ne7 (m := 4) (by decide) q
    rw [if_neg (hne 0 (by decide)), if_neg (hne 1 (by decide)), if_neg (hne 2 (by decide)), if_neg (hne 3 (by decide)), if_neg (hne 4 (by decide))] at hy
    cases hy
  · subst q
    have hy : some (nI (a_h (x_s x) (x_v x) i)) = some y := hy
    refine zb_Walls_column_56 (cc_heightOf z_c33 h.1 hi) (by omega) (fun r u hr => ?_)
    obtain ⟨rfl, rfl⟩ := hr
    exact zb_Walls_column_64 (fin (Option.some.inj hy))
  · subst q
    have hy : some (nI (v_p (x_v x) i).length) = some y := hy
    exact zb_Walls_column_65 hix (fin (by rw [h.1.fM hi]; exact Option.some.inj hy))
  · subst q
    have hy : some (nI (l_ab (x_s x) (v_p (x_v x) i) 0)) = some y := hy
    refine zb_Walls_column_75 (cc_weightOf z_c33 h.1 hi) (by omega) (fun r u hr => ?_)
    obtain ⟨rfl, rfl⟩ := hr
    exact zb_Walls_column_83 (fin (by rw [l_wti_ab]; exact Option.some.inj hy))
  · subst q
    have hy : some (z_tf (l_ho (x_E x) (x_s x) (v_y (x_v x)) i (v_p (x_v x) i))) = some y := hy
    have hy := Option.some.inj hy
    have hor := h.2.2.1.oR
    refine zb_Walls_column_84 hor (lc_holdsUp z_c33 hor (h.1.cC hi) h.2.2.1.2) (by omega) (fun r u2 hr => ?_)
    obtain ⟨rfl, F1⟩ := hr
    have A1 := h.low ((z_frR hor F1).mono (by unfold c_sO; omega) (fun _ h => h))
    refine zb_Walls_column_96 (fun q => ?_) (fun q => ?_)
    · rw [z_tf_eq0] at q
      refine zb_Walls_column_103 (zb_Walls_column_104 ?_)
      rw [he]
      exact ⟨_, rfl, by rw [← hy, q]; rfl, A1⟩
    · rw [z_tf_eq0, Bool.not_eq_false] at q
      refine zb_Walls_column_99 (zb_Walls_column_104 ?_)
      rw [he]
      exact ⟨_, rfl, by rw [← hy, q]; rfl, A1⟩
  · subst q
    have hy : some (if (v_p (x_v x) i).length = 0 then -1 else nI (a_top (x_v x) i)) = some y := hy
    refine zb_Walls_column_105 (lc_topOf z_c33 (h.1.cC hi)) (by omega) (fun r u hr => ?_)
    obtain ⟨rfl, rfl⟩ := hr
    exact zb_Walls_column_113 (fin (Option.some.inj hy))
theorem ct_column (h : cA x σ) (a b : Int32) (hy : x_col x a b = none) : y_Ct 7 zm_Walls_column [.inr 0, .inl a, .inl b] σ := by
  refine y_Ct_of (by decide) (Nat.le_of_ble_eq_true rfl) (by decide) (fun Γ hd hT => ?_)
  show z_J Γ zm_Walls_column 0 [some (.inr 0), some (.inl a), some (.inl b)] [] σ
  refine zb_Walls_column_0 (cc_isColumn z_c33 h.1.fc a) (by omega) (fun r u hr => ?_)
  obtain ⟨rfl, rfl⟩ := hr
  refine zb_Walls_column_8 (fun q => ?_) (fun _ => zj_throw (tx := "no such column") hT rfl (by decide) zd_Walls_column_11 zd_Walls_column_14 zd_Walls_column_15 zd_Walls_column_17 zd_Walls_column_20)
  rw [z_tf_eq0, Bool.not_eq_false] at q
  rw [x_col, if_pos q] at hy
  refine zb_Walls_column_21 (fun _ => zj_throw (tx := "nothing such of a column") hT rfl (by decide) zd_Walls_column_114 zd_Walls_column_117 zd_Walls_column_118 zd_Walls_column_120 zd_Walls_column_123) (fun q => ?_) (fun q => ?_) (fun q => ?_) (fun q => ?_) (fun q => ?_)
  all_goals subst q; exact absurd hy (by intro e; cases e)
theorem cp_reader (h : cA x σ) (a b : Int32) {y : Int32} (hy : x_rdr x a b = some y) : z_Ci 6 zm_Walls_reader [.inr 0, .inl a, .inl b] σ (fun r u => r = y ∧ cA x u ∧ zW σ u) := by
  have h4 := h.1.r4
  have k : z_isn a (s_r (x_s x)) = true := by
    cases q : z_isn a (s_r (x_s x)) with
    | true => rfl
    | false => rw [x_rdr, if_neg (by rw [q]; decide)] at hy; cases hy
  refine z_Ci_of (by decide) (Nat.le_of_ble_eq_true rfl) (fun Γ hd he => ?_)
  show z_J Γ zm_Walls_reader 0 [some (.inr 0), some (.inl a), some (.inl b)] [] σ
  refine zb_Walls_reader_0 (cc_isReader z_c33 h.1.fr a) (by omega) (fun r u hr => ?_)
  obtain ⟨rfl, rfl⟩ := hr
  refine zb_Walls_reader_8 (fun _ => ?_) (fun q => absurd q (by rw [z_tf_eq0, k]; decide))
  obtain ⟨i, hi, rfl⟩ := z_isn_t (by omega) k
  rw [x_rdr, if_pos k, nI_clamp (by omega)] at hy
  have hix : z_ix (nI i) 4 i := ⟨rfl, by omega⟩
  have fin : ∀ {r : Int32}, r = y → z_end Γ (some r) u := fun hr => by
    rw [he]
    exact ⟨_, rfl, hr, h, zW.rf⟩
  refine zb_Walls_reader_21 (fun q => ?_) (fun q => ?_) (fun q => ?_) (fun q => ?_)
  · have hne := nI_ne7 (m := 2) (by decide) q
    rw [if_neg (hne 0 (by decide)), if_neg (hne 1 (by decide)), if_neg (hne 2 (by decide))] at hy
    cases hy
  · subst q
    have hy : some (nI (s_l (x_s x) i)) = some y := hy
    exact zb_Walls_reader_48 hix (fin (by rw [h.1.fl hi]; exact Option.some.inj hy))
  · subst q
    have hy : some (nI (v_f (x_v x) i)) = some y := hy
    exact zb_Walls_reader_58 hix (fin (by rw [h.1.fF (by omega)]; exact Option.some.inj hy))
  · subst q
    have hy : some (nI (a_lo (x_v x) i (s_n (x_s x)))) = some y := hy
    refine zb_Walls_reader_68 (cc_loansOf z_c33 h.1 (by omega)) (by omega) (fun r u hr => ?_)
    obtain ⟨rfl, rfl⟩ := hr
    exact zb_Walls_reader_76 (fin (Option.some.inj hy))
theorem ct_reader (h : cA x σ) (a b : Int32) (hy : x_rdr x a b = none) : y_Ct 7 zm_Walls_reader [.inr 0, .inl a, .inl b] σ := by
  refine y_Ct_of (by decide) (Nat.le_of_ble_eq_true rfl) (by decide) (fun Γ hd hT => ?_)
  show z_J Γ zm_Walls_reader 0 [some (.inr 0), some (.inl a), some (.inl b)] [] σ
  refine zb_Walls_reader_0 (cc_isReader z_c33 h.1.fr a) (by omega) (fun r u hr => ?_)
  obtain ⟨rfl, rfl⟩ := hr
  refine zb_Walls_reader_8 (fun q => ?_) (fun _ => zj_throw (tx := "no such reader") hT rfl (by decide) zd_Walls_reader_11 zd_Walls_reader_14 zd_Walls_reader_15 zd_Walls_reader_17 zd_Walls_reader_20)
  rw [z_tf_eq0, Bool.not_eq_false] at q
  rw [x_rdr, if_pos q] at hy
  refine zb_Walls_reader_21 (fun _ => zj_throw (tx := "nothing such of a reader") hT rfl (by decide) zd_Walls_reader_77 zd_Walls_reader_80 zd_Walls_reader_81 zd_Walls_reader_83 zd_Walls_reader_86) (fun q => ?_) (fun q => ?_) (fun q => ?_)
  all_goals subst q; exact absurd hy (by intro e; cases e)
theorem cp_row (h : cA x σ) (a : Int32) {y : Int32} (hy : x_rowAt x a = some y) : z_Ci 1 zm_Walls_row [.inr 0, .inl a] σ (fun r u => r = y ∧ cA x u ∧ zW σ u) := by
  obtain ⟨r1, r2, r3⟩ := h.2.2.2.2.1
  have ha : nI 0 ≤ a := by
    by_cases q : nI 0 ≤ a
    · exact q
    · rw [x_rowAt, if_neg q] at hy; cases hy
  rw [x_rowAt, if_pos ha] at hy
  have ha0 : ¬ a < 0 := by rw [← nI_0]; exact Int32.not_lt.mpr ha
  obtain ⟨i, hi, rfl⟩ := nI_of ha0
  rw [nI_clamp hi] at hy
  have hlt : i < (x_r x).length := (List.getElem?_eq_some_iff.mp hy).1
  refine z_Ci_of (by decide) (Nat.le_of_ble_eq_true rfl) (fun Γ hd he => ?_)
  show z_J Γ zm_Walls_row 0 [some (.inr 0), some (.inl (nI i))] [] σ
  refine zb_Walls_row_0 (fun q => absurd q ha0) (fun _ => ?_)
  refine zb_Walls_row_4 (fun _ => ?_) (fun q => absurd (by rw [r2]; exact nI_lt hlt (by omega)) q)
  refine zb_Walls_row_23 ⟨rfl, by omega⟩ ?_
  rw [he]
  exact ⟨_, rfl, r3 i y hy, h, zW.rf⟩
theorem ct_row (h : cA x σ) (a : Int32) (hy : x_rowAt x a = none) : y_Ct 7 zm_Walls_row [.inr 0, .inl a] σ := by
  obtain ⟨r1, r2, r3⟩ := h.2.2.2.2.1
  refine y_Ct_of (by decide) (Nat.le_of_ble_eq_true rfl) (by decide) (fun Γ hd hT => ?_)
  show z_J Γ zm_Walls_row 0 [some (.inr 0), some (.inl a)] [] σ
  have thr : z_J Γ zm_Walls_row 12 [none, none] [] σ := zj_throwW (tx := "no such number of the row") hT rfl (by decide) zd_Walls_row_12 zd_Walls_row_15 zd_Walls_row_16 zd_Walls_row_19 zd_Walls_row_22
  refine zb_Walls_row_0 (fun _ => thr) (fun q => ?_)
  refine zb_Walls_row_4 (fun q2 => ?_) (fun _ => thr)
  exfalso
  obtain ⟨i, hi, rfl⟩ := nI_of q
  rw [r2, nI_ltI hi (by omega)] at q2
  rw [x_rowAt, if_pos (by rw [nI_0]; exact Int32.not_lt.mp q), nI_clamp hi, List.getElem?_eq_getElem q2] at hy
  cases hy
end
