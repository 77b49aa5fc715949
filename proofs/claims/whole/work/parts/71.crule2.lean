section
variable {σ u : zS} {o : Nat} {cd wa : List Nat} {cm : List Bool} {dg : Nat} {wt : Bool}
theorem cc_isName {c : Nat} (hc : c < 256) (σ : zS) : z_Ci 0 zm_Rule_isName [.inl (nI c)] σ (z_is (z_tf (decide (d_let c ≠ none))) σ) := by
  refine z_Ci_of (by decide) (Nat.le_of_ble_eq_true rfl) (fun Γ hd he => ?_)
  show z_J Γ zm_Rule_isName 0 [some (.inl (nI c))] [] σ
  have yes : d_let c ≠ none → z_J Γ zm_Rule_isName 36 [none] [] σ := fun z => by
    refine zb_Rule_isName_36 (zb_Rule_isName_41 ?_ (Or.inr rfl))
    rw [he, decide_eq_true z]
    exact ⟨_, rfl, rfl, rfl⟩
  refine zb_Rule_isName_0 (fun p => yes ?_) (fun p1 => ?_)
  · rw [zn_eq (by omega) (by omega)] at p; rw [p]; decide
  refine zb_Rule_isName_6 (fun p => yes ?_) (fun p2 => ?_)
  · rw [zn_eq (by omega) (by omega)] at p; rw [p]; decide
  refine zb_Rule_isName_12 (fun p => yes ?_) (fun p3 => ?_)
  · rw [zn_eq (by omega) (by omega)] at p; rw [p]; decide
  refine zb_Rule_isName_18 (fun p => yes ?_) (fun p4 => ?_)
  · rw [zn_eq (by omega) (by omega)] at p; rw [p]; decide
  refine zb_Rule_isName_24 (fun p => yes ?_) (fun p5 => ?_)
  · rw [zn_eq (by omega) (by omega)] at p; rw [p]; decide
  refine zb_Rule_isName_30 (fun p6 => ?_) (fun p => yes ?_)
  rotate_left
  · rw [zn_eq (by omega) (by omega)] at p; rw [p]; decide
  rw [zn_eq (by omega) (by omega)] at p1 p2 p3 p4 p5 p6
  refine zb_Rule_isName_40 (zb_Rule_isName_41 ?_ (Or.inl rfl))
  have : d_let c = none := by
    unfold d_let
    rw [if_neg p1, if_neg p2, if_neg p3, if_neg p4, if_neg p5, if_neg p6]
  rw [he, this]
  exact ⟨_, rfl, rfl, rfl⟩
theorem cc_takesDigit (ho : z_oR o) {i y : Nat} (hR : rRel (cd, wa, cm, dg, wt) σ o) (hI : rI (cd, wa, cm, dg, wt) i) (hi : i < 40) (hy : y < 10) : z_Ci 1 zm_Rule_takesDigit [.inr o, .inl (nI y)] σ (fun r u => r = z_tf (decide (¬ (dg = 3 ∨ (dg = 0 ∧ wt = false)))) ∧ (¬ (dg = 3 ∨ (dg = 0 ∧ wt = false)) → rRel (if dg = 0 then (cd ++ [y], wa, cm, 1, false) else (cd.dropLast ++ [cd.getD (cd.length - 1) 0 * 10 + y], wa, cm, dg + 1, wt)) u o) ∧ z_fr (z_F04 o) σ u) := by
  have e0 : (0 : Int32) = nI 0 := rfl
  obtain ⟨i1, i2, i3, i4, i5, i6⟩ := hI
  simp only at i1 i2 i3 i6
  have f7 : σ.1 o 7 = nI dg := hR.2.2.2.2.2.2.1
  have f8 : σ.1 o 8 = z_tf wt := hR.2.2.2.2.2.2.2
  have f1 : σ.1 o 1 = nI cd.length := hR.1
  refine z_Ci_of (by decide) (Nat.le_of_ble_eq_true rfl) (fun Γ hd he => ?_)
  show z_J Γ zm_Rule_takesDigit 0 [some (.inr o), some (.inl (nI y))] [] σ
  have no : (dg = 3 ∨ (dg = 0 ∧ wt = false)) → z_J Γ zm_Rule_takesDigit 22 [none, none] [] σ := fun z => by
    refine zb_Rule_takesDigit_22 ?_
    rw [he, decide_eq_false (fun z2 => z2 z)]
    exact ⟨_, rfl, rfl, fun z2 => absurd z z2, z_fr.rf⟩
  refine zb_Rule_takesDigit_0 ho (fun p => no ?_) (fun p3 => ?_)
  · rw [f7, zn_eq (by omega) (by omega)] at p
    exact Or.inl p
  rw [f7, zn_eq (by omega) (by omega)] at p3
  have go : (dg = 0 → wt = true) → z_J Γ zm_Rule_takesDigit 24 [some (.inr o), some (.inl (nI y))] [] σ := by
    intro hw
    have hno : ¬ (dg = 3 ∨ (dg = 0 ∧ wt = false)) := fun z => by
      rcases z with z | z
      · exact p3 z
      · rw [hw z.1] at z
        exact absurd z.2 (by decide)
    refine zb_Rule_takesDigit_24 ho (fun p => ?_) (fun p => ?_)
    · rw [f7, e0, zn_eq (by omega) (by omega)] at p
      obtain ⟨g1, g2, g3⟩ := i6 (by omega)
      have hl : 0 < cd.length := List.length_pos_iff.mpr g1
      have e1 : σ.1 o 1 - nI 1 = nI (cd.length - 1) := by rw [f1, zn_pred hl]
      refine zb_Rule_takesDigit_44 ho (k1 := cd.length - 1) (k2 := cd.length - 1) ⟨e1, by omega⟩ ⟨e1, by omega⟩ ?_
      have ev : σ.1 (o + 1) (cd.length - 1) = nI (cd.getD (cd.length - 1) 0) := hR.2.1 (cd.length - 1) (by show cd.length - 1 < cd.length; omega)
      rw [ev, pk_mul, nI_add]
      refine zb_Rule_takesDigit_71 ho ?_
      rw [z_pI_ne (by omega), f7, nI_add, he, decide_eq_true hno]
      refine ⟨_, rfl, rfl, fun _ => ?_, z_f04 (j := 0) (z_f04 (j := 1) z_fr.rf (by decide)) (by decide)⟩
      rw [if_neg p]
      obtain ⟨h1, h2, h3, h4, h5, h6, h7, h8⟩ := hR
      have hlen : (cd.dropLast ++ [cd.getD (cd.length - 1) 0 * 10 + y]).length = cd.length := by simp; omega
      refine ⟨?_, fun j hj => ?_, ?_, ?_, ?_, ?_, z_pI_at _ _ _ _, ?_⟩
      · rw [z_pI_ne2 (by decide), z_pI_ne (by omega)]
        show _ = nI (cd.dropLast ++ [cd.getD (cd.length - 1) 0 * 10 + y]).length
        rw [hlen]
        exact h1
      · change j < (cd.dropLast ++ [cd.getD (cd.length - 1) 0 * 10 + y]).length at hj
        rw [hlen] at hj
        show _ = nI ((cd.dropLast ++ [cd.getD (cd.length - 1) 0 * 10 + y]).getD j 0)
        rw [z_pI_ne (by omega), l_dl_getD g1]
        by_cases e : j = cd.length - 1
        · rw [e, z_pI_at, if_neg (by omega), if_pos rfl]
        · rw [z_pI_ne2 e, if_pos (by omega)]
          exact h2 j hj
      · rw [z_pI_ne2 (by decide), z_pI_ne (by omega)]; exact h3
      · rw [z_pI_ne (by omega), z_pI_ne (by omega)]; exact h4
      · rw [z_pI_ne2 (by decide), z_pI_ne (by omega)]; exact h5
      · rw [z_pI_ne (by omega), z_pI_ne (by omega)]; exact h6
      · rw [z_pI_ne2 (by decide), z_pI_ne (by omega)]; exact h8
    · rw [f7, e0, zn_eq (by omega) (by omega)] at p
      refine zb_Rule_takesDigit_31 ho (cc_emit ho f1 (by omega) _) (by omega) (fun w hw2 => ?_)
      subst hw2
      refine zb_Rule_takesDigit_36 ho ?_
      refine zb_Rule_takesDigit_71 ho ?_
      rw [z_pI_ne2 (show 7 ≠ 8 by decide), z_pI_ne2 (show 7 ≠ 1 by decide), z_pI_ne (show o ≠ o + 1 by omega), f7, nI_add, he, decide_eq_true hno]
      refine ⟨_, rfl, rfl, fun _ => ?_, z_f04 (j := 0) (z_f04 (j := 0) (z_f04 (j := 0) (z_f04 (j := 1) z_fr.rf (by decide)) (by decide)) (by decide)) (by decide)⟩
      rw [if_pos p]
      have := ((hR.emit y).swt false).sdg (dg + 1)
      rw [p] at this ⊢
      exact this
  refine zb_Rule_takesDigit_8 ho (fun p => go (fun z => ?_)) (fun p => ?_)
  · rw [f7, e0, zn_eq (by omega) (by omega)] at p
    exact absurd z p
  rw [f7, e0, zn_eq (by omega) (by omega)] at p
  refine zb_Rule_takesDigit_15 ho (fun p2 => go (fun _ => ?_)) (fun p2 => no ?_)
  · rw [f8, z_tf_eq0, Bool.not_eq_false] at p2
    exact p2
  · rw [f8, z_tf_eq0] at p2
    exact Or.inr ⟨p, p2⟩
theorem cc_takesAhead (ho : z_oR o) {i c : Nat} (hR : rRel (cd, wa, cm, 0, true) σ o) (hI : rI (cd, wa, cm, 0, true) i) (hi : i < 40) (hc : c < 256) (hnd : ¬ r_dg c) : z_Ci 2 zm_Rule_takesAhead [.inr o, .inl (nI c)] σ (fun r u => r = z_tf (r_ok (cd, wa, cm, 0, true) c) ∧ (r_ok (cd, wa, cm, 0, true) c = true → rRel (r_go (cd, wa, cm, 0, true) c) u o) ∧ z_fr (z_F04 o) σ u) := by
  have eo : r_ok (cd, wa, cm, 0, true) c = decide (c = 45 ∨ (c = 40 ∧ cm.length ≠ 5) ∨ d_let c ≠ none) := by
    unfold r_ok
    rw [if_neg hnd, if_pos rfl]
  have eg : r_go (cd, wa, cm, 0, true) c = if c = 45 then (cd, 256 :: wa, cm, 0, true) else if c = 40 then (cd, 40 :: wa, false :: cm, 0, true) else (cd ++ [1000 + c], wa, cm, 0, false) := by
    unfold r_go
    rw [if_neg hnd, if_pos rfl]
  rw [eo, eg]
  obtain ⟨i1, i2, i3, i4, i5, i6⟩ := hI
  simp only at i1 i2
  have f1 : σ.1 o 1 = nI cd.length := hR.1
  have f4 : σ.1 o 4 = nI wa.length := hR.2.2.1
  have f6 : σ.1 o 6 = nI (cm.length - 1) := hR.2.2.2.2.1
  refine z_Ci_of (by decide) (Nat.le_of_ble_eq_true rfl) (fun Γ hd he => ?_)
  show z_J Γ zm_Rule_takesAhead 0 [some (.inr o), some (.inl (nI c))] [] σ
  refine zb_Rule_takesAhead_0 ho (fun p => ?_) (fun p => ?_)
  rotate_left
  · rw [zn_eq (by omega) (by omega)] at p
    refine zb_Rule_takesAhead_6 ho (cc_hold ho f4 (by omega) _) (by omega) (fun w hw => ?_)
    subst hw
    refine zb_Rule_takesAhead_13 ?_
    rw [he, decide_eq_true (Or.inl p)]
    refine ⟨_, rfl, rfl, fun _ => ?_, z_f04 (j := 0) (z_f04 (j := 3) z_fr.rf (by decide)) (by decide)⟩
    rw [if_pos p]
    exact hR.hold 256
  rw [zn_eq (by omega) (by omega)] at p
  refine zb_Rule_takesAhead_15 ho (fun p2 => ?_) (fun p2 => ?_)
  rotate_left
  · rw [zn_eq (by omega) (by omega)] at p2
    have hl : d_let c = none := by rw [p2]; decide
    refine zb_Rule_takesAhead_21 ho (dc := 1) (P := fun r u => r = z_tf (decide (cm.length ≠ 5)) ∧ (cm.length ≠ 5 → rRel (cd, 40 :: wa, false :: cm, 0, true) u o) ∧ z_fr (z_F04 o) σ u) ?_ (by omega) (fun r w hr => ?_)
    · refine z_Ci_of (by decide) (Nat.le_of_ble_eq_true rfl) (fun Γ hd he => ?_)
      show z_J Γ zm_Rule_opens 0 [some (.inr o)] [] σ
      refine zb_Rule_opens_0 ho (fun q => ?_) (fun q => ?_)
      rotate_left
      · rw [f6, zn_eq (by omega) (by omega)] at q
        refine zb_Rule_opens_8 ?_
        rw [he, decide_eq_false (fun z => z (by omega))]
        exact ⟨_, rfl, rfl, fun z => absurd (by omega) z, z_fr.rf⟩
      rw [f6, zn_eq (by omega) (by omega)] at q
      have eb : vp_nar .boolean (nI 0) = nI 0 := by decide
      have e6 : σ.1 o 6 + nI 1 = nI cm.length := by
        rw [f6, nI_add]
        congr 1
        omega
      have hR1 : rRel (cd, wa, false :: cm, 0, true) (z_pI (z_pI σ o 6 (nI cm.length)) (o + 4) cm.length (nI 0)) o := by
        refine hR.cmp ?_ (fun j hj => ?_) (fun k hk => ?_) ?_ ?_
        · rw [z_pI_ne (by omega), z_pI_at]
          simp
        · simp only [List.length_cons] at hj ⊢
          by_cases e : j = cm.length
          · subst e
            rw [z_pI_at, show cm.length + 1 - 1 - cm.length = 0 by omega]
            rfl
          · rw [z_pI_ne2 e, z_pI_ne (by omega), show cm.length + 1 - 1 - j = (cm.length - 1 - j) + 1 by omega, List.getD_cons_succ]
            exact hR.2.2.2.2.2.1 j (by show j < cm.length; omega)
        · rw [z_pI_ne (by omega), z_pI_ne2 hk]
        · rw [z_pI_ne (by omega), z_pI_ne (by omega)]
        · rw [z_pI_ne (by omega), z_pI_ne (by omega)]
      refine zb_Rule_opens_10 ho (k1 := cm.length) (dc := 0) (P := fun u => u = z_pI (z_pI (z_pI (z_pI σ o 6 (nI cm.length)) (o + 4) cm.length (nI 0)) (o + 3) wa.length (nI 40)) o 4 (nI (wa.length + 1))) ⟨by rw [z_pI_at, e6], by omega⟩ (by rw [e6, eb]; exact cc_hold ho hR1.2.2.1 (by show wa.length < 40; omega) _) (by omega) (fun w hw => ?_)
      subst hw
      refine zb_Rule_opens_36 ?_
      rw [he, decide_eq_true (show cm.length ≠ 5 by omega)]
      exact ⟨_, rfl, rfl, fun _ => hR1.hold 40, z_f04 (j := 0) (z_f04 (j := 3) (z_f04 (j := 4) (z_f04 (j := 0) z_fr.rf (by decide)) (by decide)) (by decide)) (by decide)⟩
    · obtain ⟨rfl, h2, h3⟩ := hr
      refine zb_Rule_takesAhead_25 ?_ (z_tf01 _)
      have : (c = 45 ∨ (c = 40 ∧ cm.length ≠ 5) ∨ d_let c ≠ none) ↔ cm.length ≠ 5 := by
        constructor
        · rintro (z | z | z)
          · exact absurd z p
          · exact z.2
          · exact absurd hl z
        · intro z
          exact Or.inr (Or.inl ⟨p2, z⟩)
      rw [he, if_neg p, if_pos p2]
      simp only [this]
      exact ⟨_, rfl, rfl, fun z => h2 (of_decide_eq_true z), h3⟩
  rw [zn_eq (by omega) (by omega)] at p2
  refine zb_Rule_takesAhead_26 ho (cc_isName hc _) (by omega) (fun r w hr => ?_)
  obtain ⟨rfl, rfl⟩ := hr
  have hiff : (c = 45 ∨ (c = 40 ∧ cm.length ≠ 5) ∨ d_let c ≠ none) ↔ d_let c ≠ none := by
    constructor
    · rintro (z | z | z)
      · exact absurd z p
      · exact absurd z.1 p2
      · exact z
    · intro z
      exact Or.inr (Or.inr z)
  rw [if_neg p, if_neg p2] at he
  simp only [hiff] at he
  refine zb_Rule_takesAhead_30 ho (fun p3 => ?_) (fun p3 => ?_)
  · rw [z_tf_eq0, Bool.not_eq_false] at p3
    refine zb_Rule_takesAhead_35 ho (dc := 0) (P := fun u => u = z_pI (z_pI w (o + 1) cd.length (nI (1000 + c))) o 1 (nI (cd.length + 1))) (by rw [nI_add]; exact cc_emit ho f1 (by omega) _) (by omega) (fun w2 hw => ?_)
    subst hw
    refine zb_Rule_takesAhead_44 ho ?_
    rw [he, p3]
    exact ⟨_, rfl, rfl, fun _ => (hR.emit (1000 + c)).swt false, z_f04 (j := 0) (z_f04 (j := 0) (z_f04 (j := 1) z_fr.rf (by decide)) (by decide)) (by decide)⟩
  · rw [z_tf_eq0] at p3
    refine zb_Rule_takesAhead_33 ?_
    rw [he, p3]
    exact ⟨_, rfl, rfl, fun z => absurd z (by decide), z_fr.rf⟩
theorem cc_takesBehind (ho : z_oR o) {i c : Nat} (hR : rRel (cd, wa, cm, 0, false) σ o) (hI : rI (cd, wa, cm, dg, false) i) (hi : i < 40) (hc : c < 256) (hnd : ¬ r_dg c) : z_Ci 3 zm_Rule_takesBehind [.inr o, .inl (nI c)] σ (fun r u => r = z_tf (r_ok (cd, wa, cm, dg, false) c) ∧ (r_ok (cd, wa, cm, dg, false) c = true → rRel (r_go (cd, wa, cm, dg, false) c) u o) ∧ z_fr (z_F04 o) σ u) := by
  have e0 : (0 : Int32) = nI 0 := rfl
  obtain ⟨i1, i2, i3, i4, i5, i6⟩ := hI
  simp only at i1 i2 i4 i5
  have hw256 : ∀ x, x ∈ wa → x ≤ 256 := fun x hx => by
    rcases i4 x hx with z | z <;> omega
  have f6 : σ.1 o 6 = nI (cm.length - 1) := hR.2.2.2.2.1
  refine z_Ci_of (by decide) (Nat.le_of_ble_eq_true rfl) (fun Γ hd he => ?_)
  show z_J Γ zm_Rule_takesBehind 0 [some (.inr o), some (.inl (nI c)), none] [] σ
  refine zb_Rule_takesBehind_0 ho (fun p => ?_) (fun p => ?_)
  rotate_left
  · rw [zn_eq (by omega) (by omega)] at p
    have eo : r_ok (cd, wa, cm, dg, false) c = decide (cm.length ≠ 1) := by
      unfold r_ok
      rw [if_neg hnd, if_neg (by simp), if_pos p]
    have eg : r_go (cd, wa, cm, dg, false) c = ((r_rel 1 cd wa).1, (r_rel 1 cd wa).2.tail, cm.tail, 0, false) := by
      unfold r_go
      rw [if_neg hnd, if_neg (by simp), if_pos p]
    rw [eo, eg] at he
    refine zb_Rule_takesBehind_6 ho (dc := 2) (P := fun r u => r = z_tf (decide (cm.length ≠ 1)) ∧ (cm.length ≠ 1 → rRel ((r_rel 1 cd wa).1, (r_rel 1 cd wa).2.tail, cm.tail, 0, false) u o) ∧ z_fr (z_F04 o) σ u) ?_ (by omega) (fun r w hr => ?_)
    · refine z_Ci_of (by decide) (Nat.le_of_ble_eq_true rfl) (fun Γ hd he => ?_)
      show z_J Γ zm_Rule_closes 0 [some (.inr o)] [] σ
      refine zb_Rule_closes_0 ho (fun q => ?_) (fun q => ?_)
      rotate_left
      · rw [f6, e0, zn_eq (by omega) (by omega)] at q
        refine zb_Rule_closes_7 ?_
        rw [he, decide_eq_false (fun z => z (by omega))]
        exact ⟨_, rfl, rfl, fun z => absurd (by omega) z, z_fr.rf⟩
      rw [f6, e0, zn_eq (by omega) (by omega)] at q
      refine zb_Rule_closes_9 ho (cc_release ho (by decide) hR (by omega) hw256) (by omega) (fun w hw => ?_)
      obtain ⟨R1, F1⟩ := hw
      refine zb_Rule_closes_14 ho ?_
      have hcnt := r_rel_cnt (s := 1) (by decide) wa cd
      rcases r_rel_hd wa cd i4 with z | ⟨t, z⟩
      · rw [z] at hcnt
        simp at hcnt
        omega
      · rw [z] at R1 he
        have g4 : w.1 o 4 = nI (t.length + 1) := R1.2.2.1
        have g6 : w.1 o 6 = nI (cm.length - 1) := R1.2.2.2.2.1
        rw [g4, zn_pred (by omega), z_pI_ne2 (show 6 ≠ 4 by decide), g6, zn_pred (by omega), show t.length + 1 - 1 = t.length by omega, he, decide_eq_true (show cm.length ≠ 1 by omega)]
        refine ⟨_, rfl, rfl, fun _ => ?_, z_f04 (j := 0) (z_f04 (j := 0) F1 (by decide)) (by decide)⟩
        have R2 := R1.pop
        refine R2.cmp ?_ (fun j hj => ?_) (fun k hk => ?_) ?_ ?_
        · rw [z_pI_at, List.length_tail]
        · rw [List.length_tail] at hj ⊢
          rw [z_pI_ne (by omega)]
          have := R2.2.2.2.2.2.1 j (by show j < cm.length; omega)
          rw [this]
          show z_tf (cm.getD (cm.length - 1 - j) false) = z_tf (cm.tail.getD (cm.length - 1 - 1 - j) false)
          cases cm with
          | nil => simp at i2
          | cons b ct =>
            simp only [List.length_cons, List.tail_cons] at hj ⊢
            rw [show ct.length + 1 - 1 - j = (ct.length + 1 - 1 - 1 - j) + 1 by omega, List.getD_cons_succ]
        · rw [z_pI_ne2 hk]
        · rw [z_pI_ne (by omega)]
        · rw [z_pI_ne (by omega)]
    · obtain ⟨rfl, h2, h3⟩ := hr
      refine zb_Rule_takesBehind_10 ?_ (z_tf01 _)
      rw [he]
      exact ⟨_, rfl, rfl, fun z => h2 (of_decide_eq_true z), h3⟩
  rw [zn_eq (by omega) (by omega)] at p
  have eo : r_ok (cd, wa, cm, dg, false) c = decide (¬ (r_sg c = 0 ∨ (r_sg c = 1 ∧ cm.head? = some true))) := by
    unfold r_ok
    rw [if_neg hnd, if_neg (by simp), if_neg p]
  have eg : r_go (cd, wa, cm, dg, false) c = ((r_rel (r_sg c) cd wa).1, c :: (r_rel (r_sg c) cd wa).2, if r_sg c = 1 then true :: cm.tail else cm, 0, true) := by
    unfold r_go
    rw [if_neg hnd, if_neg (by simp), if_neg p]
  rw [eo, eg] at he
  have hsl := r_sg_le c
  refine zb_Rule_takesBehind_11 ho (cc_strengthOf (by omega) _) (by omega) (fun r w hr => ?_)
  obtain ⟨rfl, rfl⟩ := hr
  have no : (r_sg c = 0 ∨ (r_sg c = 1 ∧ cm.head? = some true)) → z_J Γ zm_Rule_takesBehind 37 [none, none, none] [] w := fun z => by
    refine zb_Rule_takesBehind_37 ?_
    rw [he, decide_eq_false (fun z2 => z2 z)]
    exact ⟨_, rfl, rfl, fun z => absurd z (by decide), z_fr.rf⟩
  refine zb_Rule_takesBehind_15 ho (fun q => no ?_) (fun q => ?_)
  · rw [e0, zn_eq (by omega) (by omega)] at q
    exact Or.inl q
  rw [e0, zn_eq (by omega) (by omega)] at q
  -- the join is held
  have hold : ∀ (w2 : zS) (cm' : List Bool), rRel (cd, wa, cm', 0, false) w2 o → z_fr (z_F04 o) w w2 → cm' = (if r_sg c = 1 then true :: cm.tail else cm) → ¬ (r_sg c = 1 ∧ cm.head? = some true) → z_J Γ zm_Rule_takesBehind 54 [some (.inr o), some (.inl (nI c)), some (.inl (nI (r_sg c)))] [] w2 := by
    intro w2 cm' R2 F2 hcm hno
    refine zb_Rule_takesBehind_54 ho (cc_release ho hsl R2 (by omega) hw256) (by omega) (fun w3 h3 => ?_)
    obtain ⟨R3, F3⟩ := h3
    have hl := r_rel_len (r_sg c) wa cd
    refine zb_Rule_takesBehind_59 ho (cc_hold ho R3.2.2.1 (by show (r_rel (r_sg c) cd wa).2.length < 40; omega) _) (by omega) (fun w4 h4 => ?_)
    subst h4
    refine zb_Rule_takesBehind_64 ho ?_
    rw [he, decide_eq_true (show ¬ (r_sg c = 0 ∨ (r_sg c = 1 ∧ cm.head? = some true)) from fun z => z.elim q hno)]
    refine ⟨_, rfl, rfl, fun _ => ?_, z_f04 (j := 0) (z_f04 (j := 0) (z_f04 (j := 3) (F2.tr F3) (by decide)) (by decide)) (by decide)⟩
    have := (R3.hold c).swt true
    rw [hcm] at this
    exact this
  have e1 : cm.head? = some true ↔ cm.getD 0 false = true := by
    cases cm with
    | nil => simp
    | cons b ct => simp
  have f4 : w.1 (o + 4) (cm.length - 1) = z_tf (cm.getD 0 false) := by
    have := hR.2.2.2.2.2.1 (cm.length - 1) (by show cm.length - 1 < cm.length; omega)
    rw [this]
    show z_tf (cm.getD (cm.length - 1 - (cm.length - 1)) false) = _
    rw [Nat.sub_self]
  refine zb_Rule_takesBehind_20 ho (fun q2 => ?_) (fun q2 => ?_)
  · rw [zn_eq (by omega) (by omega)] at q2
    refine zb_Rule_takesBehind_39 ho (fun _ => hold w cm hR z_fr.rf (by rw [if_neg q2]) (fun z => q2 z.1)) (fun q3 => ?_)
    rw [zn_eq (by omega) (by omega)] at q3
    exact absurd q3 q2
  rw [zn_eq (by omega) (by omega)] at q2
  refine zb_Rule_takesBehind_25 ho (k1 := cm.length - 1) ⟨f6, by omega⟩ (fun q3 => ?_) (fun q3 => no ?_)
  rotate_left
  · rw [f4, z_tf_eq0, Bool.not_eq_false] at q3
    exact Or.inr ⟨q2, e1.mpr q3⟩
  rw [f4, z_tf_eq0] at q3
  refine zb_Rule_takesBehind_39 ho (fun q4 => ?_) (fun _ => ?_)
  · rw [zn_eq (by omega) (by omega)] at q4
    exact absurd q2 q4
  have eb : vp_nar .boolean (nI 1) = nI 1 := by decide
  refine zb_Rule_takesBehind_44 ho (k1 := cm.length - 1) ⟨f6, by omega⟩ ?_
  rw [eb]
  refine hold _ (true :: cm.tail) ?_ (z_f04 (j := 4) z_fr.rf (by decide)) (by rw [if_pos q2]) (fun z => by rw [e1, q3] at z; exact absurd z.2 (by decide))
  have hlt : (true :: cm.tail).length = cm.length := by
    rw [List.length_cons, List.length_tail]
    omega
  refine hR.cmp ?_ (fun j hj => ?_) (fun k hk => ?_) ?_ ?_
  · rw [z_pI_ne (by omega), hlt]
    exact f6
  · rw [hlt] at hj ⊢
    by_cases e : j = cm.length - 1
    · rw [e, z_pI_at, Nat.sub_self]
      rfl
    · rw [z_pI_ne2 e]
      have := hR.2.2.2.2.2.1 j (by show j < cm.length; omega)
      rw [this]
      show z_tf (cm.getD (cm.length - 1 - j) false) = z_tf ((true :: cm.tail).getD (cm.length - 1 - j) false)
      cases cm with
      | nil => simp at i2
      | cons b ct =>
        simp only [List.length_cons, List.tail_cons] at hj e ⊢
        rw [show ct.length + 1 - 1 - j = (ct.length - 1 - j) + 1 by omega, List.getD_cons_succ, List.getD_cons_succ]
  · rw [z_pI_ne (by omega)]
  · rw [z_pI_ne (by omega)]
  · rw [z_pI_ne (by omega)]
theorem cc_rtakes (ho : z_oR o) {q : rQ} {i c : Nat} (hR : rRel q σ o) (hI : rI q i) (hi : i < 40) (hc : c < 256) : z_Ci 4 zm_Rule_takes [.inr o, .inl (nI c)] σ (fun r u => r = z_tf (r_ok q c) ∧ (r_ok q c = true → rRel (r_go q c) u o) ∧ z_fr (z_F04 o) σ u) := by
  obtain ⟨cd, wa, cm, dg, wt⟩ := q
  refine z_Ci_of (by decide) (Nat.le_of_ble_eq_true rfl) (fun Γ hd he => ?_)
  show z_J Γ zm_Rule_takes 0 [some (.inr o), some (.inl (nI c))] [] σ
  refine zb_Rule_takes_0 ho (dc := 0) (P := z_is (z_tf (decide (48 ≤ c ∧ c < 58))) σ) (cc_isDigit hc _) (by omega) (fun r w hr => ?_)
  obtain ⟨rfl, rfl⟩ := hr
  refine zb_Rule_takes_4 ho (fun p => ?_) (fun p => ?_)
  rotate_left
  · rw [z_tf_eq0, Bool.not_eq_false, decide_eq_true_eq] at p
    have eo : r_ok (cd, wa, cm, dg, wt) c = decide (¬ (dg = 3 ∨ (dg = 0 ∧ wt = false))) := by
      unfold r_ok
      rw [if_pos p]
    have eg : r_go (cd, wa, cm, dg, wt) c = if dg = 0 then (cd ++ [c - 48], wa, cm, 1, false) else (cd.dropLast ++ [cd.getD (cd.length - 1) 0 * 10 + (c - 48)], wa, cm, dg + 1, wt) := by
      unfold r_go
      rw [if_pos p]
    rw [eo, eg] at he
    refine zb_Rule_takes_7 ho (dc := 1) (P := fun r u => r = z_tf (decide (¬ (dg = 3 ∨ (dg = 0 ∧ wt = false)))) ∧ (¬ (dg = 3 ∨ (dg = 0 ∧ wt = false)) → rRel (if dg = 0 then (cd ++ [c - 48], wa, cm, 1, false) else (cd.dropLast ++ [cd.getD (cd.length - 1) 0 * 10 + (c - 48)], wa, cm, dg + 1, wt)) u o) ∧ z_fr (z_F04 o) w u) (by rw [pk_sub p.1]; exact cc_takesDigit ho hR hI hi (by omega)) (by omega) (fun r w2 hr => ?_)
    obtain ⟨rfl, h2, h3⟩ := hr
    refine zb_Rule_takes_15 ?_ (z_tf01 _)
    rw [he]
    exact ⟨_, rfl, rfl, fun z => h2 (of_decide_eq_true z), h3⟩
  rw [z_tf_eq0, decide_eq_false_iff_not] at p
  have hR0 := hR.sdg 0
  have f8 : (z_pI w o 7 (nI 0)).1 o 8 = z_tf wt := hR0.2.2.2.2.2.2.2
  refine zb_Rule_takes_16 ho (fun p2 => ?_) (fun p2 => ?_)
  · rw [f8, z_tf_eq0] at p2
    subst p2
    refine zb_Rule_takes_36 ho (cc_takesBehind ho hR0 hI hi hc p) (by omega) (fun r w2 hr => ?_)
    obtain ⟨rfl, h2, h3⟩ := hr
    refine zb_Rule_takes_41 ?_ (z_tf01 _)
    rw [he]
    exact ⟨_, rfl, rfl, h2, z_fr.tr (z_f04 (j := 0) z_fr.rf (by decide)) h3⟩
  · rw [f8, z_tf_eq0, Bool.not_eq_false] at p2
    subst p2
    have hd0 : dg = 0 := by
      rcases Nat.eq_zero_or_pos dg with z | z
      · exact z
      · have := (hI.2.2.2.2.2 z).2.2
        exact absurd this (by simp)
    subst hd0
    refine zb_Rule_takes_28 ho (cc_takesAhead ho hR0 hI hi hc p) (by omega) (fun r w2 hr => ?_)
    obtain ⟨rfl, h2, h3⟩ := hr
    refine zb_Rule_takes_33 (zb_Rule_takes_41 ?_ (z_tf01 _))
    rw [he]
    exact ⟨_, rfl, rfl, h2, z_fr.tr (z_f04 (j := 0) z_fr.rf (by decide)) h3⟩
theorem cc_rread (ho : z_oR o) {L : Nat} {X : Nat → Nat} (hL : L ≤ 80) (hX : ∀ i, i < L → X i < 256 ∧ σ.1 1 i = nI (X i)) : z_Ci 5 zm_Rule_read [.inr o, .inr 1, .inl (nI L)] σ (fun r u => r = w_I (sc_b (r_okk X) (r_fin (r_sta X L)) L) ∧ (sc_b (r_okk X) (r_fin (r_sta X L)) L = none → u.1 o 1 = nI (r_rel 1 (r_sta X L).1 (r_sta X L).2.1).1.length ∧ ∀ i, i < (r_rel 1 (r_sta X L).1 (r_sta X L).2.1).1.length → u.1 (o + 1) i = nI ((r_rel 1 (r_sta X L).1 (r_sta X L).2.1).1.getD i 0)) ∧ z_fr (z_F04 o) σ u) := by
  have e0 : (0 : Int32) = nI 0 := rfl
  have eb : vp_nar .boolean (nI 0) = nI 0 := by decide
  refine z_Ci_of (by decide) (Nat.le_of_ble_eq_true rfl) (fun Γ hd he => ?_)
  show z_J Γ zm_Rule_read 0 [some (.inr o), some (.inr 1), some (.inl (nI L)), none] [] σ
  refine zb_Rule_read_0 ho (k1 := 0) (z_ixn (by omega)) ?_
  rw [eb]
  refine zj_forM (fun k Ls w => ∃ i, k = L - i ∧ i ≤ L ∧ Ls = [some (.inr o), some (.inr 1), some (.inl (nI L)), some (.inl (nI i))] ∧ (∀ j, j < i → r_okk X j = true) ∧ rRel (r_sta X i) w o ∧ z_fr (z_F04 o) σ w) (fun k Ls w hI kk => ?_) L _ _ ⟨0, rfl, Nat.zero_le _, rfl, fun j hj => absurd hj (by omega), ⟨?_, fun i hi => absurd hi (by simp [r_sta]), ?_, fun i hi => absurd hi (by simp [r_sta]), ?_, fun i hi => ?_, ?_, ?_⟩, z_f04 (j := 0) (z_f04 (j := 4) (z_f04 (j := 0) (z_f04 (j := 0) (z_f04 (j := 0) (z_f04 (j := 0) z_fr.rf (by decide)) (by decide)) (by decide)) (by decide)) (by decide)) (by decide)⟩
  rotate_left
  · rw [z_pI_ne2 (by decide), z_pI_ne (by omega), z_pI_ne2 (by decide), z_pI_ne2 (by decide), z_pI_ne2 (by decide), z_pI_at]
    rfl
  · rw [z_pI_ne2 (by decide), z_pI_ne (by omega), z_pI_ne2 (by decide), z_pI_ne2 (by decide), z_pI_at]
    rfl
  · rw [z_pI_ne2 (by decide), z_pI_ne (by omega), z_pI_ne2 (by decide), z_pI_at]
    rfl
  · have : i = 0 := by simp [r_sta] at hi; exact hi
    subst this
    rw [z_pI_ne (by omega), z_pI_at]
    rfl
  · rw [z_pI_ne2 (by decide), z_pI_ne (by omega), z_pI_at]
    rfl
  · rw [z_pI_at]
    rfl
  obtain ⟨i, rfl, hi, rfl, hok, hR, hF⟩ := hI
  have f1 : w.1 1 = σ.1 1 := (hF 1 (by rcases ho with z | z <;> subst z <;> show ¬ (_ ≤ 1 ∧ 1 ≤ _) <;> omega)).1
  have hrI := rI_st i (fun j hj => (hX j (by omega)).1) hok
  have h40 := r_i40 hok
  refine zb_Rule_read_34 ho (fun p => ?_) (fun p => ?_)
  · rw [zn_le (by omega) (by omega)] at p
    have e : i = L := by omega
    subst e
    rw [sc_b_end hok] at he
    generalize r_sta X i = q at *
    obtain ⟨cd, wa, cm, dg, wt⟩ := q
    obtain ⟨i1, i2, i3, i4, i5, i6⟩ := hrI
    simp only at i1 i2 i4 i5
    have f6 : w.1 o 6 = nI (cm.length - 1) := hR.2.2.2.2.1
    have f8 : w.1 o 8 = z_tf wt := hR.2.2.2.2.2.2.2
    have no : r_fin (cd, wa, cm, dg, wt) = false → z_J Γ zm_Rule_read 77 [none, none, some (.inl (nI i)), none] [] w := fun z => by
      refine zb_Rule_read_77 ?_
      rw [he, z, if_neg (by decide)]
      exact ⟨_, rfl, rfl, fun z => absurd z (by simp), hF⟩
    refine zb_Rule_read_63 ho (fun p2 => no ?_) (fun p2 => ?_)
    · rw [f8, z_tf_eq0, Bool.not_eq_false] at p2
      unfold r_fin
      rw [show (cd, wa, cm, dg, wt).2.2.2.2 = true from p2]
      rfl
    rw [f8, z_tf_eq0] at p2
    refine zb_Rule_read_70 ho (fun p3 => ?_) (fun p3 => no ?_)
    rotate_left
    · rw [f6, e0, zn_le (by omega) (by omega)] at p3
      unfold r_fin
      rw [decide_eq_false (show ¬ cm.length = 1 by omega), Bool.and_false]
    rw [f6, e0, zn_le (by omega) (by omega)] at p3
    have hfin : r_fin (cd, wa, cm, dg, wt) = true := by
      unfold r_fin
      rw [decide_eq_true (show cm.length = 1 by omega), show (cd, wa, cm, dg, wt).2.2.2.2 = false from p2]
      rfl
    refine zb_Rule_read_79 ho (cc_release ho (by decide) hR (by omega) (fun x hx => by rcases i4 x hx with z | z <;> omega)) (by omega) (fun w2 h2 => ?_)
    obtain ⟨R2, F2⟩ := h2
    refine zb_Rule_read_84 ?_
    rw [he, hfin, if_pos rfl]
    exact ⟨_, rfl, rfl, fun _ => ⟨R2.1, R2.2.1⟩, hF.tr F2⟩
  rw [zn_le (by omega) (by omega)] at p
  have bad : r_okk X i = false → ∀ w2, z_fr (z_F04 o) σ w2 → z_J Γ zm_Rule_read 55 [none, none, none, some (.inl (nI i))] [] w2 := fun hb w2 hF2 => by
    refine zb_Rule_read_55 ?_
    rw [he, sc_b_at hok (by omega) hb]
    exact ⟨_, rfl, rfl, fun z => absurd z (by simp), hF2⟩
  refine zb_Rule_read_39 ho (fun p2 => bad ?_ w hF) (fun p2 => ?_)
  · rw [zn_eq (by omega) (by omega)] at p2
    subst p2
    rfl
  rw [zn_eq (by omega) (by omega)] at p2
  obtain ⟨x1, x2⟩ := hX i (by omega)
  have hokk : r_okk X i = r_ok (r_sta X i) (X i) := by
    unfold r_okk
    rw [decide_eq_true p2, Bool.true_and]
  refine zb_Rule_read_45 ho (k1 := i) (dc := 4) (P := fun r u => r = z_tf (r_ok (r_sta X i) (X i)) ∧ (r_ok (r_sta X i) (X i) = true → rRel (r_go (r_sta X i) (X i)) u o) ∧ z_fr (z_F04 o) w u) (z_ixn (by omega)) (by rw [f1, x2]; exact cc_rtakes ho hR hrI (by omega) x1) (by omega) (fun r w2 hr => ?_)
  obtain ⟨rfl, h2, h3⟩ := hr
  refine zb_Rule_read_52 ho (fun p3 => ?_) (fun p3 => ?_)
  · rw [z_tf_eq0, Bool.not_eq_false] at p3
    refine zb_Rule_read_57 ho ?_
    rw [nI_add]
    refine kk _ _ w2 (show L - (i + 1) < L - i by omega) ⟨i + 1, rfl, by omega, rfl, fun j hj => ?_, h2 p3, hF.tr h3⟩
    by_cases e : j = i
    · subst e
      rw [hokk]
      exact p3
    · exact hok j (by omega)
  · rw [z_tf_eq0] at p3
    exact bad (by rw [hokk]; exact p3) w2 (hF.tr h3)
end
