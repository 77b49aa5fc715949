/-! the program: a rule is read -/
/-- a rule's rows as it is read -/
def rRel (q : rQ) (σ : zS) (o : Nat) : Prop := σ.1 o 1 = nI q.1.length ∧ (∀ i, i < q.1.length → σ.1 (o + 1) i = nI (q.1.getD i 0)) ∧ σ.1 o 4 = nI q.2.1.length ∧ (∀ i, i < q.2.1.length → σ.1 (o + 3) i = nI (q.2.1.getD (q.2.1.length - 1 - i) 0)) ∧ σ.1 o 6 = nI (q.2.2.1.length - 1) ∧ (∀ i, i < q.2.2.1.length → σ.1 (o + 4) i = z_tf (q.2.2.1.getD (q.2.2.1.length - 1 - i) false)) ∧ σ.1 o 7 = nI q.2.2.2.1 ∧ σ.1 o 8 = z_tf q.2.2.2.2
/-- what is true of a rule's reading at i -/
def rI (q : rQ) (i : Nat) : Prop := q.1.length + q.2.1.length ≤ i ∧ (1 ≤ q.2.2.1.length ∧ q.2.2.1.length ≤ 5) ∧ q.2.2.2.1 ≤ 3 ∧ (∀ x, x ∈ q.2.1 → x = 40 ∨ (1 ≤ r_sg x ∧ x ≤ 256)) ∧ q.2.1.count 40 + 1 = q.2.2.1.length ∧ (0 < q.2.2.2.1 → q.1 ≠ [] ∧ q.1.getD (q.1.length - 1) 0 < 10 ^ q.2.2.2.1 ∧ q.2.2.2.2 = false)
theorem r_sg_le (x : Nat) : r_sg x ≤ 4 := by
  unfold r_sg
  repeat' split
  all_goals omega
theorem r_rel_len (s : Nat) : ∀ (wa cd : List Nat), (r_rel s cd wa).1.length + (r_rel s cd wa).2.length = cd.length + wa.length
  | [], cd => rfl
  | x :: t, cd => by
    rw [r_rel]
    split
    · rw [r_rel_len s t]
      simp
      omega
    · rfl
theorem r_rel_mem (s : Nat) : ∀ (wa cd : List Nat) (x : Nat), x ∈ (r_rel s cd wa).2 → x ∈ wa
  | [], cd, x, h => h
  | y :: t, cd, x, h => by
    rw [r_rel] at h
    split at h
    · exact List.mem_cons_of_mem _ (r_rel_mem s t _ x h)
    · exact h
theorem r_rel_cnt {s : Nat} (hs : 1 ≤ s) : ∀ (wa cd : List Nat), (r_rel s cd wa).2.count 40 = wa.count 40
  | [], cd => rfl
  | x :: t, cd => by
    rw [r_rel]
    split
    · rename_i h
      rw [r_rel_cnt hs t]
      have : x ≠ 40 := fun e => by
        subst e
        have h4 : r_sg 40 = 0 := by decide
        omega
      rw [List.count_cons_of_ne this]
    · rfl
theorem r_rel_hd : ∀ (wa cd : List Nat), (∀ x, x ∈ wa → x = 40 ∨ (1 ≤ r_sg x ∧ x ≤ 256)) → (r_rel 1 cd wa).2 = [] ∨ ∃ t, (r_rel 1 cd wa).2 = 40 :: t
  | [], cd, _ => Or.inl rfl
  | x :: t, cd, h => by
    rw [r_rel]
    split
    · exact r_rel_hd t _ (fun y hy => h y (List.mem_cons_of_mem _ hy))
    · rename_i hs
      rcases h x (by simp) with z | z
      · exact Or.inr ⟨t, by rw [z]⟩
      · omega
theorem rI_go {q : rQ} {i c : Nat} (h : rI q i) (hc : c < 256) (hok : r_ok q c = true) : rI (r_go q c) (i + 1) := by
  obtain ⟨cd, wa, cm, dg, wt⟩ := q
  obtain ⟨h1, h2, h3, h4, h5, h6⟩ := h
  simp only at h1 h2 h3 h4 h5 h6
  unfold r_ok at hok
  unfold r_go
  simp only at hok ⊢
  by_cases qd : r_dg c
  · rw [if_pos qd] at hok ⊢
    have ho := of_decide_eq_true hok
    by_cases q0 : dg = 0
    · rw [if_pos q0]
      refine ⟨by simp; omega, h2, by simp, h4, h5, fun _ => ⟨by simp, ?_, rfl⟩⟩
      show (cd ++ [c - 48]).getD ((cd ++ [c - 48]).length - 1) 0 < 10 ^ 1
      rw [l_app_getD, if_neg (by simp), if_pos (by simp)]
      omega
    · rw [if_neg q0]
      obtain ⟨g1, g2, g3⟩ := h6 (by omega)
      have hl : 0 < cd.length := List.length_pos_iff.mpr g1
      have hd3 : dg ≠ 3 := fun z => ho (Or.inl z)
      refine ⟨by simp; omega, h2, by show dg + 1 ≤ 3; omega, h4, h5, fun _ => ⟨by simp, ?_, g3⟩⟩
      show (cd.dropLast ++ [cd.getD (cd.length - 1) 0 * 10 + (c - 48)]).getD ((cd.dropLast ++ [cd.getD (cd.length - 1) 0 * 10 + (c - 48)]).length - 1) 0 < 10 ^ (dg + 1)
      rw [l_dl_getD g1]
      have e : (cd.dropLast ++ [cd.getD (cd.length - 1) 0 * 10 + (c - 48)]).length - 1 = cd.length - 1 := by simp
      rw [e, if_neg (by omega), if_pos rfl, Nat.pow_succ]
      omega
  · rw [if_neg qd] at hok ⊢
    by_cases qw : wt = true
    · rw [if_pos qw] at hok ⊢
      have ho := of_decide_eq_true hok
      by_cases q45 : c = 45
      · rw [if_pos q45]
        refine ⟨by simp; omega, h2, by simp, fun x hx => ?_, ?_, fun z => absurd z (by simp)⟩
        · rcases List.mem_cons.mp hx with z | z
          · rw [z]
            exact Or.inr ⟨by decide, by decide⟩
          · exact h4 x z
        · show (256 :: wa).count 40 + 1 = cm.length
          rw [List.count_cons_of_ne (by decide)]
          exact h5
      · rw [if_neg q45]
        by_cases q40 : c = 40
        · rw [if_pos q40]
          have hcm : cm.length ≠ 5 := by
            rcases ho with z | z | z
            · exact absurd z q45
            · exact z.2
            · rw [q40] at z
              exact absurd (by decide) z
          refine ⟨by simp; omega, by simp; omega, by simp, fun x hx => ?_, ?_, fun z => absurd z (by simp)⟩
          · rcases List.mem_cons.mp hx with z | z
            · exact Or.inl z
            · exact h4 x z
          · show (40 :: wa).count 40 + 1 = (false :: cm).length
            rw [List.count_cons_self, List.length_cons]
            omega
        · rw [if_neg q40]
          exact ⟨by simp; omega, h2, by simp, h4, h5, fun z => absurd z (by simp)⟩
    · rw [if_neg qw] at hok ⊢
      by_cases q41 : c = 41
      · rw [if_pos q41] at hok ⊢
        have ho : cm.length ≠ 1 := of_decide_eq_true hok
        have hl := r_rel_len 1 wa cd
        have hcnt := r_rel_cnt (s := 1) (by decide) wa cd
        rcases r_rel_hd wa cd h4 with z | ⟨t, z⟩
        · rw [z] at hcnt
          simp at hcnt
          omega
        · rw [z] at hl hcnt ⊢
          rw [List.count_cons_self] at hcnt
          simp only [List.length_cons] at hl
          refine ⟨by show (r_rel 1 cd wa).1.length + t.length ≤ i + 1; omega, by simp; omega, by simp, fun x hx => ?_, ?_, fun z => absurd z (by simp)⟩
          · refine h4 x (r_rel_mem 1 wa cd x ?_)
            rw [z]
            exact List.mem_cons_of_mem _ hx
          · show t.count 40 + 1 = cm.tail.length
            rw [List.length_tail]
            omega
      · rw [if_neg q41] at hok ⊢
        have ho := of_decide_eq_true hok
        have hs0 : r_sg c ≠ 0 := fun z => ho (Or.inl z)
        have hl := r_rel_len (r_sg c) wa cd
        have hcnt := r_rel_cnt (s := r_sg c) (by omega) wa cd
        have c40 : c ≠ 40 := fun z => by
          rw [z] at hs0
          exact hs0 (by decide)
        have hcl : (if r_sg c = 1 then true :: cm.tail else cm).length = cm.length := by
          split
          · rw [List.length_cons, List.length_tail]
            omega
          · rfl
        refine ⟨by show _ + (c :: (r_rel (r_sg c) cd wa).2).length ≤ i + 1; simp only [List.length_cons]; omega, by show 1 ≤ (if r_sg c = 1 then true :: cm.tail else cm).length ∧ (if r_sg c = 1 then true :: cm.tail else cm).length ≤ 5; rw [hcl]; exact h2, by simp, fun x hx => ?_, ?_, fun z => absurd z (by simp)⟩
        · rcases List.mem_cons.mp hx with z | z
          · rw [z]
            exact Or.inr ⟨by omega, by omega⟩
          · exact h4 x (r_rel_mem _ wa cd x z)
        · show (c :: (r_rel (r_sg c) cd wa).2).count 40 + 1 = (if r_sg c = 1 then true :: cm.tail else cm).length
          rw [List.count_cons_of_ne c40, hcnt, hcl]
          exact h5
theorem rI_st {X : Nat → Nat} : ∀ i, (∀ j, j < i → X j < 256) → (∀ j, j < i → r_okk X j = true) → rI (r_sta X i) i
  | 0, _, _ => ⟨by simp [r_sta], by simp [r_sta], by simp [r_sta], fun x hx => absurd hx (by simp [r_sta]), by simp [r_sta], fun z => absurd z (by simp [r_sta])⟩
  | i + 1, hX, h => by
    have ih := rI_st i (fun j hj => hX j (by omega)) (fun j hj => h j (by omega))
    have ho := h i (by omega)
    unfold r_okk at ho
    rw [Bool.and_eq_true] at ho
    exact rI_go ih (hX i (by omega)) ho.2
theorem r_i40 {X : Nat → Nat} {i : Nat} (h : ∀ j, j < i → r_okk X j = true) : i ≤ 40 := by
  rcases Nat.lt_or_ge 40 i with q | q
  · have := h 40 q
    unfold r_okk at this
    simp at this
  · exact q
abbrev z_F04 (o : Nat) : Nat → Prop := fun q => o ≤ q ∧ q ≤ o + 4
section
variable {σ u : zS} {o : Nat} {cd wa : List Nat} {cm : List Bool} {dg : Nat} {wt : Bool}
theorem rRel.emit (h : rRel (cd, wa, cm, dg, wt) σ o) (x : Nat) : rRel (cd ++ [x], wa, cm, dg, wt) (z_pI (z_pI σ (o + 1) cd.length (nI x)) o 1 (nI (cd.length + 1))) o := by
  obtain ⟨h1, h2, h3, h4, h5, h6, h7, h8⟩ := h
  refine ⟨by rw [z_pI_at]; simp, fun i hi => ?_, ?_, ?_, ?_, ?_, ?_, ?_⟩
  · show (z_pI (z_pI σ (o + 1) cd.length (nI x)) o 1 (nI (cd.length + 1))).1 (o + 1) i = nI ((cd ++ [x]).getD i 0)
    change i < (cd ++ [x]).length at hi
    simp only [List.length_append, List.length_cons, List.length_nil] at hi
    rw [z_pI_ne (by omega), l_app_getD]
    by_cases e : i = cd.length
    · subst e
      rw [z_pI_at, if_neg (by omega), if_pos rfl]
    · rw [z_pI_ne2 e, if_pos (by omega)]
      exact h2 i (by show i < cd.length; omega)
  · rw [z_pI_ne2 (by decide), z_pI_ne (by omega)]; exact h3
  · rw [z_pI_ne (by omega), z_pI_ne (by omega)]; exact h4
  · rw [z_pI_ne2 (by decide), z_pI_ne (by omega)]; exact h5
  · rw [z_pI_ne (by omega), z_pI_ne (by omega)]; exact h6
  · rw [z_pI_ne2 (by decide), z_pI_ne (by omega)]; exact h7
  · rw [z_pI_ne2 (by decide), z_pI_ne (by omega)]; exact h8
theorem rRel.hold (h : rRel (cd, wa, cm, dg, wt) σ o) (x : Nat) : rRel (cd, x :: wa, cm, dg, wt) (z_pI (z_pI σ (o + 3) wa.length (nI x)) o 4 (nI (wa.length + 1))) o := by
  obtain ⟨h1, h2, h3, h4, h5, h6, h7, h8⟩ := h
  refine ⟨?_, ?_, by rw [z_pI_at]; simp, fun i hi => ?_, ?_, ?_, ?_, ?_⟩
  · rw [z_pI_ne2 (by decide), z_pI_ne (by omega)]; exact h1
  · rw [z_pI_ne (by omega), z_pI_ne (by omega)]; exact h2
  · show (z_pI (z_pI σ (o + 3) wa.length (nI x)) o 4 (nI (wa.length + 1))).1 (o + 3) i = nI ((x :: wa).getD ((x :: wa).length - 1 - i) 0)
    change i < (x :: wa).length at hi
    simp only [List.length_cons] at hi ⊢
    rw [z_pI_ne (by omega)]
    by_cases e : i = wa.length
    · subst e
      rw [z_pI_at, show wa.length + 1 - 1 - wa.length = 0 by omega]
      rfl
    · rw [z_pI_ne2 e, show wa.length + 1 - 1 - i = (wa.length - 1 - i) + 1 by omega, List.getD_cons_succ]
      exact h4 i (by show i < wa.length; omega)
  · rw [z_pI_ne2 (by decide), z_pI_ne (by omega)]; exact h5
  · rw [z_pI_ne (by omega), z_pI_ne (by omega)]; exact h6
  · rw [z_pI_ne2 (by decide), z_pI_ne (by omega)]; exact h7
  · rw [z_pI_ne2 (by decide), z_pI_ne (by omega)]; exact h8
/-- the latest that waits is taken away -/
theorem rRel.pop {x : Nat} (h : rRel (cd, x :: wa, cm, dg, wt) σ o) : rRel (cd, wa, cm, dg, wt) (z_pI σ o 4 (nI wa.length)) o := by
  obtain ⟨h1, h2, h3, h4, h5, h6, h7, h8⟩ := h
  refine ⟨?_, ?_, z_pI_at _ _ _ _, fun i hi => ?_, ?_, ?_, ?_, ?_⟩
  · rw [z_pI_ne2 (by decide)]; exact h1
  · rw [z_pI_ne (by omega)]; exact h2
  · rw [z_pI_ne (by omega)]
    change i < wa.length at hi
    have := h4 i (by show i < (x :: wa).length; simp; omega)
    rw [this]
    show nI ((x :: wa).getD ((x :: wa).length - 1 - i) 0) = nI (wa.getD (wa.length - 1 - i) 0)
    simp only [List.length_cons]
    rw [show wa.length + 1 - 1 - i = (wa.length - 1 - i) + 1 by omega, List.getD_cons_succ]
  · rw [z_pI_ne2 (by decide)]; exact h5
  · rw [z_pI_ne (by omega)]; exact h6
  · rw [z_pI_ne2 (by decide)]; exact h7
  · rw [z_pI_ne2 (by decide)]; exact h8
theorem rRel.sdg (h : rRel (cd, wa, cm, dg, wt) σ o) (d : Nat) : rRel (cd, wa, cm, d, wt) (z_pI σ o 7 (nI d)) o := by
  obtain ⟨h1, h2, h3, h4, h5, h6, h7, h8⟩ := h
  refine ⟨?_, ?_, ?_, ?_, ?_, ?_, z_pI_at _ _ _ _, ?_⟩
  · rw [z_pI_ne2 (by decide)]; exact h1
  · rw [z_pI_ne (by omega)]; exact h2
  · rw [z_pI_ne2 (by decide)]; exact h3
  · rw [z_pI_ne (by omega)]; exact h4
  · rw [z_pI_ne2 (by decide)]; exact h5
  · rw [z_pI_ne (by omega)]; exact h6
  · rw [z_pI_ne2 (by decide)]; exact h8
theorem rRel.swt (h : rRel (cd, wa, cm, dg, wt) σ o) (b : Bool) : rRel (cd, wa, cm, dg, b) (z_pI σ o 8 (z_tf b)) o := by
  obtain ⟨h1, h2, h3, h4, h5, h6, h7, h8⟩ := h
  refine ⟨?_, ?_, ?_, ?_, ?_, ?_, ?_, z_pI_at _ _ _ _⟩
  · rw [z_pI_ne2 (by decide)]; exact h1
  · rw [z_pI_ne (by omega)]; exact h2
  · rw [z_pI_ne2 (by decide)]; exact h3
  · rw [z_pI_ne (by omega)]; exact h4
  · rw [z_pI_ne2 (by decide)]; exact h5
  · rw [z_pI_ne (by omega)]; exact h6
  · rw [z_pI_ne2 (by decide)]; exact h7
/-- compared flags -/
theorem rRel.cmp (h : rRel (cd, wa, cm, dg, wt) σ o) {cm' : List Bool} (h6' : u.1 o 6 = nI (cm'.length - 1)) (hc : ∀ i, i < cm'.length → u.1 (o + 4) i = z_tf (cm'.getD (cm'.length - 1 - i) false)) (hk : ∀ k, k ≠ 6 → u.1 o k = σ.1 o k) (h1' : u.1 (o + 1) = σ.1 (o + 1)) (h3' : u.1 (o + 3) = σ.1 (o + 3)) : rRel (cd, wa, cm', dg, wt) u o := by
  obtain ⟨h1, h2, h3, h4, h5, h6, h7, h8⟩ := h
  refine ⟨?_, ?_, ?_, ?_, h6', hc, ?_, ?_⟩
  · rw [hk 1 (by decide)]; exact h1
  · rw [h1']; exact h2
  · rw [hk 4 (by decide)]; exact h3
  · rw [h3']; exact h4
  · rw [hk 7 (by decide)]; exact h7
  · rw [hk 8 (by decide)]; exact h8
theorem cc_strengthOf {x : Nat} (hx : x < 2147483648) (σ : zS) : z_Ci 0 zm_Rule_strengthOf [.inl (nI x)] σ (z_is (nI (r_sg x)) σ) := by
  refine z_Ci_of (by decide) (Nat.le_of_ble_eq_true rfl) (fun Γ hd he => ?_)
  show z_J Γ zm_Rule_strengthOf 0 [some (.inl (nI x))] [] σ
  refine zb_Rule_strengthOf_0 (fun k1 k2 k3 k4 k5 k6 k7 k8 => ?_) (fun q => ?_) (fun q => ?_) (fun q => ?_) (fun q => ?_) (fun q => ?_) (fun q => ?_) (fun q => ?_) (fun q => ?_)
  · rw [nI_toInt hx] at k1 k2 k3 k4 k5 k6 k7 k8
    refine zb_Rule_strengthOf_84 ?_
    have : r_sg x = 0 := by
      unfold r_sg
      rw [if_neg (by omega), if_neg (by omega), if_neg (by omega), if_neg (by omega)]
    rw [he, this]
    exact ⟨_, rfl, rfl, rfl⟩
  all_goals rw [zn_eq hx (by omega)] at q; subst q
  · refine zb_Rule_strengthOf_80 ?_; rw [he]; exact ⟨_, rfl, rfl, rfl⟩
  · refine zb_Rule_strengthOf_78 ?_; rw [he]; exact ⟨_, rfl, rfl, rfl⟩
  · refine zb_Rule_strengthOf_78 ?_; rw [he]; exact ⟨_, rfl, rfl, rfl⟩
  · refine zb_Rule_strengthOf_80 ?_; rw [he]; exact ⟨_, rfl, rfl, rfl⟩
  · refine zb_Rule_strengthOf_76 ?_; rw [he]; exact ⟨_, rfl, rfl, rfl⟩
  · refine zb_Rule_strengthOf_76 ?_; rw [he]; exact ⟨_, rfl, rfl, rfl⟩
  · refine zb_Rule_strengthOf_76 ?_; rw [he]; exact ⟨_, rfl, rfl, rfl⟩
  · refine zb_Rule_strengthOf_82 ?_; rw [he]; exact ⟨_, rfl, rfl, rfl⟩
theorem cc_emit (ho : z_oR o) {n : Nat} (hs : σ.1 o 1 = nI n) (hn : n < 40) (x : Int32) : z_Cv 0 zm_Rule_emit [.inr o, .inl x] σ (fun u => u = z_pI (z_pI σ (o + 1) n x) o 1 (nI (n + 1))) := by
  refine z_Cv_of (by decide) (Nat.le_of_ble_eq_true rfl) (fun Γ hd he => ?_)
  show z_J Γ zm_Rule_emit 0 [some (.inr o), some (.inl x)] [] σ
  refine zb_Rule_emit_0 ho (k1 := n) ⟨hs, hn⟩ ?_
  rw [he, z_pI_ne (by omega), hs, nI_add]
  exact ⟨rfl, rfl⟩
theorem cc_hold (ho : z_oR o) {n : Nat} (hs : σ.1 o 4 = nI n) (hn : n < 40) (x : Int32) : z_Cv 0 zm_Rule_hold [.inr o, .inl x] σ (fun u => u = z_pI (z_pI σ (o + 3) n x) o 4 (nI (n + 1))) := by
  refine z_Cv_of (by decide) (Nat.le_of_ble_eq_true rfl) (fun Γ hd he => ?_)
  show z_J Γ zm_Rule_hold 0 [some (.inr o), some (.inl x)] [] σ
  refine zb_Rule_hold_0 ho (k1 := n) ⟨hs, hn⟩ ?_
  rw [he, z_pI_ne (by omega), hs, nI_add]
  exact ⟨rfl, rfl⟩
theorem z_f04 {k : Nat} {x : Int32} {j : Nat} (h : z_fr (z_F04 o) σ u) (hj : j ≤ 4) : z_fr (z_F04 o) σ (z_pI u (o + j) k x) := z_fr.pI h (by show o ≤ o + j ∧ o + j ≤ o + 4; omega)
theorem cc_release (ho : z_oR o) {s : Nat} (hs : s ≤ 4) (h : rRel (cd, wa, cm, dg, wt) σ o) (hl : cd.length + wa.length ≤ 40) (hw : ∀ x, x ∈ wa → x ≤ 256) : z_Cv 1 zm_Rule_release [.inr o, .inl (nI s)] σ (fun u => rRel ((r_rel s cd wa).1, (r_rel s cd wa).2, cm, dg, wt) u o ∧ z_fr (z_F04 o) σ u) := by
  have e0 : (0 : Int32) = nI 0 := rfl
  refine z_Cv_of (by decide) (Nat.le_of_ble_eq_true rfl) (fun Γ hd he => ?_)
  show z_J Γ zm_Rule_release 0 [some (.inr o), some (.inl (nI s))] [] σ
  refine zj_forM (fun k Ls w => ∃ cd' wa', k = wa'.length ∧ Ls = [some (.inr o), some (.inl (nI s))] ∧ rRel (cd', wa', cm, dg, wt) w o ∧ cd'.length + wa'.length ≤ 40 ∧ (∀ x, x ∈ wa' → x ≤ 256) ∧ r_rel s cd' wa' = r_rel s cd wa ∧ z_fr (z_F04 o) σ w) (fun k Ls w hI kk => ?_) wa.length _ σ ⟨cd, wa, rfl, rfl, h, hl, hw, rfl, z_fr.rf⟩
  obtain ⟨cd', wa', rfl, rfl, hR, hl', hw', hrel, hF⟩ := hI
  have h4 : w.1 o 4 = nI wa'.length := hR.2.2.1
  cases wa' with
  | nil =>
    refine zb_Rule_release_0 ho (fun _ => ?_) (fun p => absurd (by rw [h4]; exact Int32.le_refl _) p)
    refine zb_Rule_release_55 ?_
    rw [he, ← hrel]
    exact ⟨rfl, hR, hF⟩
  | cons x t =>
    simp only [List.length_cons] at h4 hl'
    have hx : x ≤ 256 := hw' x (by simp)
    have h3 : w.1 (o + 3) t.length = nI x := by
      have := hR.2.2.2.1 t.length (by show t.length < (x :: t).length; simp)
      rw [this]
      show nI ((x :: t).getD ((x :: t).length - 1 - t.length) 0) = nI x
      simp
    refine zb_Rule_release_0 ho (fun p => ?_) (fun _ => ?_)
    · rw [h4, e0, zn_le (by omega) (by omega)] at p
      omega
    refine zb_Rule_release_7 ho (k1 := t.length) (dc := 0) (P := z_is (nI (r_sg x)) w) ⟨by rw [h4, zn_pred (by omega)]; congr 1, by omega⟩ (by rw [h3]; exact cc_strengthOf (by omega) w) (by omega) (fun r w2 hr => ?_)
    obtain ⟨rfl, rfl⟩ := hr
    have hsl := r_sg_le x
    refine zb_Rule_release_21 ho (fun p => ?_) (fun p => ?_)
    · rw [zn_lt (by omega) (by omega)] at p
      refine zb_Rule_release_55 ?_
      rw [he, ← hrel, r_rel, if_neg (by omega)]
      exact ⟨rfl, hR, hF⟩
    · rw [zn_lt (by omega) (by omega)] at p
      have e4 : w2.1 o 4 - nI 1 = nI t.length := by rw [h4, zn_pred (by omega)]; congr 1
      have hpop := hR.pop
      have h1 : (z_pI w2 o 4 (nI t.length)).1 o 1 = nI cd'.length := hpop.1
      refine zb_Rule_release_25 ho (k1 := t.length) (dc := 0) (P := fun u => u = z_pI (z_pI (z_pI w2 o 4 (nI t.length)) (o + 1) cd'.length (nI (2000 + x))) o 1 (nI (cd'.length + 1))) ⟨by rw [z_pI_at, e4], by omega⟩ ?_ (by omega) (fun w3 h3' => ?_)
      · rw [e4, z_pI_ne (by omega), h3, nI_add]
        exact cc_emit ho h1 (by omega) _
      · subst h3'
        refine zb_Rule_release_52 ho ?_
        refine kk _ _ _ (show t.length < (x :: t).length by simp) ⟨cd' ++ [2000 + x], t, rfl, rfl, hpop.emit (2000 + x), by simp; omega, fun y hy => hw' y (List.mem_cons_of_mem _ hy), ?_, ?_⟩
        · rw [← hrel, r_rel, if_pos (by omega)]
        · exact z_f04 (j := 0) (z_f04 (j := 1) (z_f04 (j := 0) hF (by decide)) (by decide)) (by decide)
end
