/-! the program: a wall told as a text -/
/-- columns that hold -/
def a_hb (E : (Nat → Int32) → Int32) (s : aS) (v : aV) : Nat → Nat
  | 0 => 0
  | c + 1 => if l_ho E s (v_y v) c (v_p v c) = true then a_hb E s v c ||| 2 ^ c else a_hb E s v c
theorem a_hb_bit (E : (Nat → Int32) → Int32) (s : aS) (v : aV) : ∀ n c, (a_hb E s v n).testBit c = (decide (c < n) && l_ho E s (v_y v) c (v_p v c))
  | 0, c => by simp [a_hb]
  | n + 1, c => by
    have ih := a_hb_bit E s v n c
    rw [a_hb]
    by_cases q : l_ho E s (v_y v) n (v_p v n) = true
    · rw [if_pos q, Nat.testBit_or, ih, Nat.testBit_two_pow]
      by_cases e : n = c
      · subst e
        simp [q]
      · have : (c < n + 1) ↔ (c < n) := by omega
        simp [e, this]
    · rw [if_neg q, ih]
      by_cases e : n = c
      · subst e
        simp at q
        simp [q]
      · have : (c < n + 1) ↔ (c < n) := by omega
        simp [this]
theorem a_hb_lt (E : (Nat → Int32) → Int32) (s : aS) (v : aV) (n : Nat) : a_hb E s v n < 2 ^ n := by
  rcases Nat.lt_or_ge (a_hb E s v n) (2 ^ n) with q | q
  · exact q
  · exfalso
    obtain ⟨i, hi, hb⟩ := Nat.exists_ge_and_testBit_of_ge_two_pow q
    rw [a_hb_bit, Bool.and_eq_true, decide_eq_true_eq] at hb
    omega
theorem a_hb_all (E : (Nat → Int32) → Int32) (s : aS) (v : aV) (n : Nat) : a_hb E s v n = 2 ^ n - 1 ↔ wl_ho E s v n = true := by
  unfold wl_ho
  rw [List.all_eq_true]
  constructor
  · intro h c hc
    rw [List.mem_range] at hc
    have h1 := congrArg (fun z => z.testBit c) h
    simp only [a_hb_bit, Nat.testBit_two_pow_sub_one, hc, decide_true, Bool.true_and] at h1
    exact h1
  · intro h
    apply Nat.eq_of_testBit_eq
    intro c
    rw [a_hb_bit, Nat.testBit_two_pow_sub_one]
    rcases Nat.lt_or_ge c n with q | q
    · simp [q, h c (List.mem_range.mpr q)]
    · have : ¬ c < n := by omega
      simp [this]
theorem zn_97 : ∀ c, c < 97 → ¬ (0 ≤ nI c - nI 97) := by decide +kernel
theorem z_isn97 {c n : Nat} (hc : c < 256) (hn : n ≤ 12) : z_isn (nI c - nI 97) n = decide (97 ≤ c ∧ c - 97 < n) := by
  rcases Nat.lt_or_ge c 97 with q | q
  · unfold z_isn
    rw [decide_eq_false (zn_97 c q), decide_eq_false (show ¬ (97 ≤ c ∧ c - 97 < n) by omega)]
    rfl
  · rw [pk_sub q]
    unfold z_isn
    have e0 : (0 : Int32) ≤ nI (c - 97) := zn_ge0 (by omega)
    rw [decide_eq_true e0, Bool.true_and]
    have : (nI (c - 97) < nI n) ↔ (97 ≤ c ∧ c - 97 < n) := by
      rw [zn_lt (by omega) (by omega)]
      omega
    simp only [this]
section
variable {x : tX} {σ u : zS} {s : aS} {v : aV} {o r : Nat} {E : (Nat → Int32) → Int32}
theorem cc_columnsThatHold (ho : z_oC o) (hr : z_oR r) (hR : cR s v σ o) (hE : rR E σ r) : z_Ci 4 zm_Walls_columnsThatHold [.inr o, .inr r] σ (fun y u => y = nI (a_hb E s v (s_c s)) ∧ z_fr (fun q => q = r + 2) σ u) := by
  have h6 := hR.c6
  refine z_Ci_of (by decide) (Nat.le_of_ble_eq_true rfl) (fun Γ hd he => ?_)
  show z_J Γ zm_Walls_columnsThatHold 0 [some (.inr o), some (.inr r), none, none] [] σ
  refine zb_Walls_columnsThatHold_0 ho hr ?_
  refine zj_forS (b := s_c s) (fun i => [some (.inr o), some (.inr r), some (.inl (nI (a_hb E s v i))), some (.inl (nI i))])
    (fun i w => z_fr (fun q => q = r + 2) σ w) (fun i w hi hI kk => ?_) (fun w hI => ?_) 0 (Nat.zero_le _) _ z_fr.rf
  · have Rw := hR.fr2 ho hr hI
    refine zb_Walls_columnsThatHold_4 ho hr (fun p => ?_) (fun _ => ?_)
    · rw [Rw.fc] at p
      exact absurd p (nI_ge hi (by omega))
    refine zb_Walls_columnsThatHold_12 ho hr (lc_holdsUp ho hr (Rw.cC hi) (hE.fr2 hI)) (by omega) (fun y w2 hy => ?_)
    obtain ⟨rfl, F2⟩ := hy
    have k2 := kk w2 (hI.tr F2)
    rw [a_hb] at k2
    refine zb_Walls_columnsThatHold_18 ho hr (fun p => ?_) (fun p => ?_)
    · rw [z_tf_eq0] at p
      refine zb_Walls_columnsThatHold_27 ho hr ?_
      rw [if_neg (by rw [p]; decide)] at k2
      rw [nI_add]
      exact k2
    · rw [z_tf_eq0, Bool.not_eq_false] at p
      refine zb_Walls_columnsThatHold_21 ho hr (zb_Walls_columnsThatHold_27 ho hr ?_)
      rw [if_pos p] at k2
      rw [nI_add, zn_shl (by omega), zn_or]
      exact k2
  · have Rw := hR.fr2 ho hr hI
    refine zb_Walls_columnsThatHold_4 ho hr (fun _ => ?_) (fun p => ?_)
    · refine zb_Walls_columnsThatHold_33 ?_
      rw [he]
      exact ⟨_, rfl, rfl, hI⟩
    · rw [Rw.fc] at p
      exact absurd (Int32.le_refl _) p
/-- one sign of a wall -/
theorem cc_canStandInWall {X : Nat → Nat} {i k : Nat} {w : aV} (hn : s_n s ≤ 12) (hst : wl_st s v X i = (k, w)) (hR : cR (s_cl s k) w σ 43) (hc : X i < 256) : z_Ci 3 zm_Walls_canStandInWall [.inr 0, .inl (nI (X i)), .inl (z_tf (wl_be X i)), .inl (z_tf (!(wl_be X i) && decide (X (i - 1) = 45)))] σ (fun y u => y = z_tf (wl_ok s v X i) ∧ (wl_ok s v X i = true → cR (s_cl s (wl_st s v X (i + 1)).1) (wl_st s v X (i + 1)).2 u 43) ∧ z_fr (z_F09 43) σ u) := by
  have h6 : k ≤ 6 := hR.c6
  have h1 : 1 ≤ k := hR.c1
  have hst1 : (wl_st s v X i).1 = k := by rw [hst]
  have hst2 : (wl_st s v X i).2 = w := by rw [hst]
  have e0 : (0 : Int32) = nI 0 := rfl
  refine z_Ci_of (by decide) (Nat.le_of_ble_eq_true rfl) (fun Γ hd he => ?_)
  show z_J Γ zm_Walls_canStandInWall 0 [some (.inr 0), some (.inl (nI (X i))), some (.inl (z_tf (wl_be X i))), some (.inl (z_tf (!(wl_be X i) && decide (X (i - 1) = 45)))), none, none] [] σ
  refine zb_Walls_canStandInWall_0 (fun p => ?_) (fun p => ?_)
  rotate_left
  · rw [zn_eq (by omega) (by omega)] at p
    refine zb_Walls_canStandInWall_17 ?_ (z_tf01 _)
    have eo : wl_ok s v X i = wl_be X i := by
      unfold wl_ok
      rw [if_pos p]
    have es : wl_st s v X (i + 1) = (k, w) := by rw [wl_st, if_pos p, hst]
    rw [he, eo, es]
    exact ⟨_, rfl, rfl, fun _ => hR, z_fr.rf⟩
  rw [zn_eq (by omega) (by omega)] at p
  have fc : σ.1 43 6 = nI k := hR.fc
  rw [fc, zn_pred (by omega)]
  refine zb_Walls_canStandInWall_19 (fun p2 => ?_) (fun p2 => ?_)
  rotate_left
  · rw [zn_eq (by omega) (by omega)] at p2
    have eo : wl_ok s v X i = (!(wl_be X i) && decide (k < 6)) := by
      unfold wl_ok
      rw [if_neg p, if_pos p2, hst1]
    have es : wl_st s v X (i + 1) = (k + 1, a_nc w k) := by rw [wl_st, if_neg p, if_pos p2, hst]
    rw [eo, es] at he
    have no : (!(wl_be X i) && decide (k < 6)) = false → z_J Γ zm_Walls_canStandInWall 43 [none, none, none, none, none, none] [] σ := fun q => by
      refine zb_Walls_canStandInWall_43 (zb_Walls_canStandInWall_44 ?_ (Or.inl rfl))
      rw [he, q]
      exact ⟨_, rfl, rfl, fun z => absurd z (by decide), z_fr.rf⟩
    refine zb_Walls_canStandInWall_25 (fun p3 => no ?_) (fun p3 => ?_)
    · rw [z_tf_eq0, Bool.not_eq_false] at p3
      rw [p3]
      rfl
    rw [z_tf_eq0] at p3
    refine zb_Walls_canStandInWall_29 (cc_addColumn z_c43 hR) (by omega) (fun y u hy => ?_)
    rcases hy with ⟨q1, rfl, rfl⟩ | ⟨q1, rfl, q2, q3⟩
    · have q1' : k = 6 := q1
      refine zb_Walls_canStandInWall_36 (fun _ => no ?_) (fun z => absurd rfl z)
      rw [decide_eq_false (by omega)]
      simp
    · have q1' : k < 6 := q1
      refine zb_Walls_canStandInWall_36 (fun z => absurd z (by decide)) (fun _ => ?_)
      refine zb_Walls_canStandInWall_39 (zb_Walls_canStandInWall_44 ?_ (Or.inr rfl))
      rw [he, p3, decide_eq_true q1']
      exact ⟨_, rfl, rfl, fun _ => q2, q3⟩
  rw [zn_eq (by omega) (by omega)] at p2
  have eo : wl_ok s v X i = ((wl_be X i || decide (X (i - 1) ≠ 45)) && decide (97 ≤ X i ∧ X i - 97 < s_n s) && decide (v_w w (X i - 97) = 0) && decide ((v_p w (k - 1)).length ≠ 4)) := by
    unfold wl_ok
    rw [if_neg p, if_neg p2, hst1, hst2]
  have es : wl_st s v X (i + 1) = (k, a_put w (X i - 97) (k - 1)) := by rw [wl_st, if_neg p, if_neg p2, hst]
  rw [es] at he
  have no : wl_ok s v X i = false → ∀ u, z_fr (z_F09 43) σ u → z_J Γ zm_Walls_canStandInWall 94 [none, none, none, none, none, none] [] u := fun q u hu => by
    refine zb_Walls_canStandInWall_94 ?_
    rw [he, q]
    exact ⟨_, rfl, rfl, fun z => absurd z (by decide), hu⟩
  refine zb_Walls_canStandInWall_45 (fun p3 => no ?_ _ z_fr.rf) (fun p3 => ?_)
  · rw [z_tf_eq0, Bool.not_eq_false, Bool.and_eq_true, decide_eq_true_eq] at p3
    rw [eo]
    have : (wl_be X i || decide (X (i - 1) ≠ 45)) = false := by
      have h3 := p3.1
      simp at h3
      simp [h3, p3.2]
    rw [this]
    rfl
  have p3' : (wl_be X i || decide (X (i - 1) ≠ 45)) = true := by
    rw [z_tf_eq0] at p3
    cases hb : wl_be X i with
    | true => rfl
    | false =>
      rw [hb] at p3
      simp at p3
      simp [p3]
  rw [p3', Bool.true_and] at eo
  refine zb_Walls_canStandInWall_55 (cc_isBook (s := s_cl s k) z_c43 hn hR.fn _) (by omega) (fun y u hy => ?_)
  obtain ⟨rfl, rfl⟩ := hy
  have ei : z_isn (nI (X i) - nI 97) (s_n (s_cl s k)) = decide (97 ≤ X i ∧ X i - 97 < s_n s) := z_isn97 hc hn
  rw [ei]
  refine zb_Walls_canStandInWall_64 (fun p4 => no ?_ _ z_fr.rf) (fun p4 => ?_)
  · rw [z_tf_eq0] at p4
    rw [eo, p4]
    rfl
  rw [z_tf_eq0, Bool.not_eq_false] at p4
  rw [p4, Bool.true_and] at eo
  rw [decide_eq_true_eq] at p4
  rw [pk_sub p4.1]
  have hw3 := hR.w3 (X i - 97)
  refine zb_Walls_canStandInWall_67 (k1 := X i - 97) (z_ixn (by omega)) (fun p5 => no ?_ _ z_fr.rf) (fun p5 => ?_)
  · have f3 := hR.fW (b := X i - 97) (by omega)
    change u.1 46 (X i - 97) = _ at f3
    rw [f3, e0, zn_eq (by omega) (by omega)] at p5
    rw [eo, decide_eq_false p5]
    rfl
  have f3 := hR.fW (b := X i - 97) (by omega)
  change u.1 46 (X i - 97) = _ at f3
  rw [f3, e0, zn_eq (by omega) (by omega)] at p5
  rw [decide_eq_true p5, Bool.true_and] at eo
  have hk1 : k - 1 < s_c (s_cl s k) := by show k - 1 < k; omega
  have h4 := (hR.col hk1).2.1
  have f6 := hR.fM hk1
  change u.1 49 (k - 1) = _ at f6
  refine zb_Walls_canStandInWall_80 (k1 := k - 1) (z_ixn (by omega)) (fun p6 => ?_) (fun p6 => no ?_ _ z_fr.rf)
  rotate_left
  · rw [f6, zn_eq (by omega) (by omega)] at p6
    rw [eo, decide_eq_false (fun z => z p6)]
  rw [f6, zn_eq (by omega) (by omega)] at p6
  rw [decide_eq_true p6] at eo
  refine zb_Walls_canStandInWall_96 (cc_put z_c43 hR (by show X i - 97 < s_n s; omega) (Or.inl p5) hk1 (by omega)) (by omega) (fun u2 h2 => ?_)
  refine zb_Walls_canStandInWall_107 ?_
  rw [he, eo]
  exact ⟨_, rfl, rfl, fun _ => h2.1, h2.2.mono (fun q hq => by have : 43 + 3 ≤ q ∧ q ≤ 43 + 7 := hq; show 43 ≤ q ∧ q ≤ 43 + 9; omega)⟩
theorem cc_badSignOfWall {L : Nat} {X : Nat → Nat} (hn : s_n s ≤ 12) (hR : cR (s_cl s 1) (a_pl v (s_n s)) σ 43) (hL : L ≤ 80) (hX : ∀ i, i < L → X i < 256 ∧ σ.1 1 i = nI (X i)) : z_Ci 4 zm_Walls_badSignOfWall [.inr 0, .inl (nI L)] σ (fun y u => y = w_I (sc_b (wl_ok s v X) (decide (L ≠ 0 ∧ X (L - 1) ≠ 47)) L) ∧ (sc_b (wl_ok s v X) (decide (L ≠ 0 ∧ X (L - 1) ≠ 47)) L = none → cR (s_cl s (wl_st s v X L).1) (wl_st s v X L).2 u 43) ∧ z_fr (z_F09 43) σ u) := by
  have e0 : (0 : Int32) = nI 0 := rfl
  refine z_Ci_of (by decide) (Nat.le_of_ble_eq_true rfl) (fun Γ hd he => ?_)
  show z_J Γ zm_Walls_badSignOfWall 0 [some (.inr 0), some (.inl (nI L)), none, none, none] [] σ
  refine zb_Walls_badSignOfWall_0 ?_
  refine zj_forM (fun k Ls w => ∃ i, k = L - i ∧ i ≤ L ∧ Ls = [some (.inr 0), some (.inl (nI L)), some (.inl (nI i)), none, none] ∧ (∀ j, j < i → wl_ok s v X j = true) ∧ cR (s_cl s (wl_st s v X i).1) (wl_st s v X i).2 w 43 ∧ z_fr (z_F09 43) σ w) (fun k Ls w hI kk => ?_) L _ σ ⟨0, rfl, Nat.zero_le _, rfl, fun j hj => absurd hj (by omega), hR, z_fr.rf⟩
  obtain ⟨i, rfl, hi, rfl, hok, hRw, hF⟩ := hI
  have f1 : w.1 1 = σ.1 1 := (hF 1 (by show ¬ (43 ≤ 1 ∧ 1 ≤ 52); omega)).1
  have eX : ∀ j, j < L → w.1 1 j = nI (X j) := fun j hj => by rw [f1]; exact (hX j hj).2
  refine zb_Walls_badSignOfWall_2 (fun p => ?_) (fun p => ?_)
  · rw [zn_le (by omega) (by omega)] at p
    have e : i = L := by omega
    subst e
    rw [sc_b_end hok] at he
    have bad : ¬ (i ≠ 0 ∧ X (i - 1) ≠ 47) → z_J Γ zm_Walls_badSignOfWall 95 [none, some (.inl (nI i)), none, none, none] [] w := fun q => by
      refine zb_Walls_badSignOfWall_95 (zb_Walls_badSignOfWall_100 ?_)
      rw [he, decide_eq_false q, if_neg (by decide)]
      exact ⟨_, rfl, rfl, fun z => absurd z (by simp), hF⟩
    refine zb_Walls_badSignOfWall_78 (fun q => bad (fun z => ?_)) (fun q => ?_)
    · rw [e0, zn_eq (by omega) (by omega)] at q
      exact z.1 q
    rw [e0, zn_eq (by omega) (by omega)] at q
    have h256 := (hX (i - 1) (by omega)).1
    refine zb_Walls_badSignOfWall_82 (k1 := i - 1) ⟨zn_pred (by omega), by omega⟩ (fun q2 => ?_) (fun q2 => bad (fun z => ?_))
    · rw [eX _ (by omega), zn_eq (by omega) (by omega)] at q2
      refine zb_Walls_badSignOfWall_99 (zb_Walls_badSignOfWall_100 ?_)
      rw [he, decide_eq_true ⟨q, q2⟩, if_pos rfl]
      exact ⟨_, rfl, rfl, fun _ => hRw, hF⟩
    · rw [eX _ (by omega), zn_eq (by omega) (by omega)] at q2
      exact z.2 q2
  rw [zn_le (by omega) (by omega)] at p
  have h256 := (hX i (by omega)).1
  -- whether a column begins here, whether it is told as empty
  have look : ∀ y z : Bool, y = wl_be X i → z = (!(wl_be X i) && decide (X (i - 1) = 45)) → z_J Γ zm_Walls_badSignOfWall 52 [some (.inr 0), some (.inl (nI L)), some (.inl (nI i)), some (.inl (z_tf y)), none] [.inl (z_tf z)] w := by
    intro y z hy hz
    subst hy
    subst hz
    have hcs := cc_canStandInWall (σ := w) (s := s) (v := v) (X := X) (i := i) (k := (wl_st s v X i).1) (w := (wl_st s v X i).2) hn rfl hRw h256
    refine zb_Walls_badSignOfWall_52 (k1 := i) (dc := 3) (P := fun y u => y = z_tf (wl_ok s v X i) ∧ (wl_ok s v X i = true → cR (s_cl s (wl_st s v X (i + 1)).1) (wl_st s v X (i + 1)).2 u 43) ∧ z_fr (z_F09 43) w u) (z_ixn (by omega)) (by rw [eX i (by omega)]; exact hcs) (by omega) (fun y u hy => ?_)
    obtain ⟨rfl, h2, h3⟩ := hy
    refine zb_Walls_badSignOfWall_67 (fun q => ?_) (fun q => ?_)
    · rw [z_tf_eq0, Bool.not_eq_false] at q
      refine zb_Walls_badSignOfWall_72 ?_
      rw [nI_add]
      refine kk _ _ u (show L - (i + 1) < L - i by omega) ⟨i + 1, rfl, by omega, rfl, fun j hj => ?_, h2 q, hF.tr h3⟩
      by_cases e : j = i
      · subst e
        exact q
      · exact hok j (by omega)
    · rw [z_tf_eq0] at q
      refine zb_Walls_badSignOfWall_70 ?_
      rw [he, sc_b_at hok (by omega) q]
      exact ⟨_, rfl, rfl, fun z => absurd z (by simp), hF.tr h3⟩
  have yes : wl_be X i = true → z_J Γ zm_Walls_badSignOfWall 24 [some (.inr 0), some (.inl (nI L)), some (.inl (nI i)), none, none] [] w := fun hb => by
    refine zb_Walls_badSignOfWall_24 (zb_Walls_badSignOfWall_29 (fun _ => ?_) (fun z => absurd z (by decide)))
    refine zb_Walls_badSignOfWall_51 ?_
    exact look true false hb.symm (by rw [hb]; rfl)
  refine zb_Walls_badSignOfWall_7 (fun q => yes ?_) (fun q => ?_)
  · rw [e0, zn_eq (by omega) (by omega)] at q
    unfold wl_be
    rw [decide_eq_true q]
    rfl
  rw [e0, zn_eq (by omega) (by omega)] at q
  have h256' := (hX (i - 1) (by omega)).1
  refine zb_Walls_badSignOfWall_11 (k1 := i - 1) ⟨zn_pred (by omega), by omega⟩ (fun q2 => ?_) (fun q2 => yes ?_)
  rotate_left
  · rw [eX _ (by omega), zn_eq (by omega) (by omega)] at q2
    unfold wl_be
    rw [decide_eq_true q2]
    simp
  rw [eX _ (by omega), zn_eq (by omega) (by omega)] at q2
  have hb : wl_be X i = false := by
    unfold wl_be
    rw [decide_eq_false q, decide_eq_false q2]
    rfl
  refine zb_Walls_badSignOfWall_28 (zb_Walls_badSignOfWall_29 (fun z => absurd rfl z) (fun _ => ?_))
  refine zb_Walls_badSignOfWall_34 (k1 := i - 1) ⟨zn_pred (by omega), by omega⟩ (fun q3 => ?_) (fun q3 => ?_)
  · rw [eX _ (by omega), zn_eq (by omega) (by omega)] at q3
    refine zb_Walls_badSignOfWall_51 ?_
    exact look false false hb.symm (by rw [hb, decide_eq_false q3]; rfl)
  · rw [eX _ (by omega), zn_eq (by omega) (by omega)] at q3
    refine zb_Walls_badSignOfWall_47 ?_
    exact look false true hb.symm (by rw [hb, decide_eq_true q3]; rfl)
theorem cp_wall (h : cA x σ) : z_Ci 6 zm_Walls_wall [.inr 0] σ (fun r u => r = (to_wall x).1 ∧ cA (to_wall x).2 u ∧ zW σ u) := by
  obtain ⟨t1, t2, t3⟩ := id h.2.2.2.1
  obtain ⟨h0, z0, hX0⟩ := h.t0
  have hn := h.1.n
  refine z_Ci_of (by decide) (Nat.le_of_ble_eq_true rfl) (fun Γ hd he => ?_)
  show z_J Γ zm_Walls_wall 0 [some (.inr 0), none, none] [] σ
  refine zb_Walls_wall_0 (cc_takeText σ) (by omega) (fun r u hr => ?_)
  obtain ⟨rfl, hu⟩ := hr
  rw [← hu] at h0 z0 hX0
  clear hu
  rw [t2]
  refine zb_Walls_wall_4 (cc_copyFrom z_c43 z_c33 (by decide) h0.1) (by omega) (fun u1 hr => ?_)
  obtain ⟨R1, F1⟩ := hr
  refine zb_Walls_wall_16 (cc_pullDown z_c43 R1) (by omega) (fun u2 hr => ?_)
  obtain ⟨R2, F2⟩ := hr
  have F12 := F1.tr F2
  have e1 : u2.1 1 = u.1 1 := (F12 1 (by show ¬ (43 ≤ 1 ∧ 1 ≤ 52); omega)).1
  refine zb_Walls_wall_23 (cc_badSignOfWall (s := x_s x) (v := x_v x) hn R2 t1 (fun i hi => ⟨(t3 i hi).1, by rw [e1]; exact hX0 i hi⟩)) (by omega) (fun r u3 hr => ?_)
  obtain ⟨rfl, R3, F3⟩ := hr
  have G3 : cX c_tO (fun _ => False) u u3 := (F12.tr F3).cX (by show ¬ (43 ≤ 0 ∧ 0 ≤ 52); omega) (fun q hq => Or.inl hq)
  have A3 := h0.low G3.tr1
  rw [to_wall] at he
  cases hb : wl_b x with
  | some q =>
    rw [hb] at he
    have hq := sc_b_lt hb
    have hb' : sc_b (wl_ok (x_s x) (x_v x) (x_X x)) (decide (x_L x ≠ 0 ∧ x_X x (x_L x - 1) ≠ 47)) (x_L x) = some q := hb
    rw [hb']
    refine zb_Walls_wall_28 (fun z => ?_) (fun _ => ?_)
    · exact absurd z (zn_neg1 (by omega))
    refine zb_Walls_wall_34 ?_
    rw [he]
    exact ⟨_, rfl, rfl, A3.1, z0.tr A3.2⟩
  | none =>
    rw [hb] at he
    have hb' : sc_b (wl_ok (x_s x) (x_v x) (x_X x)) (decide (x_L x ≠ 0 ∧ x_X x (x_L x - 1) ≠ 47)) (x_L x) = none := hb
    have R3' := R3 hb'
    rw [hb']
    refine zb_Walls_wall_28 (fun _ => ?_) (fun z => absurd rfl z)
    generalize wl_st (x_s x) (x_v x) (x_X x) (x_L x) = q at *
    have hor := A3.1.2.2.1.oR
    have h6 : q.1 ≤ 6 := R3'.c6
    refine zb_Walls_wall_38 hor (cc_columnsThatHold z_c43 hor R3' A3.1.2.2.1.2) (by omega) (fun y u4 hy => ?_)
    obtain ⟨rfl, F4⟩ := hy
    have G4' := z_frR hor F4
    have G4 : cX c_tO (fun _ => False) u u4 := G3.tr (G4'.mono (by unfold c_tO; omega) (fun _ h => h))
    have A4 := h0.low G4.tr1
    have R4 : cR (s_cl (x_s x) q.1) q.2 u4 43 := R3'.fr2 z_c43 hor F4
    have hlt := a_hb_lt (x_E x) (s_cl (x_s x) q.1) q.2 q.1
    have hp6 : 2 ^ q.1 ≤ 64 := Nat.pow_le_pow_right (n := 2) (by decide) h6
    have hp1 : 1 ≤ 2 ^ q.1 := Nat.one_le_two_pow
    have f6 : u4.1 43 6 = nI q.1 := R4.fc
    have eall : (nI (a_hb (x_E x) (s_cl (x_s x) q.1) q.2 (s_c (s_cl (x_s x) q.1))) = nI 1 <<< (u4.1 43 6 &&& 31) - nI 1) ↔ wl_ho (x_E x) (x_s x) q.2 q.1 = true := by
      rw [f6, zn_shl (by omega), zn_pred (by omega)]
      show nI (a_hb (x_E x) (s_cl (x_s x) q.1) q.2 q.1) = _ ↔ _
      rw [zn_eq (by omega) (by omega), a_hb_all]
      exact Iff.rfl
    refine zb_Walls_wall_49 (fun p => ?_) (fun p => ?_)
    rotate_left
    · rw [eall] at p
      refine zb_Walls_wall_63 ?_
      rw [if_neg p] at he
      rw [he]
      exact ⟨_, rfl, rfl, A4.1, z0.tr A4.2⟩
    rw [eall] at p
    rw [if_pos p] at he
    refine zb_Walls_wall_67 (cc_copyFrom z_c33 z_c43 (by decide) R4) (by omega) (fun u5 h5 => ?_)
    obtain ⟨R5, F5⟩ := h5
    have G5 : cX (fun q => 33 ≤ q ∧ q ≤ 42) (fun _ => False) u4 u5 := F5.cX (by show ¬ (33 ≤ 0 ∧ 0 ≤ 42); omega) (fun q hq => hq)
    obtain ⟨nx, n1, n2⟩ := A4.1.nx
    refine zb_Walls_wall_78 (cc_forgetPast (s_cl (x_s x) q.1) ⟨nx, n1, by rw [(G5.1 11 (by decide) (by decide)).1]; exact n2⟩) (by omega) (fun u6 h6' => ?_)
    obtain ⟨H6, K6, F6⟩ := h6'
    refine zb_Walls_wall_82 (by omega) ?_
    refine zb_Walls_wall_90 ?_
    have G7 : cX (fun q => q = 7) (fun _ => False) u6 (z_pA u6 7 (z_fil 6 (-1) (u6.1 7))) := cX.pA cX.rf rfl (by decide)
    have R7 : cR (s_cl (x_s x) q.1) q.2 (z_pA u6 7 (z_fil 6 (-1) (u6.1 7))) 33 := (R5.cX33 F6 (by omega)).cX33 G7 (by omega)
    have G : cX (fun q => (33 ≤ q ∧ q ≤ 42) ∨ q = 11 ∨ q = 6 ∨ q = 7) (fun _ => False) u4 (z_pA u6 7 (z_fil 6 (-1) (u6.1 7))) := ((G5.mono (fun _ h => Or.inl h) (fun _ h => h)).tr (F6.mono (by omega) (fun _ h => h))).tr (G7.mono (by omega) (fun _ h => h))
    have f7 : (z_pA u6 7 (z_fil 6 (-1) (u6.1 7))).1 33 6 = nI q.1 := R7.fc
    rw [f7, he]
    refine ⟨_, rfl, rfl, ⟨R7, H6.keepX G7 (by decide) (by omega), A4.1.2.2.1.keepX G (by omega), A4.1.2.2.2.1.keepX G (by omega) id, A4.1.2.2.2.2.1.keepX G (by omega) id, fun c hc => ⟨fun _ => ?_, fun t ht => absurd ht (by simp)⟩, K6.keepX G7 (by decide)⟩, z0.tr (A4.2.tr (G.toW (by omega)))⟩
    change c < q.1 at hc
    rw [z_pA_1, if_pos rfl, z_fil, if_pos (by omega)]
end
