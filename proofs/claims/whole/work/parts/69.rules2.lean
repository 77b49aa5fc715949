/-! both ways of reading a rule agree -/
abbrev nxp (c : Nat) : Prop := c ≠ 42 ∧ c ≠ 47
abbrev nxs (c : Nat) : Prop := (c ≠ 42 ∧ c ≠ 47) ∧ c ≠ 43 ∧ c ≠ 45
section
variable {X : Nat → Nat} {M : Nat} {qa : Bool} {e : Nat → Int32}
/-- a sign that joins -/
theorem r_join {i s : Nat} {cd1 wa1 : List Nat} {cm : List Bool} {dg : Nat} (hok : ∀ j, j < i → r_okk X j = true) (hi : i < 40) (hst : r_sta X i = (cd1, wa1, cm, dg, false)) (hd : ¬ r_dg (X i)) (h41 : X i ≠ 41) (hs : r_sg (X i) = s) (h0 : s ≠ 0) (h1 : s = 1 → cm.head? ≠ some true) : (∀ j, j < i + 1 → r_okk X j = true) ∧ r_sta X (i + 1) = ((r_rel s cd1 wa1).1, X i :: (r_rel s cd1 wa1).2, if s = 1 then true :: cm.tail else cm, 0, true) := by
  refine ⟨r_next hok hi ?_, ?_⟩
  · rw [hst]
    unfold r_ok
    rw [if_neg hd, if_neg (by simp), if_neg h41, hs]
    refine decide_eq_true (fun z => ?_)
    rcases z with z | z
    · exact h0 z
    · exact h1 z.1 z.2
  · rw [r_sta, hst]
    unfold r_go
    rw [if_neg hd, if_neg (by simp), if_neg h41, hs]
/-- a sign that can't stand behind a thing -/
theorem r_refuse {c : Nat} {cd1 wa1 : List Nat} {cm : List Bool} {dg : Nat} (hd : r_dg c → dg = 0 ∨ dg = 3) (h41 : c = 41 → cm.length = 1) (h : ¬ r_dg c → c ≠ 41 → r_sg c = 0 ∨ (r_sg c = 1 ∧ cm.head? = some true)) : r_ok (cd1, wa1, cm, dg, false) c = false := by
  unfold r_ok
  by_cases q : r_dg c
  · rw [if_pos q]
    refine decide_eq_false (fun z => z ?_)
    rcases hd q with z2 | z2
    · exact Or.inr ⟨z2, rfl⟩
    · exact Or.inl z2
  · rw [if_neg q, if_neg (by simp)]
    by_cases q2 : c = 41
    · rw [if_pos q2]
      exact decide_eq_false (fun z => z (h41 q2))
    · rw [if_neg q2]
      exact decide_eq_false (fun z => z (h q q2))
theorem r_sg_no {c : Nat} (hc : c < 256) (h : nxs c) : r_sg c = 0 ∨ r_sg c = 1 := by
  unfold r_sg
  by_cases q : c = 60 ∨ c = 62 ∨ c = 61
  · rw [if_pos q]
    exact Or.inr rfl
  · rw [if_neg q, if_neg (by omega), if_neg (by omega), if_neg (by omega)]
    exact Or.inl rfl
theorem r_sg_1 {c : Nat} : r_sg c = 1 ↔ (c = 60 ∨ c = 62 ∨ c = 61) := by
  unfold r_sg
  constructor
  · intro h
    by_cases q : c = 60 ∨ c = 62 ∨ c = 61
    · exact q
    · rw [if_neg q] at h
      exfalso
      repeat' split at h
      all_goals omega
  · intro h
    rw [if_pos h]
def rF (X : Nat → Nat) (M : Nat) (R : Int32 × (Nat × Option Nat)) : Prop := ∃ a p, R.2 = (a, some p) ∧ rB X M p
def rT (X : Nat → Nat) (M : Nat) (qa : Bool) (e : Nat → Int32) (i : Nat) (cd wa : List Nat) (cm : List Bool) (R : Int32 × (Nat × Option Nat)) : Prop := rF X M R ∨ ∃ i' m C dg, R.2 = (i', none) ∧ i < i' ∧ i' ≤ M ∧ (∀ j, j < i' → r_okk X j = true) ∧ r_sta X i' = (cd ++ C, List.replicate m 256 ++ wa, cm, dg, false) ∧ rN X M i' dg ∧ rCd e qa (C ++ List.replicate m 2256) R.1
def rL (X : Nat → Nat) (M : Nat) (qa : Bool) (e : Nat → Int32) (s i : Nat) (cd wa : List Nat) (cm : List Bool) (nx : Nat → Prop) (R : Int32 × (Nat × Option Nat)) : Prop := rF X M R ∨ ∃ i' C cd1 wa1 dg, R.2 = (i', none) ∧ i ≤ i' ∧ i' ≤ M ∧ (∀ j, j < i' → r_okk X j = true) ∧ r_sta X i' = (cd1, wa1, cm, dg, false) ∧ r_rel s cd1 wa1 = (cd ++ C, wa) ∧ rN X M i' dg ∧ rCd e qa C R.1 ∧ (i' < M → nx (X i'))
def rH (X : Nat → Nat) (M : Nat) (qa : Bool) (e : Nat → Int32) (i : Nat) (cd wa : List Nat) (cmt : List Bool) (R : Int32 × (Nat × Option Nat)) : Prop := rF X M R ∨ ∃ i' C cd1 wa1 dg b, R.2 = (i', none) ∧ i ≤ i' ∧ i' ≤ M ∧ (∀ j, j < i' → r_okk X j = true) ∧ r_sta X i' = (cd1, wa1, b :: cmt, dg, false) ∧ r_rel 1 cd1 wa1 = (cd ++ C, wa) ∧ rN X M i' dg ∧ rCd e qa C R.1 ∧ (i' < M → nxs (X i') ∧ (r_sg (X i') = 1 → b = true))
def rG0 (X : Nat → Nat) (M : Nat) (qa : Bool) (e : Nat → Int32) (n : Nat) : Prop := ∀ dp i cd wa cm, (∀ j, j < i → r_okk X j = true) → i ≤ M → r_sta X i = (cd, wa, cm, 0, true) → cm.length = dp + 1 → dp ≤ 4 → 8 * (M - i) + 1 ≤ n → rT X M qa e i cd wa cm (d_ev M X qa e n 0 dp 0 (i, none))
def rG1 (X : Nat → Nat) (M : Nat) (qa : Bool) (e : Nat → Int32) (n : Nat) : Prop := ∀ dp i cd wa cm, (∀ j, j < i → r_okk X j = true) → i ≤ M → r_sta X i = (cd, wa, cm, 0, true) → cm.length = dp + 1 → dp ≤ 4 → r_top wa < 3 → 8 * (M - i) + 2 ≤ n → rL X M qa e 3 i cd wa cm nxp (d_ev M X qa e n 1 dp 0 (i, none))
def rG2 (X : Nat → Nat) (M : Nat) (qa : Bool) (e : Nat → Int32) (n : Nat) : Prop := ∀ dp i cd wa cm C cd1 wa1 dg v, (∀ j, j < i → r_okk X j = true) → i ≤ M → r_sta X i = (cd1, wa1, cm, dg, false) → r_rel 3 cd1 wa1 = (cd ++ C, wa) → r_top wa < 3 → rN X M i dg → rCd e qa C v → cm.length = dp + 1 → dp ≤ 4 → 8 * (M - i) + 1 ≤ n → rL X M qa e 3 i cd wa cm nxp (d_ev M X qa e n 2 dp v (i, none))
def rG3 (X : Nat → Nat) (M : Nat) (qa : Bool) (e : Nat → Int32) (n : Nat) : Prop := ∀ dp i cd wa cm, (∀ j, j < i → r_okk X j = true) → i ≤ M → r_sta X i = (cd, wa, cm, 0, true) → cm.length = dp + 1 → dp ≤ 4 → r_top wa < 2 → 8 * (M - i) + 3 ≤ n → rL X M qa e 2 i cd wa cm nxs (d_ev M X qa e n 3 dp 0 (i, none))
def rG4 (X : Nat → Nat) (M : Nat) (qa : Bool) (e : Nat → Int32) (n : Nat) : Prop := ∀ dp i cd wa cm C cd1 wa1 dg v, (∀ j, j < i → r_okk X j = true) → i ≤ M → r_sta X i = (cd1, wa1, cm, dg, false) → r_rel 2 cd1 wa1 = (cd ++ C, wa) → r_top wa < 2 → rN X M i dg → rCd e qa C v → cm.length = dp + 1 → dp ≤ 4 → (i < M → nxp (X i)) → 8 * (M - i) + 1 ≤ n → rL X M qa e 2 i cd wa cm nxs (d_ev M X qa e n 4 dp v (i, none))
def rG5 (X : Nat → Nat) (M : Nat) (qa : Bool) (e : Nat → Int32) (n : Nat) : Prop := ∀ dp i cd wa cmt, (∀ j, j < i → r_okk X j = true) → i ≤ M → r_sta X i = (cd, wa, false :: cmt, 0, true) → cmt.length = dp → dp ≤ 4 → r_top wa < 1 → 8 * (M - i) + 4 ≤ n → rH X M qa e i cd wa cmt (d_ev M X qa e n 5 dp 0 (i, none))
theorem rg2 {n : Nat} (hM : M ≤ 40) (h0 : rG0 X M qa e n) (h2 : rG2 X M qa e n) : rG2 X M qa e (n + 1) := by
  intro dp i cd wa cm C cd1 wa1 dg v hok hi hst hrel htop hN hC hcm hdp hn
  rw [d_ev]
  by_cases q : i < M ∧ (X i = 42 ∨ X i = 47)
  · rw [if_pos ⟨rfl, q⟩]
    have hc : X i < 256 := by omega
    have hs : r_sg (X i) = 3 := by rcases q.2 with z | z <;> rw [z] <;> decide
    obtain ⟨ok1, st1⟩ := r_join hok (by omega) hst (by omega) (by omega) hs (by decide) (fun z => absurd z (by decide))
    rw [hrel, if_neg (by decide)] at st1
    have r0 := h0 dp (i + 1) (cd ++ C) (X i :: wa) cm ok1 (by omega) st1 hcm hdp (by omega)
    show rL X M qa e 3 i cd wa cm nxp (d_ev M X qa e n 2 dp (p_jn (X i) v (d_ev M X qa e n 0 dp 0 (i + 1, none)).1) (d_ev M X qa e n 0 dp 0 (i + 1, none)).2)
    rcases r0 with ⟨a, p, ep, hp⟩ | ⟨i', m, C2, dg2, ep, hij, hiM, ok2, st2, hN2, hC2⟩
    · rw [ep]
      exact Or.inl ⟨a, p, d_ev_flt _ _ _ _, hp⟩
    · rw [ep]
      have hrel2 : r_rel 3 (cd ++ C ++ C2) (List.replicate m 256 ++ X i :: wa) = (cd ++ (C ++ (C2 ++ List.replicate m 2256) ++ [2000 + X i]), wa) := by
        rw [r_rel_rep (by decide), r_rel, if_pos (by omega), r_rel_top (by decide) htop]
        simp
      rcases h2 dp i' cd wa cm _ _ _ _ _ ok2 hiM st2 hrel2 htop hN2 (hC.join hC2 hc) hcm hdp (by omega) with z | ⟨i3, C3, cd3, wa3, dg3, a1, a2, a3⟩
      · exact Or.inl z
      · exact Or.inr ⟨i3, C3, cd3, wa3, dg3, a1, by omega, a3⟩
  · rw [if_neg (fun z => q z.2)]
    exact Or.inr ⟨i, C, cd1, wa1, dg, rfl, Nat.le_refl _, hi, hok, hst, hrel, hN, hC, fun z => ⟨fun z2 => q ⟨z, Or.inl z2⟩, fun z2 => q ⟨z, Or.inr z2⟩⟩⟩
theorem rg1 {n : Nat} (h0 : rG0 X M qa e n) (h2 : rG2 X M qa e n) : rG1 X M qa e (n + 1) := by
  intro dp i cd wa cm hok hi hst hcm hdp htop hn
  rw [d_ev]
  rcases h0 dp i cd wa cm hok hi hst hcm hdp (by omega) with ⟨a, p, ep, hp⟩ | ⟨i', m, C2, dg2, ep, hij, hiM, ok2, st2, hN2, hC2⟩
  · rw [ep]
    exact Or.inl ⟨a, p, d_ev_flt _ _ _ _, hp⟩
  · rw [ep]
    have hrel2 : r_rel 3 (cd ++ C2) (List.replicate m 256 ++ wa) = (cd ++ (C2 ++ List.replicate m 2256), wa) := by
      rw [r_rel_rep (by decide), r_rel_top (by decide) htop]
      simp
    rcases h2 dp i' cd wa cm _ _ _ _ _ ok2 hiM st2 hrel2 htop hN2 hC2 hcm hdp (by omega) with z | ⟨i3, C3, cd3, wa3, dg3, a1, a2, a3⟩
    · exact Or.inl z
    · exact Or.inr ⟨i3, C3, cd3, wa3, dg3, a1, by omega, a3⟩
theorem rg4 {n : Nat} (hM : M ≤ 40) (h1 : rG1 X M qa e n) (h4 : rG4 X M qa e n) : rG4 X M qa e (n + 1) := by
  intro dp i cd wa cm C cd1 wa1 dg v hok hi hst hrel htop hN hC hcm hdp hnx hn
  rw [d_ev]
  by_cases q : i < M ∧ (X i = 43 ∨ X i = 45)
  · rw [if_pos ⟨rfl, q⟩]
    have hc : X i < 256 := by omega
    have hs : r_sg (X i) = 2 := by rcases q.2 with z | z <;> rw [z] <;> decide
    obtain ⟨ok1, st1⟩ := r_join hok (by omega) hst (by omega) (by omega) hs (by decide) (fun z => absurd z (by decide))
    rw [hrel, if_neg (by decide)] at st1
    have r1 := h1 dp (i + 1) (cd ++ C) (X i :: wa) cm ok1 (by omega) st1 hcm hdp (by show r_sg (X i) < 3; omega) (by omega)
    show rL X M qa e 2 i cd wa cm nxs (d_ev M X qa e n 4 dp (p_jn (X i) v (d_ev M X qa e n 1 dp 0 (i + 1, none)).1) (d_ev M X qa e n 1 dp 0 (i + 1, none)).2)
    rcases r1 with ⟨a, p, ep, hp⟩ | ⟨i', C2, cd2, wa2, dg2, ep, hij, hiM, ok2, st2, hrel2, hN2, hC2, hnx2⟩
    · rw [ep]
      exact Or.inl ⟨a, p, d_ev_flt _ _ _ _, hp⟩
    · rw [ep]
      have hrel3 : r_rel 2 cd2 wa2 = (cd ++ (C ++ C2 ++ [2000 + X i]), wa) := by
        rw [← r_rel_le (show 2 ≤ 3 by decide) wa2 cd2, hrel2]
        show r_rel 2 (cd ++ C ++ C2) (X i :: wa) = _
        rw [r_rel, if_pos (by omega), r_rel_top (by decide) htop]
        simp
      rcases h4 dp i' cd wa cm _ _ _ _ _ ok2 hiM st2 hrel3 htop hN2 (hC.join hC2 hc) hcm hdp hnx2 (by omega) with z | ⟨i3, C3, cd3, wa3, dg3, a1, a2, a3⟩
      · exact Or.inl z
      · exact Or.inr ⟨i3, C3, cd3, wa3, dg3, a1, by omega, a3⟩
  · rw [if_neg (fun z => q z.2)]
    exact Or.inr ⟨i, C, cd1, wa1, dg, rfl, Nat.le_refl _, hi, hok, hst, hrel, hN, hC, fun z => ⟨hnx z, fun z2 => q ⟨z, Or.inl z2⟩, fun z2 => q ⟨z, Or.inr z2⟩⟩⟩
theorem rg3 {n : Nat} (h1 : rG1 X M qa e n) (h4 : rG4 X M qa e n) : rG3 X M qa e (n + 1) := by
  intro dp i cd wa cm hok hi hst hcm hdp htop hn
  rw [d_ev]
  rcases h1 dp i cd wa cm hok hi hst hcm hdp (by omega) (by omega) with ⟨a, p, ep, hp⟩ | ⟨i', C2, cd2, wa2, dg2, ep, hij, hiM, ok2, st2, hrel2, hN2, hC2, hnx2⟩
  · rw [ep]
    exact Or.inl ⟨a, p, d_ev_flt _ _ _ _, hp⟩
  · rw [ep]
    have hrel3 : r_rel 2 cd2 wa2 = (cd ++ C2, wa) := by
      rw [← r_rel_le (show 2 ≤ 3 by decide) wa2 cd2, hrel2]
      exact r_rel_top (by decide) htop
    rcases h4 dp i' cd wa cm _ _ _ _ _ ok2 hiM st2 hrel3 htop hN2 hC2 hcm hdp hnx2 (by omega) with z | ⟨i3, C3, cd3, wa3, dg3, a1, a2, a3⟩
    · exact Or.inl z
    · exact Or.inr ⟨i3, C3, cd3, wa3, dg3, a1, by omega, a3⟩
theorem rg5 {n : Nat} (hM : M ≤ 40) (h3 : rG3 X M qa e n) : rG5 X M qa e (n + 1) := by
  intro dp i cd wa cmt hok hi hst hcm hdp htop hn
  have r1 := h3 dp i cd wa (false :: cmt) hok hi hst (by simp [hcm]) hdp (by omega) (by omega)
  rw [d_ev]
  rotate_left
  · intro z; omega
  · intro z; omega
  · intro z; omega
  · intro z; omega
  · intro z; omega
  rcases r1 with ⟨a, p, ep, hp⟩ | ⟨i', C, cd2, wa2, dg2, ep, hij, hiM, ok2, st2, hrel2, hN2, hC, hnx2⟩
  · rw [if_neg (fun z => by rw [ep] at z; exact absurd z.1 (by simp))]
    exact Or.inl ⟨a, p, ep, hp⟩
  · have hrel3 : r_rel 1 cd2 wa2 = (cd ++ C, wa) := by
      rw [← r_rel_le (show 1 ≤ 2 by decide) wa2 cd2, hrel2]
      exact r_rel_top (by decide) htop
    rw [ep]
    by_cases q : i' < M ∧ (X i' = 60 ∨ X i' = 62 ∨ X i' = 61)
    · rw [if_pos ⟨rfl, q⟩]
      have hc : X i' < 256 := by omega
      have hs : r_sg (X i') = 1 := r_sg_1.mpr q.2
      obtain ⟨ok3, st3⟩ := r_join ok2 (by omega) st2 (by omega) (by omega) hs (by decide) (fun _ => by simp)
      rw [hrel3, if_pos rfl] at st3
      have r3 := h3 dp (i' + 1) (cd ++ C) (X i' :: wa) (true :: cmt) ok3 (by omega) st3 (by simp [hcm]) hdp (by show r_sg (X i') < 2; omega) (by omega)
      show rH X M qa e i cd wa cmt (p_jn (X i') (d_ev M X qa e n 3 dp 0 (i, none)).1 (d_ev M X qa e n 3 dp 0 (i' + 1, none)).1, (d_ev M X qa e n 3 dp 0 (i' + 1, none)).2)
      rcases r3 with ⟨a, p, ep3, hp⟩ | ⟨i3, C2, cd3, wa3, dg3, ep3, hij3, hiM3, ok4, st4, hrel4, hN4, hC2, hnx4⟩
      · exact Or.inl ⟨a, p, ep3, hp⟩
      · have hrel5 : r_rel 1 cd3 wa3 = (cd ++ (C ++ C2 ++ [2000 + X i']), wa) := by
          rw [← r_rel_le (show 1 ≤ 2 by decide) wa3 cd3, hrel4]
          show r_rel 1 (cd ++ C ++ C2) (X i' :: wa) = _
          rw [r_rel, if_pos (by omega), r_rel_top (by decide) htop]
          simp
        exact Or.inr ⟨i3, _, cd3, wa3, dg3, true, ep3, by omega, hiM3, ok4, st4, hrel5, hN4, hC.join hC2 hc, fun z => ⟨hnx4 z, fun _ => rfl⟩⟩
    · rw [if_neg (fun z => q z.2)]
      exact Or.inr ⟨i', C, cd2, wa2, dg2, false, ep, hij, hiM, ok2, st2, hrel3, hN2, hC, fun z => ⟨hnx2 z, fun z2 => absurd ⟨z, r_sg_1.mp z2⟩ q⟩⟩
/-- a thing that begins where one is wanted: a digit -/
theorem r_dig0 {i : Nat} {cd wa : List Nat} {cm : List Bool} (hok : ∀ j, j < i → r_okk X j = true) (hi : i < 40) (hst : r_sta X i = (cd, wa, cm, 0, true)) (hd : r_dg (X i)) : (∀ j, j < i + 1 → r_okk X j = true) ∧ r_sta X (i + 1) = (cd ++ [X i - 48], wa, cm, 1, false) := by
  refine ⟨r_next hok hi ?_, ?_⟩
  · rw [hst]
    unfold r_ok
    rw [if_pos hd]
    exact decide_eq_true (fun z => by rcases z with z | z <;> simp at z)
  · rw [r_sta, hst]
    unfold r_go
    rw [if_pos hd, if_pos rfl]
theorem r_dig1 {i y dg : Nat} {cd wa : List Nat} {cm : List Bool} (hok : ∀ j, j < i → r_okk X j = true) (hi : i < 40) (hst : r_sta X i = (cd ++ [y], wa, cm, dg, false)) (hd : r_dg (X i)) (h1 : 0 < dg) (h3 : dg < 3) : (∀ j, j < i + 1 → r_okk X j = true) ∧ r_sta X (i + 1) = (cd ++ [10 * y + (X i - 48)], wa, cm, dg + 1, false) := by
  refine ⟨r_next hok hi ?_, ?_⟩
  · rw [hst]
    unfold r_ok
    rw [if_pos hd]
    refine decide_eq_true (fun z => ?_)
    rcases z with z | z
    · have : dg = 3 := z
      omega
    · have : dg = 0 := z.1
      omega
  · rw [r_sta, hst]
    unfold r_go
    have hne : ¬ dg = 0 := by omega
    have e2 : (cd ++ [y]).getD ((cd ++ [y]).length - 1) 0 = y := by
      rw [l_app_getD, if_neg (by simp), if_pos (by simp)]
    rw [if_pos hd, if_neg (by exact hne)]
    show ((cd ++ [y]).dropLast ++ [(cd ++ [y]).getD ((cd ++ [y]).length - 1) 0 * 10 + (X i - 48)], wa, cm, dg + 1, false) = _
    rw [e2, List.dropLast_concat, Nat.mul_comm]
theorem rg0 {n : Nat} (hM : M ≤ 40) (hX : ∀ i, i < M → X i < 256) (h0 : rG0 X M qa e n) (h5 : rG5 X M qa e n) : rG0 X M qa e (n + 1) := by
  intro dp i cd wa cm hok hi hst hcm hdp hn
  rw [d_ev]
  by_cases q1 : i < M ∧ X i = 45
  · rw [d_pas_t ⟨rfl, q1⟩, if_pos rfl]
    show rT X M qa e i cd wa cm (-(d_ev M X qa e n 0 dp 0 (i + 1, none)).1, (d_ev M X qa e n 0 dp 0 (i + 1, none)).2)
    have hnd : ¬ r_dg (X i) := by rw [q1.2]; decide
    have ok1 : ∀ j, j < i + 1 → r_okk X j = true := r_next hok (by omega) (by
      rw [hst]
      unfold r_ok
      rw [if_neg hnd, if_pos rfl]
      exact decide_eq_true (Or.inl q1.2))
    have st1 : r_sta X (i + 1) = (cd, 256 :: wa, cm, 0, true) := by
      rw [r_sta, hst]
      unfold r_go
      rw [if_neg hnd, if_pos rfl, if_pos q1.2]
    rcases h0 dp (i + 1) cd (256 :: wa) cm ok1 (by omega) st1 hcm hdp (by omega) with ⟨a, p, ep, hp⟩ | ⟨i', m, C, dg, ep, hij, hiM, ok2, st2, hN2, hC2⟩
    · exact Or.inl ⟨a, p, ep, hp⟩
    · refine Or.inr ⟨i', m + 1, C, dg, ep, by omega, hiM, ok2, ?_, hN2, hC2.neg⟩
      rw [st2, List.replicate_succ', List.append_assoc]
      rfl
  rw [d_pas_f (fun z => q1 z.2), if_neg (by simp), if_neg (by simp)]
  by_cases q2 : i < M ∧ X i = 40 ∧ dp < 4
  · rw [if_pos q2]
    have hnd : ¬ r_dg (X i) := by rw [q2.2.1]; decide
    have ok1 : ∀ j, j < i + 1 → r_okk X j = true := r_next hok (by omega) (by
      rw [hst]
      unfold r_ok
      rw [if_neg hnd, if_pos rfl]
      exact decide_eq_true (Or.inr (Or.inl ⟨q2.2.1, by show cm.length ≠ 5; omega⟩)))
    have st1 : r_sta X (i + 1) = (cd, 40 :: wa, false :: cm, 0, true) := by
      rw [r_sta, hst]
      unfold r_go
      rw [if_neg hnd, if_pos rfl, if_neg (by omega), if_pos q2.2.1]
    show rT X M qa e i cd wa cm ((d_ev M X qa e n 5 (dp + 1) 0 (i + 1, none)).1, d_nd M X 41 (d_ev M X qa e n 5 (dp + 1) 0 (i + 1, none)).2)
    rcases h5 (dp + 1) (i + 1) cd (40 :: wa) cm ok1 (by omega) st1 hcm (by omega) (by show r_sg 40 < 1; decide) (by omega) with ⟨a, p, ep, hp⟩ | ⟨i', C, cd1, wa1, dg, b, ep, hij, hiM, ok2, st2, hrel, hN2, hC, hnx⟩
    · rw [ep]
      refine Or.inl ⟨a, p, ?_, hp⟩
      show d_nd M X 41 (a, some p) = (a, some p)
      unfold d_nd
      rw [d_pas_f (fun z => absurd z.1 (by simp)), if_neg (by simp)]
      rfl
    · rw [ep]
      by_cases q3 : i' < M ∧ X i' = 41
      · have end1 : d_nd M X 41 (i', none) = (i' + 1, none) := by
          unfold d_nd
          rw [d_pas_t ⟨rfl, q3⟩, if_pos rfl]
        rw [end1]
        have hnd2 : ¬ r_dg (X i') := by rw [q3.2]; decide
        refine Or.inr ⟨i' + 1, 0, C, 0, rfl, by omega, by omega, r_next ok2 (by omega) ?_, ?_, fun _ _ => Or.inl rfl, ?_⟩
        · rw [st2]
          unfold r_ok
          rw [if_neg hnd2, if_neg (by simp), if_pos q3.2]
          exact decide_eq_true (by show cm.length + 1 ≠ 1; omega)
        · rw [r_sta, st2]
          unfold r_go
          rw [if_neg hnd2, if_neg (by simp), if_pos q3.2]
          show ((r_rel 1 cd1 wa1).1, (r_rel 1 cd1 wa1).2.tail, cm, 0, false) = _
          rw [hrel]
          rfl
        · rw [List.replicate_zero, List.append_nil]
          exact hC
      · have end1 : d_nd M X 41 (i', none) = (i', some i') := by
          unfold d_nd
          rw [d_pas_f (fun z => q3 z.2), if_neg (by simp)]
          rfl
        rw [end1]
        refine Or.inl ⟨i', i', rfl, ok2, hiM, fun z => ?_, ?_⟩
        · rw [st2]
          obtain ⟨n1, n2⟩ := hnx z
          refine r_refuse (hN2 z) (fun z2 => absurd ⟨z, z2⟩ q3) (fun _ _ => ?_)
          rcases r_sg_no (hX i' z) n1 with z2 | z2
          · exact Or.inl z2
          · exact Or.inr ⟨z2, by rw [n2 z2]; rfl⟩
        · rw [st2]
          unfold r_fin
          rw [decide_eq_false (by show ¬ cm.length + 1 = 1; omega), Bool.and_false]
  rw [if_neg q2]
  by_cases q3 : i < M ∧ 48 ≤ X i ∧ X i < 58
  · rw [if_pos q3]
    obtain ⟨ok1, st1⟩ := r_dig0 hok (by omega) hst q3.2
    have e1 : d_one M X 48 10 (i, none) = (X i - 48, (i + 1, none)) := d_onet ⟨q3.1, q3.2.1, by omega⟩
    have en : d_num M X 3 (i, none) = d_dig M X 2 (X i - 48) (i + 1, none) := by
      show d_dig M X 2 (d_one M X 48 10 (i, none)).1 (d_one M X 48 10 (i, none)).2 = _
      rw [e1]
    show rT X M qa e i cd wa cm (nI (d_num M X 3 (i, none)).1, (d_num M X 3 (i, none)).2)
    rw [en, d_dig]
    have fin : ∀ (i' y dg : Nat), i < i' → i' ≤ M → (∀ j, j < i' → r_okk X j = true) → r_sta X i' = (cd ++ [y], wa, cm, dg, false) → rN X M i' dg → y < 1000 → rT X M qa e i cd wa cm (nI y, (i', none)) := fun i' y dg a1 a2 a3 a4 a5 a6 => Or.inr ⟨i', 0, [y], dg, rfl, a1, a2, a3, by rw [List.replicate_zero, List.nil_append]; exact a4, a5, by rw [List.replicate_zero, List.append_nil]; exact rCd.num a6⟩
    by_cases q4 : i + 1 < M ∧ 48 ≤ X (i + 1) ∧ X (i + 1) < 58
    · rw [if_pos ⟨rfl, q4⟩, d_dig]
      obtain ⟨ok2, st2⟩ := r_dig1 ok1 (by omega) st1 q4.2 (by decide) (by decide)
      by_cases q5 : i + 1 + 1 < M ∧ 48 ≤ X (i + 1 + 1) ∧ X (i + 1 + 1) < 58
      · rw [if_pos ⟨rfl, q5⟩, d_dig]
        obtain ⟨ok3, st3⟩ := r_dig1 ok2 (by omega) st2 q5.2 (by decide) (by decide)
        exact fin _ _ _ (by omega) (by omega) ok3 st3 (fun _ _ => Or.inr rfl) (by show 10 * (10 * (X i - 48) + (X (i + 1) - 48)) + (X (i + 1 + 1) - 48) < 1000; omega)
      · rw [if_neg (fun z => q5 z.2)]
        exact fin _ _ _ (by omega) (by omega) ok2 st2 (fun z1 z2 => absurd ⟨z1, z2⟩ q5) (by show 10 * (X i - 48) + (X (i + 1) - 48) < 1000; omega)
    · rw [if_neg (fun z => q4 z.2)]
      exact fin _ _ _ (by omega) (by omega) ok1 st1 (fun z1 z2 => absurd ⟨z1, z2⟩ q4) (by omega)
  rw [if_neg q3]
  by_cases q4 : i < M ∧ d_let (X i) ≠ none
  · rw [if_pos q4]
    have hnd : ¬ r_dg (X i) := fun z => q3 ⟨q4.1, z⟩
    have n45 : ¬ X i = 45 := fun z => q1 ⟨q4.1, z⟩
    have n40 : ¬ X i = 40 := fun z => by
      have := q4.2
      rw [z] at this
      exact this (by decide)
    refine Or.inr ⟨i + 1, 0, [1000 + X i], 0, rfl, by omega, by omega, r_next hok (by omega) ?_, ?_, fun _ _ => Or.inl rfl, by rw [List.replicate_zero, List.append_nil]; exact rCd.nam q4.2⟩
    · rw [hst]
      unfold r_ok
      rw [if_neg hnd, if_pos rfl]
      exact decide_eq_true (Or.inr (Or.inr q4.2))
    · rw [r_sta, hst]
      unfold r_go
      rw [if_neg hnd, if_pos rfl, if_neg n45, if_neg n40]
      rfl
  rw [if_neg q4]
  refine Or.inl ⟨i, i, rfl, hok, hi, fun z => ?_, ?_⟩
  · rw [hst]
    unfold r_ok
    rw [if_neg (fun z2 => q3 ⟨z, z2⟩), if_pos rfl]
    refine decide_eq_false (fun z2 => ?_)
    rcases z2 with z2 | z2 | z2
    · exact q1 ⟨z, z2⟩
    · have : cm.length ≠ 5 := z2.2
      exact q2 ⟨z, z2.1, by omega⟩
    · exact q4 ⟨z, z2⟩
  · rw [hst]
    rfl
theorem rg_all (hM : M ≤ 40) (hX : ∀ i, i < M → X i < 256) : ∀ n, rG0 X M qa e n ∧ rG1 X M qa e n ∧ rG2 X M qa e n ∧ rG3 X M qa e n ∧ rG4 X M qa e n ∧ rG5 X M qa e n
  | 0 => ⟨fun _ _ _ _ _ _ _ _ _ _ h => absurd h (by omega), fun _ _ _ _ _ _ _ _ _ _ _ h => absurd h (by omega), fun _ _ _ _ _ _ _ _ _ _ _ _ _ _ _ _ _ _ _ h => absurd h (by omega), fun _ _ _ _ _ _ _ _ _ _ _ h => absurd h (by omega), fun _ _ _ _ _ _ _ _ _ _ _ _ _ _ _ _ _ _ _ _ h => absurd h (by omega), fun _ _ _ _ _ _ _ _ _ _ _ h => absurd h (by omega)⟩
  | n + 1 => by
    obtain ⟨h0, h1, h2, h3, h4, h5⟩ := rg_all hM hX n
    exact ⟨rg0 hM hX h0 h5, rg1 h0 h2, rg2 hM h0 h2, rg3 h1 h4, rg4 hM h1 h4, rg5 hM h3⟩
end
