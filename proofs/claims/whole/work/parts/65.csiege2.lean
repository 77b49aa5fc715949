/-! the program: a siege is read and done -/
section
variable {x : tX} {σ u : zS}
theorem gR.keep {q : gQ} (h : gR q σ) (h8 : u.1 8 = σ.1 8) (h9 : u.1 9 = σ.1 9) (h10 : u.1 10 = σ.1 10) : gR q u := by
  unfold gR
  rw [h8, h9, h10]
  exact h
theorem cc_readActs {L : Nat} {X : Nat → Nat} (hL : L ≤ 80) (hX : ∀ i, i < L → X i < 256 ∧ σ.1 1 i = nI (X i)) : z_Ci 3 zm_Acts_read [.inr 8, .inr 1, .inl (nI L)] σ (fun r u => r = w_I (sc_b (g_okk X) (decide (L = 0) || g_fin (g_st X L)) L) ∧ (sc_b (g_okk X) (decide (L = 0) || g_fin (g_st X L)) L = none → gR (g_st X L) u) ∧ z_fr z_F810 σ u) := by
  have e0 : (0 : Int32) = nI 0 := rfl
  refine z_Ci_of (by decide) (Nat.le_of_ble_eq_true rfl) (fun Γ hd he => ?_)
  show z_J Γ zm_Acts_read 0 [some (.inr 8), some (.inr 1), some (.inl (nI L)), none] [] σ
  refine zb_Acts_read_0 ?_
  refine zj_forM (fun k Ls w => ∃ i, k = L - i ∧ i ≤ L ∧ Ls = [some (.inr 8), some (.inr 1), some (.inl (nI L)), some (.inl (nI i))] ∧ (∀ j, j < i → g_okk X j = true) ∧ gR (g_st X i) w ∧ z_fr z_F810 σ w) (fun k Ls w hI kk => ?_) L _ _ ⟨0, rfl, Nat.zero_le _, rfl, fun j hj => absurd hj (by omega), ⟨?_, fun _ => z_pI_at _ _ _ _, fun a ha => absurd ha (by simp [g_st]), fun j a ha => absurd ha (by simp [g_st, g_acts])⟩, z_fr.pI (z_fr.pI z_fr.rf (by show 8 ≤ 8 ∧ 8 ≤ 10; omega)) (by show 8 ≤ 8 ∧ 8 ≤ 10; omega)⟩
  rotate_left
  · rw [z_pI_ne2 (by decide), z_pI_at]
    rfl
  obtain ⟨i, rfl, hi, rfl, hok, hR, hF⟩ := hI
  have f1 : w.1 1 = σ.1 1 := (hF 1 (by show ¬ (8 ≤ 1 ∧ 1 ≤ 10); omega)).1
  have hgI := gI_st i hok
  refine zb_Acts_read_12 (fun p => ?_) (fun p => ?_)
  · rw [zn_le (by omega) (by omega)] at p
    have e : i = L := by omega
    subst e
    rw [sc_b_end hok] at he
    have fin : (decide (i = 0) || g_fin (g_st X i)) = true → z_J Γ zm_Acts_read 52 [none, none, none, none] [] w := fun z => by
      refine zb_Acts_read_52 (zb_Acts_read_57 ?_)
      rw [he, if_pos z]
      exact ⟨_, rfl, rfl, fun _ => hR, hF⟩
    refine zb_Acts_read_41 (fun z => fin ?_) (fun z => ?_)
    · rw [e0, zn_eq (by omega) (by omega)] at z
      rw [decide_eq_true z]
      rfl
    rw [e0, zn_eq (by omega) (by omega)] at z
    rw [decide_eq_false z, Bool.false_or] at he fin
    refine zb_Acts_read_45 (dc := 1) (P := z_is (z_tf (g_fin (g_st X i))) w) ?_ (by omega) (fun r w2 hr => ?_)
    · refine z_Ci_of (by decide) (Nat.le_of_ble_eq_true rfl) (fun Γ hd he => ?_)
      show z_J Γ zm_Acts_isWhole 0 [some (.inr 8)] [] w
      generalize g_st X i = q at *
      obtain ⟨D, cur, g⟩ := q
      have no : g_fin (D, cur, g) = false → z_J Γ zm_Acts_isWhole 33 [none] [] w := fun z => by
        refine zb_Acts_isWhole_33 (zb_Acts_isWhole_34 ?_ (Or.inl rfl))
        rw [he, z]
        exact ⟨_, rfl, rfl, rfl⟩
      cases cur with
      | none => exact zb_Acts_isWhole_0 (fun _ => no rfl) (fun p => absurd (hR.2.1 rfl) p)
      | some a =>
        obtain ⟨⟨a1, a2, a3⟩, b2, b3⟩ := hgI.2.2 a rfl
        have b2' : 3 * D.length + 1 + a.2.length ≤ i := b2
        have h60 := g_i60 hok
        obtain ⟨s1, s2⟩ := hR.2.2.1 a rfl
        have hk256 : a.1 < 256 := by
          rcases a1 with z | z | z | z | z <;> omega
        refine zb_Acts_isWhole_0 (fun p => ?_) (fun _ => ?_)
        · rw [s1] at p
          exact absurd p (zn_neg1 (by omega))
        refine zb_Acts_isWhole_8 (k1 := D.length) (dc := 0) (P := z_is (nI (g_po a.1 a.2.length)) w) ⟨by rw [hR.len, zn_pred (by omega)]; congr 1, by omega⟩ (by rw [hR.last.1, s1]; exact cc_partOf (by omega) (by omega) w) (by omega) (fun r u hr => ?_)
        obtain ⟨rfl, rfl⟩ := hr
        have hpl := g_pole a.1 a.2.length
        refine zb_Acts_isWhole_26 (fun p => no ?_) (fun p => ?_)
        · rw [e0, zn_eq (by omega) (by omega)] at p
          show decide (g_po a.1 a.2.length = 0) = false
          exact decide_eq_false p
        · rw [e0, zn_eq (by omega) (by omega)] at p
          refine zb_Acts_isWhole_29 (zb_Acts_isWhole_34 ?_ (Or.inr rfl))
          have : g_fin (D, some a, g) = true := decide_eq_true p
          rw [he, this]
          exact ⟨_, rfl, rfl, rfl⟩
    obtain ⟨rfl, rfl⟩ := hr
    refine zb_Acts_read_49 (fun z2 => ?_) (fun z2 => ?_)
    · rw [z_tf_eq0] at z2
      refine zb_Acts_read_56 (zb_Acts_read_57 ?_)
      rw [he, z2, if_neg (by decide)]
      exact ⟨_, rfl, rfl, fun z => absurd z (by simp), hF⟩
    · rw [z_tf_eq0, Bool.not_eq_false] at z2
      exact fin z2
  rw [zn_le (by omega) (by omega)] at p
  have bad : g_okk X i = false → ∀ w2, z_fr z_F810 σ w2 → z_J Γ zm_Acts_read 33 [none, none, none, some (.inl (nI i))] [] w2 := fun hb w2 hF2 => by
    refine zb_Acts_read_33 ?_
    rw [he, sc_b_at hok (by omega) hb]
    exact ⟨_, rfl, rfl, fun z => absurd z (by simp), hF2⟩
  refine zb_Acts_read_17 (fun p2 => bad ?_ w hF) (fun p2 => ?_)
  · rw [zn_eq (by omega) (by omega)] at p2
    subst p2
    rfl
  rw [zn_eq (by omega) (by omega)] at p2
  obtain ⟨x1, x2⟩ := hX i (by omega)
  have h60 := g_i60 hok
  have hokk : g_okk X i = g_ok (g_st X i) (X i) := by
    unfold g_okk
    rw [decide_eq_true p2, Bool.true_and]
  refine zb_Acts_read_23 (k1 := i) (dc := 2) (P := fun r u => r = z_tf (g_ok (g_st X i) (X i)) ∧ (g_ok (g_st X i) (X i) = true → gR (g_go (g_st X i) (X i)) u) ∧ z_fr z_F810 w u) (z_ixn (by omega)) (by rw [f1, x2]; exact cc_takes hgI (by omega) hR x1) (by omega) (fun r w2 hr => ?_)
  obtain ⟨rfl, h2, h3⟩ := hr
  refine zb_Acts_read_30 (fun p3 => ?_) (fun p3 => ?_)
  · rw [z_tf_eq0, Bool.not_eq_false] at p3
    refine zb_Acts_read_35 ?_
    rw [nI_add]
    refine kk _ _ w2 (show L - (i + 1) < L - i by omega) ⟨i + 1, rfl, by omega, rfl, fun j hj => ?_, h2 p3, hF.tr h3⟩
    by_cases e : j = i
    · subst e
      rw [hokk]
      exact p3
    · exact hok j (by omega)
  · rw [z_tf_eq0] at p3
    exact bad (by rw [hokk]; exact p3) w2 (hF.tr h3)
/-- one act is done -/
theorem cc_perform {s : aS} {v : aV} {E : (Nat → Int32) → Int32} {q : gQ} {i : Nat} {a : gA} (hR : cR s v σ 33) (hor : z_oR (σ.2 0 6)) (hE : rR E σ (σ.2 0 6)) (hQ : gR q σ) (ha : (g_acts q)[i]? = some a) (hi : i < 20) (hg : g_aI a) (hp : g_po a.1 a.2.length = 0) : z_Ci 5 zm_Walls_perform [.inr 0, .inl (nI i)] σ (fun r u => r = (g_act E s v a).1 ∧ cR s (g_act E s v a).2 u 33 ∧ cX (fun q => (33 ≤ q ∧ q ≤ 42) ∨ q = 55 ∨ q = 60) (fun _ => False) σ u) := by
  obtain ⟨k1, k2⟩ := hQ.2.2.2 i a ha
  have hk := hg.1
  have hl : 0 < a.2.length := by
    rcases Nat.lt_or_ge 0 a.2.length with z | z
    · exact z
    · have : a.2.length = 0 := by omega
      rw [this] at hp
      exact absurd hp (g_po0 a.1)
  refine z_Ci_of (by decide) (Nat.le_of_ble_eq_true rfl) (fun Γ hd he => ?_)
  show z_J Γ zm_Walls_perform 0 [some (.inr 0), some (.inl (nI i)), none, none, none] [] σ
  have i0 : σ.1 10 (i * 3) = nI (a.2.getD 0 0) := k2 0 hl
  have ne : ∀ m, m < 2147483648 → (¬ a.1 = m) → ¬ σ.1 9 i = nI m := fun m hm h z => by
    rw [k1, zn_eq (by rcases hk with z | z | z | z | z <;> omega) hm] at z
    exact h z
  have dflt : a.1 = 100 → z_J Γ zm_Walls_perform 141 [some (.inr 0), none, some (.inl (σ.1 10 (i * 3))), none, none] [] σ := by
    intro e
    have eg : g_act E s v a = (nI (v_y v + a.2.getD 0 0), (a_days s v (a.2.getD 0 0)).1) := by
      unfold g_act
      rw [if_neg (by omega), if_neg (by omega), if_neg (by omega), if_neg (by omega)]
    rw [i0]
    refine zb_Walls_perform_141 (cc_passDays z_c33 hR (hg.2.2 0 hl)) (by omega) (fun r u hr => ?_)
    obtain ⟨rfl, r2, -, -, F⟩ := hr
    refine zb_Walls_perform_149 ?_
    rw [he, eg]
    exact ⟨_, rfl, rfl, r2, F.cX (by show ¬ (33 ≤ 0 ∧ 0 ≤ 42); omega) (fun q hq => Or.inl hq)⟩
  have no : ∀ m, m < 2147483648 → (¬ a.1 = m) → σ.1 9 i = nI m → z_J Γ zm_Walls_perform 141 [some (.inr 0), none, some (.inl (σ.1 10 (i * 3))), none, none] [] σ := fun m hm h z => absurd z (ne m hm h)
  refine zb_Walls_perform_0 (k1 := i * 3) (k2 := i * 3 + 1) (k3 := i * 3 + 2) (k4 := i) ⟨pk_mul _ _, by omega⟩ ⟨by rw [pk_mul, nI_add], by omega⟩ ⟨by rw [pk_mul, nI_add], by omega⟩ (z_ixn hi) (fun q => ?_) (fun q => ?_) (fun q => ?_) (fun q => ?_) (fun q => ?_) (fun q => ?_) (fun q => ?_) (fun q => ?_) (fun q => ?_)
  · rw [k1, nI_toInt (by rcases hk with z | z | z | z | z <;> omega)] at q
    exact dflt (by rcases hk with z | z | z | z | z <;> omega)
  · have e : a.1 = 108 := by
      by_cases z : a.1 = 108
      · exact z
      · exact absurd q (ne 108 (by decide) z)
    have hl2 : 1 < a.2.length := by
      rcases Nat.lt_or_ge 1 a.2.length with z | z
      · exact z
      · have : a.2.length = 1 := by omega
        rw [this, e] at hp
        exact absurd hp (by decide)
    have eg : g_act E s v a = a_lay E s v (nI (a.2.getD 0 0)) (nI (a.2.getD 1 0)) := by
      unfold g_act
      rw [if_pos e]
    rw [i0, k2 1 hl2]
    refine zb_Walls_perform_96 hor (cc_layOn z_c33 hor hR hE _ _) (by omega) (fun r u hr => ?_)
    obtain ⟨rfl, r2, F⟩ := hr
    refine zb_Walls_perform_109 ?_
    rw [he, eg]
    refine ⟨_, rfl, rfl, r2, F.cX (by rcases hor with e | e <;> rw [e] <;> show ¬ ((33 + 3 ≤ 0 ∧ 0 ≤ 33 + 7) ∨ _) <;> omega) (fun q hq => ?_)⟩
    rcases hq with q1 | q1
    · have q1' : 33 + 3 ≤ q ∧ q ≤ 33 + 7 := q1
      omega
    · rcases hor with e | e <;> rw [e] at q1 <;> omega
  · exact no 109 (by decide) (by rcases hk with z | z | z | z | z <;> omega) q
  · exact no 110 (by decide) (by rcases hk with z | z | z | z | z <;> omega) q
  · have e : a.1 = 111 := by
      by_cases z : a.1 = 111
      · exact z
      · exact absurd q (ne 111 (by decide) z)
    have hl2 : 2 < a.2.length := by
      rcases Nat.lt_or_ge 2 a.2.length with z | z
      · exact z
      · have : a.2.length = 1 ∨ a.2.length = 2 := by omega
        rcases this with z | z <;> rw [z, e] at hp <;> exact absurd hp (by decide)
    have eg : g_act E s v a = a_ln s v (nI (a.2.getD 0 0)) (nI (a.2.getD 1 0)) (nI (a.2.getD 2 0)) := by
      unfold g_act
      rw [if_neg (by omega), if_pos e]
    rw [i0, k2 1 (by omega), k2 2 hl2]
    refine zb_Walls_perform_110 (cc_lendTo z_c33 hR _ _ _) (by omega) (fun r u hr => ?_)
    obtain ⟨rfl, r2, F⟩ := hr
    refine zb_Walls_perform_121 ?_
    rw [he, eg]
    exact ⟨_, rfl, rfl, r2, F.cX (by show ¬ (33 + 3 ≤ 0 ∧ 0 ≤ 33 + 7); omega) (fun q hq => by have q1' : 33 + 3 ≤ q ∧ q ≤ 33 + 7 := hq; omega)⟩
  · exact no 112 (by decide) (by rcases hk with z | z | z | z | z <;> omega) q
  · exact no 113 (by decide) (by rcases hk with z | z | z | z | z <;> omega) q
  · have e : a.1 = 114 := by
      by_cases z : a.1 = 114
      · exact z
      · exact absurd q (ne 114 (by decide) z)
    have eg : g_act E s v a = a_cb s v (nI (a.2.getD 0 0)) := by
      unfold g_act
      rw [if_neg (by omega), if_neg (by omega), if_pos e]
    rw [i0]
    refine zb_Walls_perform_122 (cc_callBack z_c33 hR _) (by omega) (fun r u hr => ?_)
    obtain ⟨rfl, r2, F⟩ := hr
    refine zb_Walls_perform_130 ?_
    rw [he, eg]
    exact ⟨_, rfl, rfl, r2, F.cX (by show ¬ (33 + 3 ≤ 0 ∧ 0 ≤ 33 + 7); omega) (fun q hq => by have q1' : 33 + 3 ≤ q ∧ q ≤ 33 + 7 := hq; omega)⟩
  · have e : a.1 = 115 := by
      by_cases z : a.1 = 115
      · exact z
      · exact absurd q (ne 115 (by decide) z)
    have hl2 : 1 < a.2.length := by
      rcases Nat.lt_or_ge 1 a.2.length with z | z
      · exact z
      · have : a.2.length = 1 := by omega
        rw [this, e] at hp
        exact absurd hp (by decide)
    have eg : g_act E s v a = ((a_sh s v (nI (a.2.getD 0 0)) (nI (a.2.getD 1 0))).1, (a_sh s v (nI (a.2.getD 0 0)) (nI (a.2.getD 1 0))).2.1) := by
      unfold g_act
      rw [if_neg (by omega), if_neg (by omega), if_neg (by omega), if_pos e]
    rw [i0, k2 1 hl2]
    refine zb_Walls_perform_131 (cc_shoot z_c33 hR _ _) (by omega) (fun r u hr => ?_)
    obtain ⟨rfl, r2, -, F⟩ := hr
    refine zb_Walls_perform_140 ?_
    rw [he, eg]
    exact ⟨_, rfl, rfl, r2, F.cX (by show ¬ (33 ≤ 0 ∧ 0 ≤ 42); omega) (fun q hq => Or.inl hq)⟩
theorem g_acts_I {X : Nat → Nat} {L : Nat} (hok : ∀ j, j < L → g_okk X j = true) (hf : (decide (L = 0) || g_fin (g_st X L)) = true) : (g_acts (g_st X L)).length ≤ 20 ∧ ∀ a, a ∈ g_acts (g_st X L) → g_aI a ∧ g_po a.1 a.2.length = 0 := by
  have h := gI_st L hok
  have h60 := g_i60 hok
  by_cases e : L = 0
  · subst e
    exact ⟨by simp [g_st, g_acts], fun a ha => absurd ha (by simp [g_st, g_acts])⟩
  · rw [decide_eq_false e, Bool.false_or] at hf
    generalize g_st X L = q at *
    obtain ⟨D, cur, g⟩ := q
    cases cur with
    | none => exact absurd hf (by simp [g_fin])
    | some a =>
      obtain ⟨b1, b2, b3⟩ := h.2.2 a rfl
      have b2' : 3 * D.length + 1 + a.2.length ≤ L := b2
      have hp : g_po a.1 a.2.length = 0 := of_decide_eq_true hf
      refine ⟨?_, fun a' ha' => ?_⟩
      · show (D ++ [a]).length ≤ 20
        simp
        omega
      · rcases List.mem_append.mp (show a' ∈ D ++ [a] from ha') with z | z
        · exact h.1 a' z
        · rw [List.mem_singleton.mp z]
          exact ⟨b1, hp⟩
theorem cp_siege (h : cA x σ) {B : Nat} (hT : aT (x_s x) (x_v x) B) (hB : B + 2079 < 1073741824) : z_Ci 7 zm_Walls_siege [.inr 0] σ (fun r u => r = (to_siege x).1 ∧ cA (to_siege x).2 u ∧ zW σ u) := by
  obtain ⟨t1, t2, t3⟩ := id h.2.2.2.1
  obtain ⟨h0, z0, hX0⟩ := h.t0
  have e0 : (0 : Int32) = nI 0 := rfl
  refine z_Ci_of (by decide) (Nat.le_of_ble_eq_true rfl) (fun Γ hd he => ?_)
  show z_J Γ zm_Walls_siege 0 [some (.inr 0), none, none, none, none] [] σ
  refine zb_Walls_siege_0 (cc_takeText σ) (by omega) (fun r u hr => ?_)
  obtain ⟨rfl, hu⟩ := hr
  rw [← hu] at h0 z0 hX0
  clear hu
  rw [t2]
  refine zb_Walls_siege_4 (cc_readActs t1 (fun i hi => ⟨(t3 i hi).1, hX0 i hi⟩)) (by omega) (fun r u2 hr => ?_)
  obtain ⟨rfl, R2, F2⟩ := hr
  have G2 : cX c_sO (fun _ => False) u u2 := F2.cX (by show ¬ (8 ≤ 0 ∧ 0 ≤ 10); omega) (fun q hq => Or.inl hq)
  have A2 := h0.low G2
  rw [to_siege] at he
  cases hb : g_b x with
  | some q =>
    rw [hb] at he
    have hq := sc_b_lt hb
    have hb' : sc_b (g_okk (x_X x)) (decide (x_L x = 0) || g_fin (g_st (x_X x) (x_L x))) (x_L x) = some q := hb
    rw [hb']
    refine zb_Walls_siege_17 (fun z => absurd z (zn_neg1 (by omega))) (fun _ => ?_)
    refine zb_Walls_siege_23 ?_
    rw [he]
    exact ⟨_, rfl, rfl, A2.1, z0.tr A2.2⟩
  | none =>
    rw [hb] at he
    have hb' : sc_b (g_okk (x_X x)) (decide (x_L x = 0) || g_fin (g_st (x_X x) (x_L x))) (x_L x) = none := hb
    have R2' := R2 hb'
    rw [hb']
    obtain ⟨hok, hfin⟩ := sc_b_none hb
    obtain ⟨hA20, hAI⟩ := g_acts_I hok hfin
    refine zb_Walls_siege_17 (fun _ => ?_) (fun z => absurd rfl z)
    refine zb_Walls_siege_27 (cc_mark A2.1.1 A2.1.2.1) (by omega) (fun u3 h3 => ?_)
    obtain ⟨H3, M3, F3⟩ := h3
    have R3 := A2.1.1.cX13 F3
    have Q3 : gR (g_st (x_X x) (x_L x)) u3 := R2'.keep (F3.1 8 (by decide) (by decide)).1 (F3.1 9 (by decide) (by decide)).1 (F3.1 10 (by decide) (by decide)).1
    refine zb_Walls_siege_38 ?_
    generalize g_st (x_X x) (x_L x) = q at *
    have FO : ∀ w, cX (fun q => (33 ≤ q ∧ q ≤ 42) ∨ q = 55 ∨ q = 60) (fun _ => False) u3 w → cX c_aO c_qK u2 w := fun w hw => (F3.a13 (by unfold c_aO; omega)).tr (hw.a13 (by unfold c_aO; omega))
    -- behind the acts
    have last : ∀ n w, n ≤ (g_acts q).length → (∀ j, j < n → g_sc (x_E x) (x_s x) (g_acts q) (x_v x) j = true) → (n = (g_acts q).length ∨ (n < (g_acts q).length ∧ g_sc (x_E x) (x_s x) (g_acts q) (x_v x) n = false)) → cR (x_s x) (g_v (x_E x) (x_s x) (g_acts q) (x_v x) n) w 33 → gR q w → cX (fun q => (33 ≤ q ∧ q ≤ 42) ∨ q = 55 ∨ q = 60) (fun _ => False) u3 w → z_J Γ zm_Walls_siege 73 [some (.inr 0), none, none, some (.inl (nI n)), none] [] w := by
      intro n w hn hall hend hRw hQw hFw
      have en := g_n_at (E := x_E x) (s := x_s x) (v := x_v x) hall hend
      rw [en] at he
      have rest : ∀ w2, cH (x_s x) (if n = 0 then x_H x else a_rem (x_H x) (x_v x)) w2 → cX (fun q => q = 11) (fun _ => False) w w2 → z_J Γ zm_Walls_siege 84 [some (.inr 0), none, none, some (.inl (nI n)), none] [] w2 := by
        intro w2 H2 F2
        have Q2 : gR q w2 := hQw.keep (F2.1 8 (by decide) (by decide)).1 (F2.1 9 (by decide) (by decide)).1 (F2.1 10 (by decide) (by decide)).1
        have R2 := hRw.cX33 F2 (by omega)
        have go : ∀ y : Int32, y = (if n < (g_acts q).length then nI 1 else nI 0) → z_J Γ zm_Walls_siege 101 [some (.inr 0), none, none, some (.inl (nI n)), none] [.inl y, .inr 0] w2 := by
          intro y hy
          refine zb_Walls_siege_101 (cc_bitsWhere z_c33 R2 (by decide)) (by omega) (fun r w3 hr => ?_)
          obtain ⟨rfl, rfl⟩ := hr
          refine zb_Walls_siege_109 (cc_tellTwo _ _ _) (by omega) (fun w4 h4 => ?_)
          obtain ⟨r4, F4⟩ := h4
          refine zb_Walls_siege_115 ?_
          rw [he]
          have F : cX c_aO c_qK u2 w4 := ((FO w hFw).tr (F2.a13 (by unfold c_aO; omega))).tr (F4.mono (by unfold c_aO; omega) (fun _ h => h))
          rw [hy] at r4
          have := A2.1.act F (R2.cX33 F4 (by omega)) (H2.keepX F4 (by omega) (by omega)) r4
          exact ⟨_, rfl, rfl, this, z0.tr (A2.2.tr F.toWa)⟩
        refine zb_Walls_siege_84 (fun z => ?_) (fun z => ?_)
        · rw [Q2.1, zn_le (by omega) (by omega)] at z
          exact zb_Walls_siege_100 (go _ (by rw [if_neg (by omega)]))
        · rw [Q2.1, zn_le (by omega) (by omega)] at z
          exact zb_Walls_siege_96 (go _ (by rw [if_pos (by omega)]))
      have Hw : cH (x_s x) (x_H x) w := H3.keepX hFw (by omega) (by omega)
      refine zb_Walls_siege_73 (fun z => ?_) (fun z => ?_)
      · rw [e0, zn_le (by omega) (by omega)] at z
        refine rest w ?_ cX.rf
        rw [if_pos (by omega)]
        exact Hw
      · rw [e0, zn_le (by omega) (by omega)] at z
        refine zb_Walls_siege_77 (cc_keepMark Hw (M3.keepX hFw (by omega) (by omega))) (by omega) (fun w2 h2 => ?_)
        refine rest w2 ?_ h2.2
        rw [if_neg (by omega)]
        exact h2.1
    refine zj_forM (fun k Ls w => ∃ i, k = (g_acts q).length - i ∧ i ≤ (g_acts q).length ∧ Ls = [some (.inr 0), none, none, some (.inl (nI i)), some (.inl (nI i))] ∧ (∀ j, j < i → g_sc (x_E x) (x_s x) (g_acts q) (x_v x) j = true) ∧ cR (x_s x) (g_v (x_E x) (x_s x) (g_acts q) (x_v x) i) w 33 ∧ gR q w ∧ cX (fun q => (33 ≤ q ∧ q ≤ 42) ∨ q = 55 ∨ q = 60) (fun _ => False) u3 w) (fun k Ls w hI kk => ?_) (g_acts q).length _ u3 ⟨0, rfl, Nat.zero_le _, rfl, fun j hj => absurd hj (by omega), R3, Q3, cX.rf⟩
    obtain ⟨i, rfl, hi, rfl, hall, hRw, hQw, hFw⟩ := hI
    refine zb_Walls_siege_43 (fun z => ?_) (fun z => ?_)
    · rw [hQw.1, zn_le (by omega) (by omega)] at z
      exact last i w hi hall (Or.inl (by omega)) hRw hQw hFw
    rw [hQw.1, zn_le (by omega) (by omega)] at z
    have hi2 : i < (g_acts q).length := by omega
    have ea : (g_acts q)[i]? = some ((g_acts q).getD i (0, [])) := by
      rw [List.getD_eq_getElem?_getD, List.getElem?_eq_getElem hi2]
      rfl
    have hm := hAI _ (List.mem_of_getElem? ea)
    have Uw : cRu (x_E x) w := A2.1.2.2.1.keepX (FO w hFw) (by unfold c_aO; omega)
    have gvI := g_v_I (E := x_E x) (A := g_acts q) h.1.1 hT hAI i (by omega) (by omega)
    refine zb_Walls_siege_55 (cc_perform hRw Uw.oR Uw.2 hQw ea (by omega) hm.1 hm.2) (by omega) (fun r w2 hr => ?_)
    obtain ⟨rfl, R4, F4⟩ := hr
    have Q4 : gR q w2 := hQw.keep (F4.1 8 (by decide) (by decide)).1 (F4.1 9 (by decide) (by decide)).1 (F4.1 10 (by decide) (by decide)).1
    refine zb_Walls_siege_61 (fun z2 => ?_) (fun z2 => ?_)
    · have z2' := Int32.not_le.mpr z2
      have hno := g_act_no (E := x_E x) gvI.1 gvI.2 (by omega) hm.1 z2'
      rw [hno] at R4
      exact last i w2 hi hall (Or.inr ⟨hi2, decide_eq_false z2'⟩) R4 Q4 (hFw.tr F4)
    · have z2' := Int32.not_lt.mp z2
      refine zb_Walls_siege_64 ?_
      rw [nI_add]
      refine kk _ _ w2 (show (g_acts q).length - (i + 1) < (g_acts q).length - i by omega) ⟨i + 1, rfl, by omega, rfl, fun j hj => ?_, R4, Q4, hFw.tr F4⟩
      by_cases e : j = i
      · subst e
        exact decide_eq_true z2'
      · exact hall j (by omega)
end
