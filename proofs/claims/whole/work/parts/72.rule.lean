/-! rules: what both readings say -/
abbrev rl_b (x : tX) : Option Nat := if x_L x = 0 then none else sc_b (r_okk (x_X x)) (r_fin (r_sta (x_X x) (x_L x))) (x_L x)
theorem rl_5 {X : Nat → Nat} {L : Nat} (hX : ∀ i, i < L → X i < 256) (qa : Bool) (e : Nat → Int32) : rH X (min L 40) qa e 0 [] [] [] (d_ev (min L 40) X qa e 330 5 0 0 (0, none)) := by
  have h := (rg_all (X := X) (M := min L 40) (qa := qa) (e := e) (by omega) (fun i hi => hX i (by omega)) 330).2.2.2.2.2
  exact h 0 0 [] [] [] (fun j hj => absurd hj (by omega)) (Nat.zero_le _) rfl rfl (by omega) (by decide) (by omega)
theorem rl_md {X : Nat → Nat} {L : Nat} (hX : ∀ i, i < L → X i < 256) (qa : Bool) (e : Nat → Int32) : (d_wr L (d_ev (min L 40) X qa e 330 5 0 0 (0, none)).2).2 = sc_b (r_okk X) (r_fin (r_sta X L)) L := by
  rcases rl_5 hX qa e with ⟨a, p, ep, hp⟩ | ⟨i', C, cd1, wa1, dg, b, ep, hij, hiM, ok2, st2, hrel, hN2, hC, hnx⟩
  · rw [ep]
    obtain ⟨b1, b2, b3, b4⟩ := hp
    have e1 : (d_wr L (a, some p)).2 = some p := by
      unfold d_wr d_flt
      split <;> simp
    rw [e1]
    symm
    by_cases q : p < min L 40
    · refine sc_b_at b1 (by omega) ?_
      unfold r_okk
      rw [b3 q, Bool.and_false]
    · by_cases q2 : 40 < L
      · refine sc_b_at b1 (by omega) ?_
        unfold r_okk
        rw [decide_eq_false (fun z => z (by omega))]
        rfl
      · have e : p = L := by omega
        subst e
        rw [sc_b_end b1, b4]
        rfl
  · rw [ep]
    by_cases q : i' < L
    · have e1 : d_wr L (i', none) = (i', some i') := by
        unfold d_wr d_flt
        rw [if_pos q]
        rfl
      rw [e1]
      symm
      refine sc_b_at ok2 q ?_
      unfold r_okk
      by_cases q2 : i' < min L 40
      · have : r_ok (r_sta X i') (X i') = false := by
          rw [st2]
          obtain ⟨n1, n2⟩ := hnx q2
          refine r_refuse (hN2 q2) (fun _ => rfl) (fun _ _ => ?_)
          rcases r_sg_no (hX i' q) n1 with z2 | z2
          · exact Or.inl z2
          · exact Or.inr ⟨z2, by rw [n2 z2]; rfl⟩
        rw [this, Bool.and_false]
      · rw [decide_eq_false (fun z => z (by omega))]
        rfl
    · have e : i' = L := by omega
      subst e
      have e1 : d_wr i' (i', none) = (i', none) := by
        unfold d_wr
        rw [if_neg (by omega)]
      rw [e1, sc_b_end ok2, st2]
      rfl
/-- the code of a rule that was read -/
theorem rl_cd {X : Nat → Nat} {L : Nat} (hL : L ≠ 0) (hX : ∀ i, i < L → X i < 256) (hb : sc_b (r_okk X) (r_fin (r_sta X L)) L = none) : L ≤ 40 ∧ ∃ C, r_rel 1 (r_sta X L).1 (r_sta X L).2.1 = (C, []) ∧ p_dep C 0 = some 1 ∧ (∀ x, x ∈ C → x < 4000) ∧ ∀ e, C.foldl (p_st e) [] = [tE L X e] := by
  obtain ⟨hok, -⟩ := sc_b_none hb
  have h40 := r_i40 hok
  have key : ∀ e, ∃ C, r_rel 1 (r_sta X L).1 (r_sta X L).2.1 = (C, []) ∧ p_dep C 0 = some 1 ∧ (∀ x, x ∈ C → x < 4000) ∧ C.foldl (p_st e) [] = [tE L X e] := by
    intro e
    have hmd := rl_md hX true e
    rw [hb] at hmd
    rcases rl_5 hX true e with ⟨a, p, ep, hp⟩ | ⟨i', C, cd1, wa1, dg, b, ep, hij, hiM, ok2, st2, hrel, hN2, hC, hnx⟩
    · rw [ep] at hmd
      unfold d_wr d_flt at hmd
      split at hmd <;> simp at hmd
    · rw [ep] at hmd
      have e1 : ¬ i' < L := fun z => by
        unfold d_wr d_flt at hmd
        rw [if_pos z] at hmd
        simp at hmd
      have e2 : i' = L := by omega
      subst e2
      refine ⟨C, by rw [st2]; exact hrel, hC.1 0, hC.2.1, ?_⟩
      have := hC.2.2 rfl []
      rw [this, show min i' 40 = i' by omega, tE, if_neg hL]
  obtain ⟨C, c1, c2, c3, c4⟩ := key (fun _ => 0)
  refine ⟨h40, C, c1, c2, c3, fun e => ?_⟩
  obtain ⟨C', d1, d2, d3, d4⟩ := key e
  have : C = C' := by
    have := c1.symm.trans d1
    exact (Prod.mk.inj this).1
  rw [this]
  exact d4
def to_rule (x : tX) : Int32 × tX := match rl_b x with
  | some p => (-1 - nI p, x_t0 x)
  | none => (nI 0, (x_s x, x_v x, x_H x, (x_L x, x_X x), (0, x_X x), x_r x, x_e x, x_k x, x_m x))
/-- what all books bear together -/
def l_all (E : (Nat → Int32) → Int32) (s : aS) (dy c : Nat) (l : List Nat) : Nat → Int32
  | 0 => nI 0
  | k + 1 => l_all E s dy c l k + l_br E s dy c l k
def a_all (E : (Nat → Int32) → Int32) (s : aS) (v : aV) : Nat → Int32
  | 0 => nI 0
  | c + 1 => a_all E s v c + l_all E s (v_y v) c (v_p v c) (v_p v c).length
def to_law (x : tX) : Int32 × tX := match rl_b x with
  | some p => (-10000 - nI p, x_t0 x)
  | none => (nI (a_hb (tE (x_L x) (x_X x)) (x_s x) (x_v x) (s_c (x_s x))), (x_s x, x_v x, x_H x, (x_K x, x_T x), (0, x_X x), [nI (a_hb (x_E x) (x_s x) (x_v x) (s_c (x_s x))), a_all (tE (x_L x) (x_X x)) (x_s x) (x_v x) (s_c (x_s x)) - a_all (x_E x) (x_s x) (x_v x) (s_c (x_s x))], x_e x, x_k x, x_m x))
theorem z_pR_1 (σ : zS) (o k r : Nat) : (z_pR σ o k r).1 = σ.1 := rfl
theorem z_pR_2 (σ : zS) (o k r a b : Nat) : (z_pR σ o k r).2 a b = if a = o ∧ b = k then r else σ.2 a b := rfl
section
variable {x : tX} {σ u : zS}
/-- the other rule is read into -/
theorem cRu.other {E : (Nat → Int32) → Int32} (h : cRu E σ) (hF : z_fr (z_F04 (σ.2 0 7)) σ u) : cRu E u := by
  obtain ⟨h1, h2⟩ := h
  have e2 : u.2 0 = σ.2 0 := (hF 0 (by rcases h1 with z | z <;> rw [z.2] <;> show ¬ (_ ≤ 0 ∧ 0 ≤ _) <;> omega)).2
  unfold cRu
  rw [e2]
  refine ⟨h1, ?_⟩
  rcases h1 with z | z
  · rw [z.2] at hF
    rw [z.1] at h2 ⊢
    exact h2.keep (hF 53 (by show ¬ (58 ≤ 53 ∧ 53 ≤ 58 + 4); omega)).1 (hF 54 (by show ¬ (58 ≤ 54 ∧ 54 ≤ 58 + 4); omega)).1
  · rw [z.2] at hF
    rw [z.1] at h2 ⊢
    exact h2.keep (hF 58 (by show ¬ (53 ≤ 58 ∧ 58 ≤ 53 + 4); omega)).1 (hF 59 (by show ¬ (53 ≤ 59 ∧ 59 ≤ 53 + 4); omega)).1
theorem cA.other (h : cA x σ) (hF : z_fr (z_F04 (σ.2 0 7)) σ u) : cA x u ∧ zW σ u ∧ u.2 0 = σ.2 0 := by
  have hor := h.2.2.1.oR2
  have hX : cX (fun q => 53 ≤ q ∧ q ≤ 62) (fun _ => False) σ u := hF.cX (by rcases hor with z | z <;> rw [z] <;> show ¬ (_ ≤ 0 ∧ 0 ≤ _) <;> omega) (fun q hq => by
    rcases hor with z | z <;> rw [z] at hq
    · have : 53 ≤ q ∧ q ≤ 53 + 4 := hq
      omega
    · have : 58 ≤ q ∧ q ≤ 58 + 4 := hq
      omega)
  exact ⟨⟨h.1.cX33 hX (by omega), h.2.1.keepX hX (by omega) (by omega), h.2.2.1.other hF, h.2.2.2.1.keepX hX (by omega) id, h.2.2.2.2.1.keepX hX (by omega) id, h.2.2.2.2.2.1.keepX hX (by omega), h.2.2.2.2.2.2.keepX hX (by omega)⟩, hX.toW (by omega), hX.2.2⟩
theorem cc_readAnother (h : cA x σ) : z_Ci 6 zm_Walls_readAnother [.inr 0] σ (fun r u => r = w_I (rl_b x) ∧ (rl_b x = none → rR (tE (x_L x) (x_X x)) u (u.2 0 7)) ∧ cA (x_t0 x) u ∧ zW σ u ∧ x_L x ≤ 80) := by
  obtain ⟨t1, t2, t3⟩ := id h.2.2.2.1
  obtain ⟨h0, z0, hX0⟩ := h.t0
  have e0 : (0 : Int32) = nI 0 := rfl
  refine z_Ci_of (by decide) (Nat.le_of_ble_eq_true rfl) (fun Γ hd he => ?_)
  show z_J Γ zm_Walls_readAnother 0 [some (.inr 0), none] [] σ
  refine zb_Walls_readAnother_0 (cc_takeText σ) (by omega) (fun r u hr => ?_)
  obtain ⟨rfl, hu⟩ := hr
  rw [← hu] at h0 z0 hX0
  clear hu
  rw [t2]
  have hor := h0.2.2.1.oR2
  refine zb_Walls_readAnother_4 (fun p => ?_) (fun p => ?_)
  rotate_left
  · rw [e0, zn_eq (by omega) (by omega)] at p
    refine zb_Walls_readAnother_9 hor (dc := 0) (P := fun w => w = z_pI (z_pI (z_pI (z_pI u (u.2 0 7 + 1) 0 (nI 1116)) (u.2 0 7 + 1) 1 (nI 4)) (u.2 0 7 + 1) 2 (nI 2042)) (u.2 0 7) 1 (nI 3)) ?_ (by omega) (fun w hw => ?_)
    · refine z_Cv_of (by decide) (Nat.le_of_ble_eq_true rfl) (fun Γ hd he => ?_)
      show z_J Γ zm_Rule_setUsual 0 [some (.inr (u.2 0 7))] [] u
      refine zb_Rule_setUsual_0 hor (k1 := 0) (z_ixn (by omega)) (k2 := 1) (z_ixn (by omega)) (k3 := 2) (z_ixn (by omega)) ?_
      rw [he]
      exact ⟨rfl, rfl⟩
    · refine zb_Walls_readAnother_16 ?_
      have hb : rl_b x = none := if_pos p
      have F : z_fr (z_F04 (u.2 0 7)) u w := by
        rw [hw]
        exact z_f04 (j := 0) (z_f04 (j := 1) (z_f04 (j := 1) (z_f04 (j := 1) z_fr.rf (by decide)) (by decide)) (by decide)) (by decide)
      obtain ⟨A1, W1, e2⟩ := h0.other F
      rw [he, hb]
      refine ⟨_, rfl, rfl, fun _ => ?_, A1, z0.tr W1, t1⟩
      rw [e2]
      refine ⟨[1116, 4, 2042], ⟨by decide, ?_, fun i hi => ?_, fun i hi => ?_, by decide⟩, fun e => ?_⟩
      · rw [hw, z_pI_at]
        rfl
      · have hi' : i < 3 := hi
        rw [hw, z_pI_ne (by omega)]
        rcases (show i = 0 ∨ i = 1 ∨ i = 2 by omega) with rfl | rfl | rfl
        · rw [z_pI_ne2 (by decide), z_pI_ne2 (by decide), z_pI_at]; rfl
        · rw [z_pI_ne2 (by decide), z_pI_at]; rfl
        · rw [z_pI_at]; rfl
      · have hi' : i < 3 := hi
        rcases (show i = 0 ∨ i = 1 ∨ i = 2 by omega) with rfl | rfl | rfl <;> decide
      · rw [tE, if_pos p, Int32.mul_comm]
        rfl
  rw [e0, zn_eq (by omega) (by omega)] at p
  refine zb_Walls_readAnother_18 hor (cc_rread hor t1 (fun i hi => ⟨(t3 i hi).1, hX0 i hi⟩)) (by omega) (fun r w hr => ?_)
  obtain ⟨rfl, c2, F⟩ := hr
  obtain ⟨A1, W1, e2⟩ := h0.other F
  refine zb_Walls_readAnother_30 ?_
  have hb : rl_b x = sc_b (r_okk (x_X x)) (r_fin (r_sta (x_X x) (x_L x))) (x_L x) := if_neg p
  rw [he, hb]
  refine ⟨_, rfl, rfl, fun z => ?_, A1, z0.tr W1, t1⟩
  obtain ⟨h40, C, d1, d2, d3, d4⟩ := rl_cd p (fun i hi => (t3 i hi).1) z
  obtain ⟨g1, g2⟩ := c2 z
  rw [d1] at g1 g2
  rw [e2]
  have hlen := r_rel_len 1 (r_sta (x_X x) (x_L x)).2.1 (r_sta (x_X x) (x_L x)).1
  rw [d1] at hlen
  have hrI := rI_st (X := x_X x) (x_L x) (fun j hj => (t3 j hj).1) (sc_b_none z).1
  have := hrI.1
  refine ⟨C, ⟨by simp at hlen; omega, g1, g2, fun i hi => ?_, d2⟩, fun e => ?_⟩
  · have := d3 _ (l_getD_mem hi)
    omega
  · rw [d4 e]
    rfl
theorem rl_b_le {p : Nat} (h : rl_b x = some p) : p ≤ x_L x := by
  unfold rl_b at h
  split at h
  · exact absurd h (by simp)
  · exact sc_b_lt h
theorem cp_rule (h : cA x σ) : z_Ci 7 zm_Walls_rule [.inr 0] σ (fun r u => r = (to_rule x).1 ∧ cA (to_rule x).2 u ∧ zW σ u) := by
  refine z_Ci_of (by decide) (Nat.le_of_ble_eq_true rfl) (fun Γ hd he => ?_)
  show z_J Γ zm_Walls_rule 0 [some (.inr 0), none, none] [] σ
  refine zb_Walls_rule_0 (cc_readAnother h) (by omega) (fun r u hr => ?_)
  obtain ⟨rfl, hE, A1, W1, t1⟩ := hr
  rw [to_rule] at he
  cases hb : rl_b x with
  | some p =>
    rw [hb] at he
    have := rl_b_le hb
    refine zb_Walls_rule_4 (fun z => absurd z (zn_neg1 (by omega))) (fun _ => ?_)
    refine zb_Walls_rule_10 ?_
    rw [he]
    exact ⟨_, rfl, rfl, A1, W1⟩
  | none =>
    rw [hb] at he
    have hE' := hE hb
    refine zb_Walls_rule_4 (fun _ => ?_) (fun z => absurd rfl z)
    refine zb_Walls_rule_14 A1.2.2.1.oR A1.2.2.1.oR2 ?_
    rw [he]
    obtain ⟨a1, a2, a3, a4, a5, a6, a7⟩ := A1
    refine ⟨_, rfl, rfl, ⟨a1, a2, ⟨?_, ?_⟩, a4, a5, a6, a7⟩, fun q hq => ?_⟩
    · rw [z_pR_2, z_pR_2, z_pR_2, if_neg (by decide), if_pos ⟨rfl, rfl⟩, if_pos ⟨rfl, rfl⟩]
      rcases a3.1 with z | z
      · exact Or.inr ⟨z.2, z.1⟩
      · exact Or.inl ⟨z.2, z.1⟩
    · rw [z_pR_2, z_pR_2, if_neg (by decide), if_pos ⟨rfl, rfl⟩]
      exact hE'.keep rfl rfl
    · obtain ⟨w1, w2⟩ := W1 q hq
      refine ⟨w1, ?_⟩
      rw [← w2]
      funext k
      rw [z_pR_2, z_pR_2, if_neg (by omega), if_neg (by omega)]
theorem zn_ring (a b c d : Int32) : (a - b) + (c - d) = (a + c) - (b + d) := by
  rw [Int32.sub_eq_add_neg, Int32.sub_eq_add_neg, Int32.sub_eq_add_neg, Int32.neg_add, Int32.sub_eq_add_neg]
  ac_rfl
theorem cp_law (h : cA x σ) : z_Ci 7 zm_Walls_law [.inr 0] σ (fun r u => r = (to_law x).1 ∧ cA (to_law x).2 u ∧ zW σ u) := by
  have h6 := h.1.c6
  refine z_Ci_of (by decide) (Nat.le_of_ble_eq_true rfl) (fun Γ hd he => ?_)
  show z_J Γ zm_Walls_law 0 [some (.inr 0), none, none, none, none] [] σ
  refine zb_Walls_law_0 (cc_readAnother h) (by omega) (fun r u hr => ?_)
  obtain ⟨rfl, hE, A1, W1, t1⟩ := hr
  rw [to_law] at he
  cases hb : rl_b x with
  | some p =>
    rw [hb] at he
    have := rl_b_le hb
    refine zb_Walls_law_4 (fun z => absurd z (zn_neg1 (by omega))) (fun _ => ?_)
    refine zb_Walls_law_10 ?_
    rw [he]
    exact ⟨_, rfl, rfl, A1, W1⟩
  | none =>
    rw [hb] at he
    have hE' := hE hb
    have hE0 := A1.2.2.1.2
    refine zb_Walls_law_4 (fun _ => ?_) (fun z => absurd rfl z)
    refine zb_Walls_law_16 ?_
    have hor := A1.2.2.1.oR
    have hor2 := A1.2.2.1.oR2
    generalize tE (x_L x) (x_X x) = E2 at *
    -- asking leaves the rules' worth
    have K : ∀ {w}, cX (fun q => q = 55 ∨ q = 60) (fun _ => False) u w → cA (x_t0 x) w ∧ zW u w ∧ rR E2 w (w.2 0 7) ∧ z_oR (w.2 0 6) ∧ z_oR (w.2 0 7) := fun {w} hw => by
      obtain ⟨B1, B2⟩ := A1.low (hw.mono (by unfold c_sO; omega) (fun _ h => h))
      refine ⟨B1, B2, ?_, B1.2.2.1.oR, B1.2.2.1.oR2⟩
      rw [hw.2.2]
      rcases hor2 with z | z
      · rw [z] at hE' ⊢
        exact hE'.keep (hw.1 53 (by decide) (by decide)).1 (hw.1 54 (by decide) (by decide)).1
      · rw [z] at hE' ⊢
        exact hE'.keep (hw.1 58 (by decide) (by decide)).1 (hw.1 59 (by decide) (by decide)).1
    suffices hh : z_J Γ zm_Walls_law 20 [some (.inr 0), none, some (.inl (a_all E2 (x_s x) (x_v x) 0 - a_all (x_E x) (x_s x) (x_v x) 0)), some (.inl (nI 0)), none] [] u by
      have ei : a_all E2 (x_s x) (x_v x) 0 - a_all (x_E x) (x_s x) (x_v x) 0 = nI 0 := by
        show nI 0 - nI 0 = nI 0
        decide
      rw [ei] at hh
      exact hh
    refine zj_forS (b := s_c (x_s x)) (fun c => [some (.inr 0), none, some (.inl (a_all E2 (x_s x) (x_v x) c - a_all (x_E x) (x_s x) (x_v x) c)), some (.inl (nI c)), none])
      (fun c w => cX (fun q => q = 55 ∨ q = 60) (fun _ => False) u w) (fun c w hc hw kk => ?_) (fun w hw => ?_) 0 (Nat.zero_le _) u cX.rf
    · obtain ⟨B1, B2, B3, B4, B5⟩ := K hw
      refine zb_Walls_law_20 (fun z => ?_) (fun _ => ?_)
      · rw [B1.1.fc] at z
        exact absurd z (nI_ge (b := s_c (x_s x)) hc (by omega))
      refine zb_Walls_law_31 ?_
      have h4 := (B1.1.col hc).2.1
      have e0 : a_all E2 (x_s x) (x_v x) c - a_all (x_E x) (x_s x) (x_v x) c = (a_all E2 (x_s x) (x_v x) c - a_all (x_E x) (x_s x) (x_v x) c) + (l_all E2 (x_s x) (v_y (x_v x)) c (v_p (x_v x) c) 0 - l_all (x_E x) (x_s x) (v_y (x_v x)) c (v_p (x_v x) c) 0) := by
        have : (l_all E2 (x_s x) (v_y (x_v x)) c (v_p (x_v x) c) 0 - l_all (x_E x) (x_s x) (v_y (x_v x)) c (v_p (x_v x) c) 0) = 0 := by
          show nI 0 - nI 0 = 0
          decide
        rw [this, Int32.add_zero]
      rw [e0]
      refine zj_forS (b := (v_p (x_v x) c).length) (fun k => [some (.inr 0), none, some (.inl ((a_all E2 (x_s x) (x_v x) c - a_all (x_E x) (x_s x) (x_v x) c) + (l_all E2 (x_s x) (v_y (x_v x)) c (v_p (x_v x) c) k - l_all (x_E x) (x_s x) (v_y (x_v x)) c (v_p (x_v x) c) k))), some (.inl (nI c)), some (.inl (nI k))])
        (fun k w => cX (fun q => q = 55 ∨ q = 60) (fun _ => False) u w) (fun k w hk hw kk2 => ?_) (fun w hw => ?_) 0 (Nat.zero_le _) w hw
      · obtain ⟨B1, B2, B3, B4, B5⟩ := K hw
        refine zb_Walls_law_34 (k1 := c) (z_ixn (by omega)) (fun z => ?_) (fun _ => ?_)
        · have f := B1.1.fM hc
          change w.1 39 c = _ at f
          rw [f] at z
          exact absurd z (nI_ge hk (by omega))
        refine zb_Walls_law_48 B5 (lc_bearsAt z_c33 B5 (B1.1.cC hc) B3 hk) (by omega) (fun r w2 hr => ?_)
        obtain ⟨rfl, F2⟩ := hr
        have hw2 := hw.tr (z_frR B5 F2)
        obtain ⟨D1, D2, D3, D4, D5⟩ := K hw2
        refine zb_Walls_law_63 D4 (lc_bearsAt z_c33 D4 (D1.1.cC hc) D1.2.2.1.2 hk) (by omega) (fun r w3 hr => ?_)
        obtain ⟨rfl, F3⟩ := hr
        refine zb_Walls_law_77 ?_
        rw [nI_add, Int32.add_assoc, zn_ring]
        exact kk2 w3 (hw2.tr (z_frR D4 F3))
      · obtain ⟨B1, B2, B3, B4, B5⟩ := K hw
        refine zb_Walls_law_34 (k1 := c) (z_ixn (by omega)) (fun _ => ?_) (fun z => ?_)
        · refine zb_Walls_law_86 ?_
          rw [nI_add, zn_ring]
          exact kk w hw
        · have f := B1.1.fM hc
          change w.1 39 c = _ at f
          rw [f] at z
          exact absurd (Int32.le_refl _) z
    · obtain ⟨B1, B2, B3, B4, B5⟩ := K hw
      refine zb_Walls_law_20 (fun _ => ?_) (fun z => ?_)
      rotate_left
      · rw [B1.1.fc] at z
        exact absurd (Int32.le_refl _) z
      refine zb_Walls_law_92 B4 (cc_columnsThatHold z_c33 B4 B1.1 B1.2.2.1.2) (by omega) (fun r w2 hr => ?_)
      obtain ⟨rfl, F2⟩ := hr
      have hw2 := hw.tr (z_frR B4 F2)
      obtain ⟨D1, D2, D3, D4, D5⟩ := K hw2
      refine zb_Walls_law_104 (cc_tellTwo _ _ _) (by omega) (fun w3 h3 => ?_)
      obtain ⟨r3, F3⟩ := h3
      obtain ⟨G1, G2⟩ := D1.row (F3.mono (fun _ h => Or.inr h) (fun _ h => h)) r3
      have e2 : w3.2 0 = w2.2 0 := F3.2.2
      have hE3 : rR E2 w3 (w3.2 0 7) := by
        rw [e2]
        rcases D5 with z | z
        · rw [z] at D3 ⊢
          exact D3.keep (F3.1 53 (by decide) (by decide)).1 (F3.1 54 (by decide) (by decide)).1
        · rw [z] at D3 ⊢
          exact D3.keep (F3.1 58 (by decide) (by decide)).1 (F3.1 59 (by decide) (by decide)).1
      refine zb_Walls_law_108 G1.2.2.1.oR2 (cc_columnsThatHold z_c33 G1.2.2.1.oR2 G1.1 hE3) (by omega) (fun r w4 hr => ?_)
      obtain ⟨rfl, F4⟩ := hr
      obtain ⟨P1, P2⟩ := G1.low ((z_frR G1.2.2.1.oR2 F4).mono (by unfold c_sO; omega) (fun _ h => h))
      refine zb_Walls_law_119 ?_
      rw [he]
      exact ⟨_, rfl, rfl, P1, W1.tr (D2.tr (G2.tr P2))⟩
end
