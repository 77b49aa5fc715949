/-! fines at rest -/
def r_g (m o v f : Int32) : Int32 := (if ¬ m ≤ o then v else if m = o then v / nI 2 else nI 0) - f * m
def r_b (m o v f : Int32) : Bool := (List.range 10).all (fun x => decide (r_g (nI x) o v f ≤ r_g m o v f))
def r_st (v f : Int32) (x : Nat) (q : Nat × List Int32) (y : Nat) : Nat × List Int32 := if r_b (nI x) (nI y) v f = true ∧ r_b (nI y) (nI x) v f = true then (q.1 + 1, if q.1 = 0 then [nI x, nI y] else q.2) else q
def r_ro (v f : Int32) (q : Nat × List Int32) (x : Nat) (n : Nat) : Nat × List Int32 := (List.range n).foldl (r_st v f x) q
def r_al (v f : Int32) (n : Nat) : Nat × List Int32 := (List.range n).foldl (fun q x => r_ro v f q x 10) (0, [])
def to_rests (x : tX) (v f : Int32) : Int32 × tX := if (nI 0 ≤ v ∧ v ≤ nI 9) ∧ (nI 0 ≤ f ∧ f ≤ nI 9) then (nI (r_al v f 10).1, x_row x (r_al v f 10).2) else (-1, x)
theorem mc_gets (m o v f : Int32) (σ : zS) : z_Ci 0 zm_Model_gets [.inl m, .inl o, .inl v, .inl f] σ (z_is (r_g m o v f) σ) := by
  refine z_Ci_of (by decide) (Nat.le_of_ble_eq_true rfl) (fun Γ hd he => ?_)
  show z_J Γ zm_Model_gets 0 [some (.inl m), some (.inl o), some (.inl v), some (.inl f)] [] σ
  refine zb_Model_gets_0 (fun p => ?_) (fun p => ?_)
  · refine zb_Model_gets_9 (fun p2 => ?_) (fun p2 => ?_)
    · refine zb_Model_gets_20 (zb_Model_gets_21 ?_)
      rw [he, r_g, if_neg (fun z => z p), if_neg p2]
      exact ⟨_, rfl, rfl, rfl⟩
    · refine zb_Model_gets_14 (zb_Model_gets_21 ?_)
      rw [he, r_g, if_neg (fun z => z p), if_pos p2]
      exact ⟨_, rfl, rfl, rfl⟩
  · refine zb_Model_gets_5 (zb_Model_gets_21 ?_)
    rw [he, r_g, if_pos p]
    exact ⟨_, rfl, rfl, rfl⟩
theorem r_b_pre {m o v f : Int32} {i : Nat} : (List.range (i + 1)).all (fun x => decide (r_g (nI x) o v f ≤ r_g m o v f)) = ((List.range i).all (fun x => decide (r_g (nI x) o v f ≤ r_g m o v f)) && decide (r_g (nI i) o v f ≤ r_g m o v f)) := by
  rw [List.range_succ, List.all_append, List.all_cons, List.all_nil, Bool.and_true]
theorem mc_isBest (m o v f : Int32) (σ : zS) : z_Ci 1 zm_Model_isBest [.inl m, .inl o, .inl v, .inl f] σ (z_is (z_tf (r_b m o v f)) σ) := by
  refine z_Ci_of (by decide) (Nat.le_of_ble_eq_true rfl) (fun Γ hd he => ?_)
  show z_J Γ zm_Model_isBest 0 [some (.inl m), some (.inl o), some (.inl v), some (.inl f), none] [] σ
  refine zb_Model_isBest_0 ?_
  refine zj_forS (b := 10) (fun i => [some (.inl m), some (.inl o), some (.inl v), some (.inl f), some (.inl (nI i))])
    (fun i w => w = σ ∧ (List.range i).all (fun x => decide (r_g (nI x) o v f ≤ r_g m o v f)) = true) (fun i w hi hI kk => ?_) (fun w hI => ?_) 0 (Nat.zero_le _) _ ⟨rfl, rfl⟩
  · obtain ⟨rfl, q1⟩ := hI
    refine zb_Model_isBest_3 (fun p => ?_) (fun _ => ?_)
    · rw [zn_lt (by omega) (by omega)] at p
      omega
    refine zb_Model_isBest_10 (mc_gets _ _ _ _ _) (by omega) (fun r u hr => ?_)
    obtain ⟨rfl, rfl⟩ := hr
    refine zb_Model_isBest_18 (mc_gets _ _ _ _ _) (by omega) (fun r u hr => ?_)
    obtain ⟨rfl, rfl⟩ := hr
    refine zb_Model_isBest_25 (fun p => ?_) (fun p => ?_)
    · refine zb_Model_isBest_30 ?_
      rw [nI_add]
      refine kk _ ⟨rfl, ?_⟩
      rw [r_b_pre, q1]
      simp [p]
    · refine zb_Model_isBest_28 ?_
      have e : r_b m o v f = false := by
        unfold r_b
        rw [List.all_eq_false]
        exact ⟨i, List.mem_range.mpr hi, by simp [p]⟩
      rw [he, e]
      exact ⟨_, rfl, rfl, rfl⟩
  · obtain ⟨rfl, q1⟩ := hI
    refine zb_Model_isBest_3 (fun _ => ?_) (fun p => absurd (by decide) p)
    refine zb_Model_isBest_36 ?_
    have e : r_b m o v f = true := q1
    rw [he, e]
    exact ⟨_, rfl, rfl, rfl⟩
theorem r_st_le (v f : Int32) (x : Nat) (q : Nat × List Int32) (y : Nat) : (r_st v f x q y).1 ≤ q.1 + 1 ∧ (q.2.length ≤ 2 → (r_st v f x q y).2.length ≤ 2) ∧ ((q.1 = 0 → q.2 = []) → (r_st v f x q y).1 = 0 → (r_st v f x q y).2 = []) := by
  unfold r_st
  split
  · refine ⟨Nat.le_refl _, fun h => ?_, fun _ h => absurd h (by simp)⟩
    show (if q.1 = 0 then [nI x, nI y] else q.2).length ≤ 2
    split
    · simp
    · exact h
  · exact ⟨by omega, id, id⟩
theorem r_ro_s (v f : Int32) (q : Nat × List Int32) (x n : Nat) : r_ro v f q x (n + 1) = r_st v f x (r_ro v f q x n) n := by
  unfold r_ro
  rw [List.range_succ, List.foldl_append, List.foldl_cons, List.foldl_nil]
theorem r_al_s (v f : Int32) (n : Nat) : r_al v f (n + 1) = r_ro v f (r_al v f n) n 10 := by
  unfold r_al
  rw [List.range_succ, List.foldl_append, List.foldl_cons, List.foldl_nil]
theorem r_ro_le (v f : Int32) (q : Nat × List Int32) (x : Nat) : ∀ n, (r_ro v f q x n).1 ≤ q.1 + n ∧ (q.2.length ≤ 2 → (r_ro v f q x n).2.length ≤ 2) ∧ ((q.1 = 0 → q.2 = []) → (r_ro v f q x n).1 = 0 → (r_ro v f q x n).2 = [])
  | 0 => ⟨Nat.le_refl _, id, id⟩
  | n + 1 => by
    obtain ⟨h1, h2, h3⟩ := r_ro_le v f q x n
    obtain ⟨g1, g2, g3⟩ := r_st_le v f x (r_ro v f q x n) n
    rw [r_ro_s]
    exact ⟨by omega, fun h => g2 (h2 h), fun h => g3 (h3 h)⟩
theorem r_al_le (v f : Int32) : ∀ n, (r_al v f n).1 ≤ 10 * n ∧ (r_al v f n).2.length ≤ 2 ∧ ((r_al v f n).1 = 0 → (r_al v f n).2 = [])
  | 0 => ⟨Nat.le_refl _, by simp [r_al], fun _ => rfl⟩
  | n + 1 => by
    obtain ⟨h1, h2, h3⟩ := r_al_le v f n
    obtain ⟨g1, g2, g3⟩ := r_ro_le v f (r_al v f n) n 10
    rw [r_al_s]
    exact ⟨by omega, g2 h2, g3 h3⟩
section
variable {x : tX} {σ u : zS}
theorem mp_rests (h : mA x σ) (v f : Int32) : z_Ci 3 zm_Model_rests [.inr 63, .inl v, .inl f] σ (fun r u => r = (to_rests x v f).1 ∧ mA (to_rests x v f).2 u ∧ zU σ u) := by
  have h0 := m_t0 h
  refine z_Ci_of (by decide) (Nat.le_of_ble_eq_true rfl) (fun Γ hd he => ?_)
  show z_J Γ zm_Model_rests 0 [some (.inr 63), some (.inl v), some (.inl f), none, none, none] [] σ
  have no : ¬ ((nI 0 ≤ v ∧ v ≤ nI 9) ∧ (nI 0 ≤ f ∧ f ≤ nI 9)) → z_J Γ zm_Model_rests 25 [none, none, none, none, none, none] [] (z_pI σ 63 11 (nI 0)) := fun q => by
    refine zb_Model_rests_25 ?_
    rw [he, to_rests, if_neg q]
    exact ⟨_, rfl, rfl, h0, mW.zU m_t0W⟩
  refine zb_Model_rests_0 (mc_in _ _ _ _) (by omega) (fun r u hr => ?_)
  obtain ⟨rfl, rfl⟩ := hr
  refine zb_Model_rests_12 (fun k => no (fun q => ?_)) (fun k => ?_)
  · rw [z_tf_eq0] at k
    simp [q.1.1, q.1.2] at k
  rw [z_tf_eq0, Bool.not_eq_false, Bool.and_eq_true, decide_eq_true_eq, decide_eq_true_eq] at k
  refine zb_Model_rests_15 (mc_in _ _ _ _) (by omega) (fun r u hr => ?_)
  obtain ⟨rfl, rfl⟩ := hr
  refine zb_Model_rests_22 (fun k2 => ?_) (fun k2 => no (fun q => ?_))
  rotate_left
  · rw [z_tf_eq0] at k2
    simp [q.2.1, q.2.2] at k2
  rw [z_tf_eq0, Bool.not_eq_false, Bool.and_eq_true, decide_eq_true_eq, decide_eq_true_eq] at k2
  rw [to_rests, if_pos ⟨k, k2⟩] at he
  refine zb_Model_rests_27 ?_
  refine zj_forS (b := 10) (fun i => [some (.inr 63), some (.inl v), some (.inl f), some (.inl (nI (r_al v f i).1)), some (.inl (nI i)), none])
    (fun i w => mRow (r_al v f i).2 w ∧ mQ σ w) (fun i w hi hI kk => ?_) (fun w hI => ?_) 0 (Nat.zero_le _) _ ⟨mRow.nil, mQ.t0.tr mQ.r0⟩
  · refine zb_Model_rests_37 (fun p => ?_) (fun _ => ?_)
    · rw [zn_lt (by omega) (by omega)] at p
      omega
    refine zb_Model_rests_44 ?_
    obtain ⟨h1, h2, h3⟩ := r_al_le v f i
    refine zj_forS (b := 10) (fun j => [some (.inr 63), some (.inl v), some (.inl f), some (.inl (nI (r_ro v f (r_al v f i) i j).1)), some (.inl (nI i)), some (.inl (nI j))])
      (fun j w => mRow (r_ro v f (r_al v f i) i j).2 w ∧ mQ σ w) (fun j w hj hI kk2 => ?_) (fun w hI => ?_) 0 (Nat.zero_le _) _ hI
    · obtain ⟨q1, q2⟩ := hI
      obtain ⟨g1, g2, g3⟩ := r_ro_le v f (r_al v f i) i j
      refine zb_Model_rests_47 (fun p => ?_) (fun _ => ?_)
      · rw [zn_lt (by omega) (by omega)] at p
        omega
      have e1 := r_ro_s v f (r_al v f i) i j
      rw [e1] at kk2
      unfold r_st at kk2
      have skip : ¬ (r_b (nI i) (nI j) v f = true ∧ r_b (nI j) (nI i) v f = true) → z_J Γ zm_Model_rests 100 [some (.inr 63), some (.inl v), some (.inl f), some (.inl (nI (r_ro v f (r_al v f i) i j).1)), some (.inl (nI i)), some (.inl (nI j))] [] w := by
        intro p
        refine zb_Model_rests_100 ?_
        rw [nI_add]
        rw [if_neg p] at kk2
        exact kk2 w ⟨q1, q2⟩
      refine zb_Model_rests_54 (mc_isBest _ _ _ _ _) (by omega) (fun r u hr => ?_)
      obtain ⟨rfl, rfl⟩ := hr
      refine zb_Model_rests_63 (fun p => skip (fun z => ?_)) (fun p => ?_)
      · rw [z_tf_eq0] at p
        rw [p] at z
        exact absurd z.1 (by decide)
      rw [z_tf_eq0, Bool.not_eq_false] at p
      refine zb_Model_rests_66 (mc_isBest _ _ _ _ _) (by omega) (fun r u hr => ?_)
      obtain ⟨rfl, rfl⟩ := hr
      refine zb_Model_rests_75 (fun p2 => ?_) (fun p2 => zb_Model_rests_78 (skip (fun z => ?_)))
      · rw [z_tf_eq0, Bool.not_eq_false] at p2
        rw [if_pos ⟨p, p2⟩] at kk2
        have e0 : (0 : Int32) = nI 0 := rfl
        generalize r_ro v f (r_al v f i) i j = q at *
        refine zb_Model_rests_81 (fun p3 => ?_) (fun p3 => ?_)
        · rw [e0, zn_eq (by omega) (by omega)] at p3
          refine zb_Model_rests_97 (zb_Model_rests_100 ?_)
          rw [nI_add, nI_add]
          rw [if_neg p3] at kk2
          exact kk2 _ ⟨q1, q2⟩
        · rw [e0, zn_eq (by omega) (by omega)] at p3
          rw [g3 h3 p3] at q1
          refine zb_Model_rests_85 (mc_tell q1 (by simp) _) (by omega) (fun w2 hr2 => ?_)
          obtain ⟨r1, r2⟩ := hr2
          refine zb_Model_rests_91 (mc_tell r1 (by simp) _) (by omega) (fun w3 hr3 => ?_)
          obtain ⟨r3, r4⟩ := hr3
          refine zb_Model_rests_97 (zb_Model_rests_100 ?_)
          rw [nI_add, nI_add]
          rw [if_pos p3] at kk2
          exact kk2 _ ⟨r3, (q2.tr (mQ.tl r2)).tr (mQ.tl r4)⟩
      · rw [z_tf_eq0] at p2
        rw [p2] at z
        exact absurd z.2 (by decide)
    · refine zb_Model_rests_47 (fun _ => ?_) (fun p => absurd (by decide) p)
      refine zb_Model_rests_106 ?_
      rw [nI_add]
      rw [r_al_s] at kk
      exact kk w hI
  · refine zb_Model_rests_37 (fun _ => ?_) (fun p => absurd (by decide) p)
    refine zb_Model_rests_112 ?_
    rw [he]
    exact ⟨_, rfl, rfl, h.row hI.2 hI.1⟩
end
/-! sieges drawn by a seed -/
def y_nx (r : Int32) : Int32 := r * (1103515245 : Int32) + nI 12345
def y_hi (r : Int32) : Nat := r.toBitVec.toNat / 65536
theorem y_hi_e (r : Int32) : z_ushr r (nI 16) = nI (y_hi r) ∧ y_hi r < 65536 := by
  have hlt : y_hi r < 65536 := by
    unfold y_hi
    have := r.toBitVec.isLt
    omega
  refine ⟨?_, hlt⟩
  apply Int32.toBitVec_inj.1
  apply BitVec.eq_of_toNat_eq
  have h := pk_ushr r (nI 16) 16 (by decide)
  unfold z_ushr
  rw [h]
  show _ = (BitVec.ofNat 32 (y_hi r)).toNat
  rw [BitVec.toNat_ofNat, Nat.mod_eq_of_lt (by omega)]
  rfl
theorem zn_rem {m n : Nat} (hm : m < 2147483648) (hn : 0 < n) (hn2 : n < 2147483648) : nI m - nI m / nI n * nI n = nI (m % n) := by
  rw [pk_div hm hn hn2, pk_mul, pk_sub (Nat.div_mul_le_self _ _)]
  rw [Nat.mod_eq_sub_div_mul]
theorem mc_draw {σ : zS} {n : Nat} (hn : 0 < n) (hn2 : n < 2147483648) : z_Ci 0 zm_Model_draw [.inr 63, .inl (nI n)] σ (z_is (nI (y_hi (y_nx (σ.1 63 43)) % n)) (z_pI σ 63 43 (y_nx (σ.1 63 43)))) := by
  refine z_Ci_of (by decide) (Nat.le_of_ble_eq_true rfl) (fun Γ hd he => ?_)
  show z_J Γ zm_Model_draw 0 [some (.inr 63), some (.inl (nI n))] [] σ
  have e0 : (0 : Int32) = nI 0 := rfl
  refine zb_Model_draw_0 (fun p => ?_) ?_
  · rw [e0, zn_eq (by omega) (by omega)] at p
    omega
  obtain ⟨e1, e2⟩ := y_hi_e (y_nx (σ.1 63 43))
  rw [z_pI_at, he, show σ.1 63 43 * (1103515245 : Int32) + nI 12345 = y_nx (σ.1 63 43) from rfl, e1, zn_rem (by omega) hn hn2]
  exact ⟨_, rfl, rfl, rfl⟩
/-- a year: what was drawn last, how it stands, how many were laid and lost, how low it came -/
abbrev yS : Type := Int32 × aV × Nat × Nat × Nat
def y_b (s : aS) (q : yS) : Nat := y_hi (y_nx (y_nx q.1)) % s_n s
def y_c (s : aS) (q : yS) : Nat := y_hi (y_nx (y_nx (y_nx q.1))) % s_c s
def y_d (s : aS) (q : yS) : Nat := y_hi (y_nx q.1) % s_c s
def y_v1 (s : aS) (q : yS) : aV := (a_shi q.2.1 (y_d s q) 1).1
def y_l (E : (Nat → Int32) → Int32) (s : aS) (q : yS) : Int32 × aV := a_lay E s (y_v1 s q) (nI (y_b s q)) (nI (y_c s q))
def y_v3 (E : (Nat → Int32) → Int32) (s : aS) (q : yS) : aV := (a_pd s ((y_l E s q).2, 0, 0)).1
def y_st (E : (Nat → Int32) → Int32) (s : aS) (q : yS) : yS := (y_nx (y_nx (y_nx q.1)), y_v3 E s q, q.2.2.1 + (if 0 ≤ (y_l E s q).1 then 1 else 0), q.2.2.2.1 + (if (v_p q.2.1 (y_d s q)).length = 0 then 0 else 1), if a_lh s (y_v3 E s q) < q.2.2.2.2 then a_lh s (y_v3 E s q) else q.2.2.2.2)
def y_it (E : (Nat → Int32) → Int32) (s : aS) (q : yS) : Nat → yS
  | 0 => q
  | i + 1 => y_st E s (y_it E s q i)
def to_years (x : tX) (a b : Int32) : Int32 × tX := if s_n (x_s x) = 0 then (-2, x) else if nI 1 ≤ b ∧ b ≤ nI 60 then (nI (y_it (x_E x) (x_s x) (a, x_v x, 0, 0, 99) b.toNatClampNeg).2.2.1, x_row x [nI (y_it (x_E x) (x_s x) (a, x_v x, 0, 0, 99) b.toNatClampNeg).2.2.2.1, nI (y_it (x_E x) (x_s x) (a, x_v x, 0, 0, 99) b.toNatClampNeg).2.2.2.2]) else (-1, x)
theorem a_pdi_ind (s : aS) (v : aV) (a b a' b' : Nat) : ∀ n, (a_pdi s (v, a, b) n).1 = (a_pdi s (v, a', b') n).1
  | 0 => rfl
  | n + 1 => by
    have ih := a_pdi_ind s v a b a' b' n
    rw [a_pdi, a_pdi, ih]
    split
    · rfl
    · exact ih
section
variable {x : tX} {σ u : zS} {s : aS}
theorem zn_nat (z : Int32) : z = nI z.toBitVec.toNat := by
  apply Int32.toBitVec_inj.1
  show _ = BitVec.ofNat 32 z.toBitVec.toNat
  rw [BitVec.ofNat_toNat, BitVec.setWidth_eq]
theorem a_shi1 (v : aV) (c : Nat) (hb : a_top v c < 12) : z_bc (nI (a_shi v c 1).2) = nI (if (v_p v c).length = 0 then 0 else 1) := by
  rw [a_shi, a_shi]
  by_cases h : (v_p v c).length = 0
  · rw [if_pos h, if_pos h]
    show z_bc (nI 0) = nI 0
    decide
  · rw [if_neg h, if_neg h]
    show z_bc (nI (0 ||| 2 ^ a_top v c)) = nI 1
    rw [Nat.zero_or]
    have key : ∀ b, b < 12 → z_bc (nI (2 ^ b)) = nI 1 := by decide +kernel
    exact key _ hb
theorem mp_years (h : mA x σ) (a b : Int32) : z_Ci 346 zm_Model_years [.inr 63, .inl a, .inl b] σ (fun r u => r = (to_years x a b).1 ∧ mA (to_years x a b).2 u ∧ zU σ u) := by
  have h0 := m_t0 h
  have hn := h.1.n
  have h6 := h.1.c6
  have h1c := h.1.c1
  have h4r := h.1.r4
  have e0 : (0 : Int32) = nI 0 := rfl
  refine z_Ci_of (by decide) (Nat.le_of_ble_eq_true rfl) (fun Γ hd he => ?_)
  show z_J Γ zm_Model_years 0 [some (.inr 63), some (.inl a), some (.inl b), none, none, none, none, none, none] [] σ
  refine zb_Model_years_0 (fun p => ?_) (fun p => ?_)
  rotate_left
  · rw [h0.1.2.1.1, e0, zn_eq (by omega) (by omega)] at p
    refine zb_Model_years_12 ?_
    rw [he, to_years, if_pos p]
    exact ⟨_, rfl, rfl, h0, mW.zU m_t0W⟩
  rw [h0.1.2.1.1, e0, zn_eq (by omega) (by omega)] at p
  rw [to_years, if_neg p] at he
  refine zb_Model_years_15 (mc_in _ _ _ _) (by omega) (fun r u hr => ?_)
  obtain ⟨rfl, rfl⟩ := hr
  refine zb_Model_years_22 (fun k => ?_) (fun k => ?_)
  rotate_left
  · rw [z_tf_eq0] at k
    refine zb_Model_years_25 ?_
    rw [he, if_neg (fun q => by simp [q.1, q.2] at k)]
    exact ⟨_, rfl, rfl, h0, mW.zU m_t0W⟩
  rw [z_tf_eq0, Bool.not_eq_false, Bool.and_eq_true, decide_eq_true_eq, decide_eq_true_eq] at k
  obtain ⟨n, hn1, hn60, rfl⟩ := zn_btw (Int32.not_lt.mpr k.1) k.2 (by decide)
  rw [if_pos k, nI_clamp (by omega)] at he
  refine zb_Model_years_27 (mc_copy (a0 := 64) (a1 := 78) (n1 := 53) (k := 0) (by decide) (by decide) (by decide) (by decide) (by decide)) (by omega) (fun u2 h2 => ?_)
  obtain ⟨p1, -, p3⟩ := h2
  have f1 : mX m_sO m_sK (z_pI σ 63 11 (nI 0)) u2 := mX.tr (mX.pK mX.rf (by unfold m_sK; omega)) (p3.X (by decide) (by unfold m_sO; omega))
  have hR2 : mR (x_s x) (x_v x) u2 78 := h0.1.updX f1 (by unfold m_sK; omega) (by unfold m_sO; omega) h.1.1 (h0.1.2.2.congr hn h4r (fun k hk => by have := p1 k hk; rw [Nat.zero_add] at this; rw [this, z_pI_ne (by decide)]))
  have e43 : u2.1 63 43 = a := by rw [(p3 63 (by decide)).1, z_pI_at]
  refine zb_Model_years_53 ?_
  let Y := fun i => y_it (x_E x) (x_s x) (a, x_v x, 0, 0, 99) i
  refine zj_forS (b := n) (fun i => [some (.inr 63), none, some (.inl (nI n)), some (.inl (nI (Y i).2.2.1)), some (.inl (nI (Y i).2.2.2.1)), some (.inl (nI (if i = 0 then 1000000 else (Y i).2.2.2.2))), some (.inl (nI i)), none, none])
    (fun i w => mX m_sO m_sK (z_pI σ 63 11 (nI 0)) w ∧ mR (x_s x) (Y i).2.1 w 78 ∧ w.1 63 43 = (Y i).1) (fun i w hi hI kk => ?_) (fun w hI => ?_) 0 (Nat.zero_le _) _ ⟨f1, hR2, e43⟩
  · obtain ⟨q1, q2, q3⟩ := hI
    refine zb_Model_years_56 (fun p => absurd p (nI_ge hi (by omega))) (fun _ => ?_)
    have eY : Y (i + 1) = y_st (x_E x) (x_s x) (Y i) := rfl
    have hYl : ∀ j, (Y j).2.2.2.2 ≤ 99 := by
      intro j
      induction j with
      | zero => exact Nat.le_refl _
      | succ j ih =>
        show (if a_lh (x_s x) (y_v3 (x_E x) (x_s x) (Y j)) < (Y j).2.2.2.2 then a_lh (x_s x) (y_v3 (x_E x) (x_s x) (Y j)) else (Y j).2.2.2.2) ≤ 99
        split
        · exact a_lhi_le _ _ _
        · exact ih
    have hYi := hYl i
    have hY0 : i = 0 → (Y i).2.2.2.2 = 99 := fun z => by rw [z]; rfl
    rw [eY] at kk
    generalize Y i = q at *
    have hd1 : y_d (x_s x) q < s_c (x_s x) := Nat.mod_lt _ (by omega)
    have hd2 : y_b (x_s x) q < s_n (x_s x) := Nat.mod_lt _ (by omega)
    have hd3 : y_c (x_s x) q < s_c (x_s x) := Nat.mod_lt _ (by omega)
    have hdr1 := mc_draw (σ := w) (n := s_c (x_s x)) (by omega) (by omega)
    rw [q3] at hdr1
    refine zb_Model_years_62 (dc := 0) (P := z_is (nI (y_d (x_s x) q)) (z_pI w 63 43 (y_nx q.1))) (by rw [q2.2.1.2.1]; exact hdr1) (by omega) (fun r w1 hr => ?_)
    obtain ⟨rfl, hw1⟩ := hr
    have g1 : mX m_sO m_sK (z_pI σ 63 11 (nI 0)) w1 := by rw [hw1]; exact q1.pK (by unfold m_sK; omega)
    have r1 : mR (x_s x) q.2.1 w1 78 := by rw [hw1]; exact q2.k63 (by decide) (by decide)
    have e1 : w1.1 63 43 = y_nx q.1 := by rw [hw1, z_pI_at]
    clear hw1
    refine zb_Model_years_77 (mc_goShot r1 (by decide) hd1 (by omega)) (by omega) (fun r w2 hr => ?_)
    obtain ⟨rfl, r2, hF2⟩ := hr
    have g2 : mX m_sO m_sK (z_pI σ 63 11 (nI 0)) w2 := g1.tr (hF2.X (by decide) (by unfold m_sO; omega))
    have e2 : w2.1 63 43 = y_nx q.1 := by rw [(hF2 63 (by decide)).1]; exact e1
    have hdr2 := mc_draw (σ := w2) (n := s_n (x_s x)) (by omega) (by omega)
    rw [e2] at hdr2
    refine zb_Model_years_81 (dc := 0) (P := z_is (nI (y_b (x_s x) q)) (z_pI w2 63 43 (y_nx (y_nx q.1)))) (by rw [r2.2.1.1]; exact hdr2) (by omega) (fun r w3 hr => ?_)
    obtain ⟨rfl, hw3⟩ := hr
    have htop : a_top q.2.1 (y_d (x_s x) q) < 12 := by
      by_cases z : (v_p q.2.1 (y_d (x_s x) q)).length = 0
      · show (v_p q.2.1 (y_d (x_s x) q)).getD _ 0 < 12
        rw [List.getD_eq_getElem?_getD, List.getElem?_eq_none (by omega)]
        decide
      · have := ((q2.1.mm hd1 _).mp (l_getD_mem (show (v_p q.2.1 (y_d (x_s x) q)).length - 1 < (v_p q.2.1 (y_d (x_s x) q)).length by omega))).1
        exact Nat.lt_of_lt_of_le this hn
    rw [a_shi1 _ _ htop, nI_add]
    have g3 : mX m_sO m_sK (z_pI σ 63 11 (nI 0)) w3 := by rw [hw3]; exact g2.pK (by unfold m_sK; omega)
    have r3 : mR (x_s x) (y_v1 (x_s x) q) w3 78 := by rw [hw3]; exact r2.k63 (by decide) (by decide)
    have e3 : w3.1 63 43 = y_nx (y_nx q.1) := by rw [hw3, z_pI_at]
    clear hw3
    have hdr3 := mc_draw (σ := w3) (n := s_c (x_s x)) (by omega) (by omega)
    rw [e3] at hdr3
    refine zb_Model_years_95 (dc := 0) (P := z_is (nI (y_c (x_s x) q)) (z_pI w3 63 43 (y_nx (y_nx (y_nx q.1))))) (by rw [r3.2.1.2.1]; exact hdr3) (by omega) (fun r w4 hr => ?_)
    obtain ⟨rfl, hw4⟩ := hr
    have g4 : mX m_sO m_sK (z_pI σ 63 11 (nI 0)) w4 := by rw [hw4]; exact g3.pK (by unfold m_sK; omega)
    have r4 : mR (x_s x) (y_v1 (x_s x) q) w4 78 := by rw [hw4]; exact r3.k63 (by decide) (by decide)
    have e4 : w4.1 63 43 = y_nx (y_nx (y_nx q.1)) := by rw [hw4, z_pI_at]
    clear hw4
    have hA4 := (h0.low g4).1
    refine zb_Model_years_105 (mc_refusesLay hA4.2.2.1.1 (by rw [hA4.2.2.1.2]; decide) r4 (by decide) (by decide) _ _) (by omega) (fun r w5 hr => ?_)
    obtain ⟨rfl, hF5⟩ := hr
    have g5 : mX m_sO m_sK (z_pI σ 63 11 (nI 0)) w5 := g4.tr (hF5.X2 (by unfold m_sO; omega))
    have r5 : mR (x_s x) (y_v1 (x_s x) q) w5 78 := r4.keep hF5 (by decide) (by decide) (by decide) (by decide) (by decide) (by decide)
    have e5 : w5.1 63 43 = y_nx (y_nx (y_nx q.1)) := by rw [hF5.2.1 43 (by omega) (by decide)]; exact e4
    have last : ∀ w6, mX m_sO m_sK (z_pI σ 63 11 (nI 0)) w6 → mR (x_s x) (y_l (x_E x) (x_s x) q).2 w6 78 → w6.1 63 43 = y_nx (y_nx (y_nx q.1)) → z_J Γ zm_Model_years 137 [some (.inr 63), none, some (.inl (nI n)), some (.inl (nI (q.2.2.1 + (if 0 ≤ (y_l (x_E x) (x_s x) q).1 then 1 else 0)))), some (.inl (nI (q.2.2.2.1 + (if (v_p q.2.1 (y_d (x_s x) q)).length = 0 then 0 else 1)))), some (.inl (nI (if i = 0 then 1000000 else q.2.2.2.2))), some (.inl (nI i)), none, none] [] w6 := by
      intro w6 g6 r6 e6
      refine zb_Model_years_137 (mc_goDays r6 (by decide) (n := 1) (zn_nat _) (zn_nat _) (by decide)) (by omega) (fun w7 h7 => ?_)
      obtain ⟨r7, -, -, hF7⟩ := h7
      have g7 : mX m_sO m_sK (z_pI σ 63 11 (nI 0)) w7 := mX.tr g6 (hF7.mono (by unfold m_sO; omega) (by unfold m_sK; omega))
      have r7' : mR (x_s x) (y_v3 (x_E x) (x_s x) q) w7 78 := by
        have : (a_dn (x_s x) ((y_l (x_E x) (x_s x) q).2, (w6.1 63 30).toBitVec.toNat, (w6.1 63 31).toBitVec.toNat) 1).1 = y_v3 (x_E x) (x_s x) q := a_pdi_ind _ _ _ _ _ _ _
        rw [this] at r7
        exact r7
      refine zb_Model_years_146 (mc_lh r7' (by decide)) (by omega) (fun r w8 hr => ?_)
      obtain ⟨rfl, rfl⟩ := hr
      refine zb_Model_years_156 (by omega) ?_
      have hlh : a_lh (x_s x) (y_v3 (x_E x) (x_s x) q) ≤ 99 := a_lhi_le (x_s x) (y_v3 (x_E x) (x_s x) q) (s_c (x_s x))
      have hif : (if i = 0 then 1000000 else q.2.2.2.2) < 2147483648 := by split <;> omega
      rw [zn_min hif (by omega), nI_add]
      have em : (if a_lh (x_s x) (y_v3 (x_E x) (x_s x) q) < (if i = 0 then 1000000 else q.2.2.2.2) then a_lh (x_s x) (y_v3 (x_E x) (x_s x) q) else (if i = 0 then 1000000 else q.2.2.2.2)) = (if i + 1 = 0 then 1000000 else (y_st (x_E x) (x_s x) q).2.2.2.2) := by
        rw [if_neg (show ¬ i + 1 = 0 by omega)]
        show _ = (if a_lh (x_s x) (y_v3 (x_E x) (x_s x) q) < q.2.2.2.2 then a_lh (x_s x) (y_v3 (x_E x) (x_s x) q) else q.2.2.2.2)
        by_cases z : i = 0
        · have h99 := hY0 z
          rw [if_pos z, if_pos (by omega), h99]
          by_cases z2 : a_lh (x_s x) (y_v3 (x_E x) (x_s x) q) < 99
          · rw [if_pos z2]
          · rw [if_neg z2]
            omega
        · rw [if_neg z]
      rw [em]
      exact kk w8 ⟨g7, r7', by rw [hF7.2.1 43 (by decide)]; exact e6⟩
    rcases a_lay0_c (E := x_E x) r5.1 (nI (y_b (x_s x) q)) (nI (y_c (x_s x) q)) with ⟨z1, z2⟩ | ⟨b', c', eb, ec, hb, hc, hw, hl4, z1, z2⟩
    · refine zb_Model_years_119 (fun _ => ?_) (fun z => absurd (by rw [z]; decide) z1)
      have ey : y_l (x_E x) (x_s x) q = (a_lay0 (x_E x) (x_s x) (y_v1 (x_s x) q) (nI (y_b (x_s x) q)) (nI (y_c (x_s x) q)), y_v1 (x_s x) q) := z2
      have := last w5 g5 (by rw [ey]; exact r5) e5
      rw [ey, if_neg z1] at this
      exact this
    · refine zb_Model_years_119 (fun z => absurd z1 z) (fun _ => ?_)
      rw [zn_eq (by omega) (by omega)] at eb ec
      subst eb
      subst ec
      have ey : y_l (x_E x) (x_s x) q = (nI (l_h (s_t (x_s x)) (v_p (y_v1 (x_s x) q) (y_c (x_s x) q) ++ [y_b (x_s x) q])), a_put (y_v1 (x_s x) q) (y_b (x_s x) q) (y_c (x_s x) q)) := z2
      have r6 := r5.put (by decide) hb (by omega) hc hl4
      have h36 := r6.1.h36 hc
      have ep : v_p (a_put (y_v1 (x_s x) q) (y_b (x_s x) q) (y_c (x_s x) q)) (y_c (x_s x) q) = v_p (y_v1 (x_s x) q) (y_c (x_s x) q) ++ [y_b (x_s x) q] := if_pos rfl
      rw [ep] at h36
      refine zb_Model_years_122 (mc_goLay r5 (by decide) hb hc) (by omega) (fun w6 h6' => ?_)
      subst h6'
      refine zb_Model_years_134 ?_
      have hF6 := m_put_fr w5 78 (y_b (x_s x) q) (y_c (x_s x) q) (v_p (y_v1 (x_s x) q) (y_c (x_s x) q)).length
      have := last _ (g5.tr (hF6.X (by decide) (by unfold m_sO; omega))) (by rw [ey]; exact r6) (by rw [(hF6 63 (by decide)).1]; exact e5)
      rw [ey, if_pos (zn_ge0 (by omega))] at this
      rw [nI_add]
      exact this
  · refine zb_Model_years_56 (fun _ => ?_) (fun p => absurd (Int32.le_refl _) p)
    rw [if_neg (by omega)]
    refine zb_Model_years_167 (mc_tell mRow.nil (by decide) _) (by omega) (fun u3 h3 => ?_)
    obtain ⟨r1, r2⟩ := h3
    refine zb_Model_years_178 (mc_tell r1 (by simp) _) (by omega) (fun u4 h4 => ?_)
    obtain ⟨r3, r4⟩ := h4
    refine zb_Model_years_184 ?_
    rw [he]
    exact ⟨_, rfl, rfl, h.row (mQ.t0.tr ((mQ.of hI.1).tr (mQ.r0.tr ((mQ.tl r2).tr (mQ.tl r4))))) r3⟩
end
