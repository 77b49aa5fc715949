/-- the model's descent over a text: tag 0 thing, 1 product, 2 its loop, 3 sum, 4 its loop, 5 held -/
def d_ev (L : Nat) (T : Nat → Nat) (qa : Bool) (e : Nat → Int32) : Nat → Nat → Nat → Int32 → (Nat × Option Nat) → Int32 × (Nat × Option Nat)
  | 0, _, _, v, q => (v, q)
  | n + 1, 0, dp, _, q =>
    if (d_pas L T 45 q).1 = true then (-(d_ev L T qa e n 0 dp 0 (d_pas L T 45 q).2).1, (d_ev L T qa e n 0 dp 0 (d_pas L T 45 q).2).2)
    else if q.2 ≠ none then (nI 0, q)
    else if q.1 < L ∧ T q.1 = 40 ∧ dp < 4 then ((d_ev L T qa e n 5 (dp + 1) 0 (q.1 + 1, none)).1, d_nd L T 41 (d_ev L T qa e n 5 (dp + 1) 0 (q.1 + 1, none)).2)
    else if q.1 < L ∧ 48 ≤ T q.1 ∧ T q.1 < 58 then (nI (d_num L T 3 q).1, (d_num L T 3 q).2)
    else if q.1 < L ∧ d_let (T q.1) ≠ none then (if qa = true then e ((d_let (T q.1)).getD 0) else nI 0, (q.1 + 1, none))
    else (nI 0, d_flt q)
  | n + 1, 1, dp, _, q => d_ev L T qa e n 2 dp (d_ev L T qa e n 0 dp 0 q).1 (d_ev L T qa e n 0 dp 0 q).2
  | n + 1, 2, dp, v, q =>
    if q.2 = none ∧ q.1 < L ∧ (T q.1 = 42 ∨ T q.1 = 47) then
      d_ev L T qa e n 2 dp (p_jn (T q.1) v (d_ev L T qa e n 0 dp 0 (q.1 + 1, none)).1) (d_ev L T qa e n 0 dp 0 (q.1 + 1, none)).2
    else (v, q)
  | n + 1, 3, dp, _, q => d_ev L T qa e n 4 dp (d_ev L T qa e n 1 dp 0 q).1 (d_ev L T qa e n 1 dp 0 q).2
  | n + 1, 4, dp, v, q =>
    if q.2 = none ∧ q.1 < L ∧ (T q.1 = 43 ∨ T q.1 = 45) then
      d_ev L T qa e n 4 dp (p_jn (T q.1) v (d_ev L T qa e n 1 dp 0 (q.1 + 1, none)).1) (d_ev L T qa e n 1 dp 0 (q.1 + 1, none)).2
    else (v, q)
  | n + 1, _, dp, _, q =>
    if (d_ev L T qa e n 3 dp 0 q).2.2 = none ∧ (d_ev L T qa e n 3 dp 0 q).2.1 < L ∧ (T (d_ev L T qa e n 3 dp 0 q).2.1 = 60 ∨ T (d_ev L T qa e n 3 dp 0 q).2.1 = 62 ∨ T (d_ev L T qa e n 3 dp 0 q).2.1 = 61) then
      (p_jn (T (d_ev L T qa e n 3 dp 0 q).2.1) (d_ev L T qa e n 3 dp 0 q).1 (d_ev L T qa e n 3 dp 0 ((d_ev L T qa e n 3 dp 0 q).2.1 + 1, none)).1, (d_ev L T qa e n 3 dp 0 ((d_ev L T qa e n 3 dp 0 q).2.1 + 1, none)).2)
    else d_ev L T qa e n 3 dp 0 q
theorem p_s_inc (σ : zS) (a : Nat) (w : Option Nat) : z_pI (p_s σ (a, w)) 63 15 ((p_s σ (a, w)).1 63 15 + nI 1) = p_s σ (a + 1, w) := by
  rw [p_s_at]
  show z_pI _ 63 15 (nI a + nI 1) = _
  rw [nI_add, p_s_15]
section
variable {L : Nat} {T : Nat → Nat} {qa : Bool} {e : Nat → Int32} {σ : zS}
theorem d_dig_ge : ∀ (k v : Nat) (q : Nat × Option Nat), q.1 ≤ (d_dig L T k v q).2.1
  | 0, v, q => Nat.le_refl _
  | k + 1, v, q => by
    rw [d_dig]
    split
    · exact Nat.le_trans (Nat.le_succ _) (d_dig_ge k _ (q.1 + 1, none))
    · exact Nat.le_refl _
theorem d_flt_1 (q : Nat × Option Nat) : (d_flt q).1 = q.1 := by
  unfold d_flt
  split <;> rfl
theorem d_one_ge (f m : Nat) (q : Nat × Option Nat) : q.1 ≤ (d_one L T f m q).2.1 := by
  unfold d_one
  split
  · split
    · exact Nat.le_succ _
    · rw [d_flt_1]
      exact Nat.le_refl _
  · exact Nat.le_refl _
theorem d_pas_ge (c : Nat) (q : Nat × Option Nat) : q.1 ≤ (d_pas L T c q).2.1 := by
  unfold d_pas
  split
  · exact Nat.le_succ _
  · exact Nat.le_refl _
theorem d_nd_ge (c : Nat) (q : Nat × Option Nat) : q.1 ≤ (d_nd L T c q).1 := by
  unfold d_nd
  split
  · exact d_pas_ge c q
  · rw [d_flt_1]
    exact d_pas_ge c q
theorem d_ev_ok : ∀ (n t dp : Nat) (v : Int32) (q : Nat × Option Nat), d_ok L q → d_ok L (d_ev L T qa e n t dp v q).2 ∧ q.1 ≤ (d_ev L T qa e n t dp v q).2.1 := by
  intro n
  induction n with
  | zero =>
    intro t dp v q hq
    rw [d_ev]
    exact ⟨hq, Nat.le_refl _⟩
  | succ n ih =>
    intro t dp v q hq
    have up : q.1 < L → d_ok L (q.1 + 1, none) := fun h => ⟨h, fun p hp => by cases hp⟩
    match t with
    | 0 =>
      rw [d_ev]
      split
      · have h := ih 0 dp 0 _ (d_pas_ok (T := T) hq 45)
        exact ⟨h.1, Nat.le_trans (d_pas_ge 45 q) h.2⟩
      split
      · exact ⟨hq, Nat.le_refl _⟩
      split
      · rename_i h
        have h2 := ih 5 (dp + 1) 0 _ (up h.1)
        exact ⟨d_nd_ok h2.1 41, Nat.le_trans (Nat.le_trans (Nat.le_succ _) h2.2) (d_nd_ge 41 _)⟩
      split
      · exact ⟨d_dig_ok _ _ (d_one_ok hq _ _), Nat.le_trans (d_one_ge 48 10 q) (d_dig_ge _ _ _)⟩
      split
      · rename_i h
        exact ⟨up h.1, Nat.le_succ _⟩
      · exact ⟨d_flt_ok hq, by rw [d_flt_1]; exact Nat.le_refl _⟩
    | 1 =>
      rw [d_ev]
      have h := ih 0 dp 0 q hq
      have h2 := ih 2 dp (d_ev L T qa e n 0 dp 0 q).1 _ h.1
      exact ⟨h2.1, Nat.le_trans h.2 h2.2⟩
    | 2 =>
      rw [d_ev]
      split
      · rename_i h
        have h1 := ih 0 dp 0 _ (up h.2.1)
        have h2 := ih 2 dp (p_jn (T q.1) v (d_ev L T qa e n 0 dp 0 (q.1 + 1, none)).1) _ h1.1
        exact ⟨h2.1, Nat.le_trans (Nat.le_trans (Nat.le_succ _) h1.2) h2.2⟩
      · exact ⟨hq, Nat.le_refl _⟩
    | 3 =>
      rw [d_ev]
      have h := ih 1 dp 0 q hq
      have h2 := ih 4 dp (d_ev L T qa e n 1 dp 0 q).1 _ h.1
      exact ⟨h2.1, Nat.le_trans h.2 h2.2⟩
    | 4 =>
      rw [d_ev]
      split
      · rename_i h
        have h1 := ih 1 dp 0 _ (up h.2.1)
        have h2 := ih 4 dp (p_jn (T q.1) v (d_ev L T qa e n 1 dp 0 (q.1 + 1, none)).1) _ h1.1
        exact ⟨h2.1, Nat.le_trans (Nat.le_trans (Nat.le_succ _) h1.2) h2.2⟩
      · exact ⟨hq, Nat.le_refl _⟩
    | t + 5 =>
      rw [d_ev]
      · have h := ih 3 dp 0 q hq
        split
        · rename_i h1
          have h2 := ih 3 dp 0 ((d_ev L T qa e n 3 dp 0 q).2.1 + 1, none) ⟨h1.2.1, fun p hp => by cases hp⟩
          exact ⟨h2.1, Nat.le_trans (Nat.le_trans h.2 (Nat.le_succ _)) h2.2⟩
        · exact h
      all_goals (intro h; omega)
theorem mc_letterNo (σ : zS) : z_Ci 0 zm_Model_letterOf [.inl (-1)] σ (z_is (-1) σ) := by
  refine z_Ci_of (by decide) (Nat.le_of_ble_eq_true rfl) (fun Γ hd he => ?_)
  show z_J Γ zm_Model_letterOf 0 [some (.inl (-1))] [] σ
  refine zb_Model_letterOf_0 (fun _ => ?_) (fun h => absurd h (by decide))
  refine zb_Model_letterOf_10 (fun _ => ?_) (fun h => absurd h (by decide))
  refine zb_Model_letterOf_20 (fun _ => ?_) (fun h => absurd h (by decide))
  refine zb_Model_letterOf_30 (fun _ => ?_) (fun h => absurd h (by decide))
  refine zb_Model_letterOf_40 (fun _ => ?_) (fun h => absurd h (by decide))
  refine zb_Model_letterOf_50 (fun _ => ?_) (fun h => absurd h (by decide))
  refine zb_Model_letterOf_60 (zb_Model_letterOf_61 ?_)
  rw [he]
  exact ⟨_, rfl, rfl, rfl⟩
/-- the contract of one of the four at n -/
def d_Ct (L : Nat) (T : Nat → Nat) (qa : Bool) (e : Nat → Int32) (σ : zS) (mc : zM) (t n : Nat) : Prop := ∀ dp (q : Nat × Option Nat), dp ≤ 4 → d_ok L q → 8 * (L - q.1) + (if t = 0 then 1 else if t = 1 then 2 else if t = 3 then 3 else 4) ≤ n → z_Ci (n + 6) mc [.inr 63, .inl (nI dp)] (p_s σ q) (fun r u => r = (d_ev L T qa e n t dp 0 q).1 ∧ u = p_s σ (d_ev L T qa e n t dp 0 q).2)
theorem mc_thing (hC : rd_C L T qa e σ) {n : Nat} (hA : d_Ct L T qa e σ zm_Model_thing 0 n) (hD : d_Ct L T qa e σ zm_Model_held 5 n) : d_Ct L T qa e σ zm_Model_thing 0 (n + 1) := by
  intro dp q hdp hq hn
  have hn : 8 * (L - q.1) + 1 ≤ n + 1 := hn
  have h80 := hC.L80
  have hT := fun i (hi : i < L) => hC.T256 hi
  refine z_Ci_of (by decide) (Nat.le_of_ble_eq_true rfl) (fun Γ hd he => ?_)
  show z_J Γ zm_Model_thing 0 [some (.inr 63), some (.inl (nI dp)), none, none] [] (p_s σ q)
  rw [d_ev] at he
  refine zb_Model_thing_0 (mc_passes hC hq (by omega)) (by omega) (fun r u h => ?_)
  obtain ⟨rfl, rfl⟩ := h
  refine zb_Model_thing_6 (fun h => ?_) (fun h => ?_)
  · rw [z_tf_eq0] at h
    rw [if_neg (by rw [h]; decide)] at he
    have e1 : (d_pas L T 45 q).2 = q := by
      unfold d_pas at h ⊢
      split at h
      · cases h
      · rename_i h'
        rw [if_neg h']
    rw [e1]
    refine zb_Model_thing_16 (mc_fine hC hq) (by omega) (fun r u h2 => ?_)
    obtain ⟨rfl, rfl⟩ := h2
    refine zb_Model_thing_20 (fun h2 => ?_) (fun h2 => ?_)
    · rw [z_tf_eq0, decide_eq_false_iff_not, Decidable.not_not] at h2
      rw [if_neg (fun q => q h2)] at he
      obtain ⟨a, w⟩ := q
      have h2 : w = none := h2
      subst h2
      refine zb_Model_thing_25 (mc_here hC hq) (by omega) (fun r u h3 => ?_)
      obtain ⟨rfl, rfl⟩ := h3
      have rest : ¬ (a < L ∧ T a = 40 ∧ dp < 4) → z_J Γ zm_Model_thing 67 [some (.inr 63), none, some (.inl (d_he L T a)), none] [] (p_s σ (a, none)) := by
        intro hno
        rw [if_neg hno] at he
        refine zb_Model_thing_67 (mc_in _ _ _ _) (by omega) (fun r u h3 => ?_)
        obtain ⟨rfl, rfl⟩ := h3
        have hin := d_he_in hT (a := a) (f := 48) (m := 10) (by omega) (by omega)
        have e57 : nI (48 + 10 - 1) = nI 57 := rfl
        rw [e57] at hin
        rw [hin]
        refine zb_Model_thing_75 (fun h3 => ?_) (fun h3 => ?_)
        · rw [z_tf_eq0, decide_eq_false_iff_not] at h3
          rw [if_neg h3] at he
          have no : ¬ (a < L ∧ d_let (T a) ≠ none) → z_J Γ zm_Model_thing 92 [some (.inr 63), none, none, none] [] (p_s σ (a, none)) := by
            intro hno2
            rw [if_neg hno2] at he
            refine zb_Model_thing_92 (P := fun u => u = p_s σ (d_flt (a, none))) (dc := 1) (by rw [p_s_at]; exact mc_fault hC hq) (by omega) (fun u hu => ?_)
            refine zb_Model_thing_100 ?_
            rw [he, hu]
            exact ⟨_, rfl, rfl, rfl⟩
          by_cases ha : a < L
          · have hd1 : d_he L T a = nI (T a) := if_pos ha
            rw [hd1]
            have hT' := hT a ha
            refine zb_Model_thing_84 (mc_letterOf hT' _) (by omega) (fun r u h4 => ?_)
            obtain ⟨rfl, rfl⟩ := h4
            have hl6 : ∀ k, d_let (T a) = some k → k < 6 := by
              intro k hk
              unfold d_let at hk
              repeat' split at hk
              all_goals (cases hk)
              all_goals omega
            refine zb_Model_thing_88 (fun h4 => ?_) (fun h4 => no ?_)
            · have hsome : d_let (T a) ≠ none := fun q => h4 (by rw [q]; rfl)
              rw [if_pos ⟨ha, hsome⟩] at he
              obtain ⟨k, hk⟩ := Option.ne_none_iff_exists'.mp hsome
              have hk6 := hl6 k hk
              rw [hk] at he
              have e15 : z_pI (p_s σ (a, none)) 63 15 ((p_s σ (a, none)).1 63 15 + nI 1) = p_s σ (a + 1, none) := p_s_inc σ a none
              obtain ⟨nm, len, top, g1, g2, g3, g4, g5, g6, g7, g8, g9, g10, g11, g12⟩ := id hC
              refine zb_Model_thing_102 (fun h5 => ?_) (fun h5 => ?_)
              · rw [e15, p_s_k _ _ (by decide) (by decide), g11] at h5
                rw [e15]
                refine zb_Model_thing_131 (zb_Model_thing_132 ?_)
                rw [he, if_neg (by rw [h5]; decide)]
                exact ⟨_, rfl, rfl, rfl⟩
              · rw [e15, p_s_k _ _ (by decide) (by decide), g11, Bool.not_eq_false] at h5
                rw [e15]
                have hlet := mc_letterOf hT' (p_s σ (a + 1, none))
                rw [hk] at hlet
                refine zb_Model_thing_119 hlet (by omega) (fun r u h6 => ?_)
                obtain ⟨rfl, rfl⟩ := h6
                refine zb_Model_thing_127 (k1 := k) ⟨rfl, hk6⟩ (zb_Model_thing_132 ?_)
                rw [he, if_pos h5, p_s_o _ _ (by decide), g12 k hk6]
                exact ⟨_, rfl, rfl, rfl⟩
            · rintro ⟨-, h5⟩
              obtain ⟨k, hk⟩ := Option.ne_none_iff_exists'.mp h5
              have hk6 := hl6 k hk
              rw [hk] at h4
              exact zn_neg1 (n := k) (by omega) h4
          · have hd1 : d_he L T a = -1 := if_neg ha
            rw [hd1]
            refine zb_Model_thing_84 (mc_letterNo _) (by omega) (fun r u h4 => ?_)
            obtain ⟨rfl, rfl⟩ := h4
            exact zb_Model_thing_88 (fun h4 => absurd rfl h4) (fun h4 => no (fun q => ha q.1))
        · rw [z_tf_eq0, decide_eq_false_iff_not, Decidable.not_not] at h3
          rw [if_pos h3] at he
          refine zb_Model_thing_78 (mc_number hC hq (k := 3) (by omega) (by omega)) (by omega) (fun r u h4 => ?_)
          refine zb_Model_thing_83 ?_
          rw [he, h4.1, h4.2]
          exact ⟨_, rfl, rfl, rfl⟩
      refine zb_Model_thing_29 (fun h3 => rest (fun q => ?_)) (fun h3 => ?_)
      · rw [d_he_ne hT (by omega)] at h3
        exact h3 ⟨q.1, q.2.1⟩
      rw [d_he_ne hT (by omega)] at h3
      refine zb_Model_thing_36 (fun h4 => rest (fun q => ?_)) (fun h4 => ?_)
      · rw [zn_le (by omega) (by omega)] at h4
        omega
      rw [zn_le (by omega) (by omega)] at h4
      rw [if_pos ⟨h3.1, h3.2, by omega⟩] at he
      have hok1 : d_ok L (a + 1, none) := ⟨h3.1, fun p hp => by cases hp⟩
      have hheld := hD (dp + 1) (a + 1, none) (by omega) hok1 (by
        show 8 * (L - (a + 1)) + 4 ≤ n
        have hn : 8 * (L - a) + 1 ≤ n + 1 := hn
        have := h3.1
        omega)
      refine zb_Model_thing_41 (P := fun r u => r = (d_ev L T qa e n 5 (dp + 1) 0 (a + 1, none)).1 ∧ u = p_s σ (d_ev L T qa e n 5 (dp + 1) 0 (a + 1, none)).2) (dc := n + 6) (by rw [p_s_inc, nI_add]; exact hheld) (by omega) (fun r u h5 => ?_)
      rw [h5.1, h5.2]
      refine zb_Model_thing_58 (mc_need hC (d_ev_ok n 5 (dp + 1) 0 _ hok1).1 (by omega)) (by omega) (fun u hu => ?_)
      refine zb_Model_thing_65 ?_
      rw [he, hu]
      exact ⟨_, rfl, rfl, rfl⟩
    · rw [z_tf_eq0, decide_eq_false_iff_not] at h2
      rw [if_pos h2] at he
      refine zb_Model_thing_23 ?_
      rw [he]
      exact ⟨_, rfl, rfl, rfl⟩
  · rw [z_tf_eq0, Bool.not_eq_false] at h
    rw [if_pos h] at he
    have e1 : (d_pas L T 45 q).2 = (q.1 + 1, none) ∧ q.1 < L := by
      unfold d_pas at h ⊢
      split at h
      · rename_i h'
        rw [if_pos h']
        exact ⟨rfl, h'.2.1⟩
      · cases h
    have hok1 := d_pas_ok (T := T) hq 45
    refine zb_Model_thing_9 (hA dp _ hdp hok1 (by
      show 8 * (L - (d_pas L T 45 q).2.1) + 1 ≤ n
      rw [e1.1]
      show 8 * (L - (q.1 + 1)) + 1 ≤ n
      have := e1.2
      omega)) (by omega) (fun r u h2 => ?_)
    refine zb_Model_thing_14 ?_
    rw [he, h2.1, h2.2]
    exact ⟨_, rfl, rfl, rfl⟩
theorem d_Ct_q (hC : rd_C L T qa e σ) {q : Nat × Option Nat} (hq : d_ok L q) {c c' : Nat} : (q.2 = none ∧ q.1 < L ∧ (T q.1 = c ∨ T q.1 = c')) ↔ (q.2 = none ∧ ((q.1 < L ∧ T q.1 = c) ∨ (q.1 < L ∧ T q.1 = c'))) := by
  constructor
  · rintro ⟨h1, h2, h3 | h3⟩
    · exact ⟨h1, Or.inl ⟨h2, h3⟩⟩
    · exact ⟨h1, Or.inr ⟨h2, h3⟩⟩
  · rintro ⟨h1, ⟨h2, h3⟩ | ⟨h2, h3⟩⟩
    · exact ⟨h1, h2, Or.inl h3⟩
    · exact ⟨h1, h2, Or.inr h3⟩
theorem mc_product (hC : rd_C L T qa e σ) {n : Nat} (hA : ∀ m, m ≤ n → d_Ct L T qa e σ zm_Model_thing 0 m) : d_Ct L T qa e σ zm_Model_product 1 (n + 1) := by
  intro dp q hdp hq hn
  have hn : 8 * (L - q.1) + 2 ≤ n + 1 := hn
  have h80 := hC.L80
  have hT := fun i (hi : i < L) => hC.T256 hi
  refine z_Ci_of (by decide) (Nat.le_of_ble_eq_true rfl) (fun Γ hd he => ?_)
  show z_J Γ zm_Model_product 0 [some (.inr 63), some (.inl (nI dp)), none, none, none] [] (p_s σ q)
  rw [d_ev] at he
  have loop : ∀ k v p, k ≤ n → d_ok L p → 8 * (L - p.1) + 1 ≤ k → d_ev L T qa e k 2 dp v p = d_ev L T qa e n 2 dp (d_ev L T qa e n 0 dp 0 q).1 (d_ev L T qa e n 0 dp 0 q).2 → z_J Γ zm_Model_product 6 [some (.inr 63), some (.inl (nI dp)), some (.inl v), none, none] [] (p_s σ p) := by
    intro k
    induction k with
    | zero =>
      intro v p hk hp hg
      omega
    | succ k ih =>
      intro v p hk hp hg hed
      have stop : ¬ (p.2 = none ∧ p.1 < L ∧ (T p.1 = 42 ∨ T p.1 = 47)) → z_J Γ zm_Model_product 91 [none, none, some (.inl v), none, none] [] (p_s σ p) := fun h => by
        refine zb_Model_product_91 ?_
        rw [he, ← hed, d_ev, if_neg h]
        exact ⟨_, rfl, rfl, rfl⟩
      refine zb_Model_product_6 (mc_fine hC hp) (by omega) (fun r u h => ?_)
      obtain ⟨rfl, rfl⟩ := h
      refine zb_Model_product_10 (fun h => stop (fun q => ?_)) (fun h => ?_)
      · rw [z_tf_eq0, decide_eq_false_iff_not] at h
        exact h q.1
      rw [z_tf_eq0, decide_eq_false_iff_not, Decidable.not_not] at h
      obtain ⟨a, w⟩ := p
      have h : w = none := h
      subst h
      -- with the sign c at a
      have act : ∀ c, a < L → T a = c → (c = 42 ∨ c = 47) → z_J Γ zm_Model_product 31 [some (.inr 63), some (.inl (nI dp)), some (.inl v), none, none] [] (p_s σ (a, none)) := by
        intro c ha hc hcc
        have hok1 : d_ok L (a + 1, none) := ⟨ha, fun p hp => by cases hp⟩
        have hth := hA k (by omega) dp (a + 1, none) hdp hok1 (by
          show 8 * (L - (a + 1)) + 1 ≤ k
          have hg : 8 * (L - a) + 1 ≤ k + 1 := hg
          omega)
        have hr := d_ev_ok (T := T) (qa := qa) (e := e) k 0 dp 0 _ hok1
        have hed2 : d_ev L T qa e k 2 dp (p_jn (T a) v (d_ev L T qa e k 0 dp 0 (a + 1, none)).1) (d_ev L T qa e k 0 dp 0 (a + 1, none)).2 = d_ev L T qa e n 2 dp (d_ev L T qa e n 0 dp 0 q).1 (d_ev L T qa e n 0 dp 0 q).2 := by
          rw [← hed, d_ev, if_pos ⟨rfl, ha, by show T a = 42 ∨ T a = 47; rw [hc]; exact hcc⟩]
        have nxt := ih (p_jn (T a) v (d_ev L T qa e k 0 dp 0 (a + 1, none)).1) _ (by omega) hr.1 (by
          have hg : 8 * (L - a) + 1 ≤ k + 1 := hg
          have h2 : a + 1 ≤ (d_ev L T qa e k 0 dp 0 (a + 1, none)).2.1 := hr.2
          omega) hed2
        have go : ∀ y, z_J Γ zm_Model_product 45 [some (.inr 63), some (.inl (nI dp)), some (.inl v), none, none] [.inl y] (p_s σ (a, none)) ↔ z_J Γ zm_Model_product 45 [some (.inr 63), some (.inl (nI dp)), some (.inl v), none, none] [.inl y] (p_s σ (a, none)) := fun _ => Iff.rfl
        refine zb_Model_product_31 (mc_here hC hp) (by omega) (fun r u h2 => ?_)
        obtain ⟨rfl, rfl⟩ := h2
        refine zb_Model_product_35 (fun h2 => ?_) (fun h2 => ?_)
        · rw [d_he_ne hT (by omega)] at h2
          have e47 : T a = 47 := by
            rcases hcc with q | q
            · exact absurd ⟨ha, by rw [hc]; exact q⟩ h2
            · rw [hc]; exact q
          refine zb_Model_product_44 ?_
          refine zb_Model_product_45 (P := fun r u => r = (d_ev L T qa e k 0 dp 0 (a + 1, none)).1 ∧ u = p_s σ (d_ev L T qa e k 0 dp 0 (a + 1, none)).2) (dc := k + 6) (by rw [p_s_inc]; exact hth) (by omega) (fun r u h3 => ?_)
          rw [h3.1, h3.2]
          refine zb_Model_product_61 (fun _ => ?_) (fun h4 => absurd (by decide) h4)
          rw [e47] at nxt
          refine zb_Model_product_74 (fun h5 => ?_) (fun h5 => ?_)
          · have ej : p_jn 47 v (d_ev L T qa e k 0 dp 0 (a + 1, none)).1 = v / (d_ev L T qa e k 0 dp 0 (a + 1, none)).1 := by
              show (if (d_ev L T qa e k 0 dp 0 (a + 1, none)).1 = 0 then nI 0 else v / (d_ev L T qa e k 0 dp 0 (a + 1, none)).1) = _
              rw [if_neg h5]
            rw [ej] at nxt
            exact zb_Model_product_83 h5 (zb_Model_product_87 nxt)
          · have ej : p_jn 47 v (d_ev L T qa e k 0 dp 0 (a + 1, none)).1 = nI 0 := by
              show (if (d_ev L T qa e k 0 dp 0 (a + 1, none)).1 = 0 then nI 0 else v / (d_ev L T qa e k 0 dp 0 (a + 1, none)).1) = _
              rw [if_pos h5]
            rw [ej] at nxt
            exact zb_Model_product_79 (zb_Model_product_87 nxt)
        · rw [d_he_ne hT (by omega)] at h2
          refine zb_Model_product_40 ?_
          refine zb_Model_product_45 (P := fun r u => r = (d_ev L T qa e k 0 dp 0 (a + 1, none)).1 ∧ u = p_s σ (d_ev L T qa e k 0 dp 0 (a + 1, none)).2) (dc := k + 6) (by rw [p_s_inc]; exact hth) (by omega) (fun r u h3 => ?_)
          rw [h3.1, h3.2]
          refine zb_Model_product_61 (fun h4 => absurd h4 (by decide)) (fun _ => ?_)
          have e42 : T a = 42 := h2.2
          rw [e42] at nxt
          exact zb_Model_product_67 (zb_Model_product_87 nxt)
      refine zb_Model_product_13 (mc_here hC hp) (by omega) (fun r u h2 => ?_)
      obtain ⟨rfl, rfl⟩ := h2
      refine zb_Model_product_17 (fun h2 => ?_) (fun h2 => ?_)
      · rw [d_he_ne hT (by omega)] at h2
        exact act 42 h2.1 h2.2 (Or.inl rfl)
      · rw [d_he_ne hT (by omega)] at h2
        refine zb_Model_product_22 (mc_here hC hp) (by omega) (fun r u h3 => ?_)
        obtain ⟨rfl, rfl⟩ := h3
        refine zb_Model_product_26 (fun h3 => stop ?_) (fun h3 => ?_)
        · rw [d_he_ne hT (by omega)] at h3
          rintro ⟨-, h5, h6 | h6⟩
          · exact h2 ⟨h5, h6⟩
          · exact h3 ⟨h5, h6⟩
        · rw [d_he_ne hT (by omega)] at h3
          exact act 47 h3.1 h3.2 (Or.inr rfl)
  refine zb_Model_product_0 (hA n (Nat.le_refl _) dp q hdp hq (by show 8 * (L - q.1) + 1 ≤ n; omega)) (by omega) (fun r u h => ?_)
  rw [h.1, h.2]
  have hr := d_ev_ok (T := T) (qa := qa) (e := e) n 0 dp 0 q hq
  exact zb_Model_product_5 (loop n _ _ (Nat.le_refl _) hr.1 (by have := hr.2; omega) rfl)
theorem mc_sum (hC : rd_C L T qa e σ) {n : Nat} (hA : ∀ m, m ≤ n → d_Ct L T qa e σ zm_Model_product 1 m) : d_Ct L T qa e σ zm_Model_sum 3 (n + 1) := by
  intro dp q hdp hq hn
  have hn : 8 * (L - q.1) + 3 ≤ n + 1 := hn
  have h80 := hC.L80
  have hT := fun i (hi : i < L) => hC.T256 hi
  refine z_Ci_of (by decide) (Nat.le_of_ble_eq_true rfl) (fun Γ hd he => ?_)
  show z_J Γ zm_Model_sum 0 [some (.inr 63), some (.inl (nI dp)), none, none, none] [] (p_s σ q)
  rw [d_ev] at he
  have loop : ∀ k v p, k ≤ n → d_ok L p → 8 * (L - p.1) + 1 ≤ k → d_ev L T qa e k 4 dp v p = d_ev L T qa e n 4 dp (d_ev L T qa e n 1 dp 0 q).1 (d_ev L T qa e n 1 dp 0 q).2 → z_J Γ zm_Model_sum 6 [some (.inr 63), some (.inl (nI dp)), some (.inl v), none, none] [] (p_s σ p) := by
    intro k
    induction k with
    | zero =>
      intro v p hk hp hg
      omega
    | succ k ih =>
      intro v p hk hp hg hed
      have stop : ¬ (p.2 = none ∧ p.1 < L ∧ (T p.1 = 43 ∨ T p.1 = 45)) → z_J Γ zm_Model_sum 82 [none, none, some (.inl v), none, none] [] (p_s σ p) := fun h => by
        refine zb_Model_sum_82 ?_
        rw [he, ← hed, d_ev, if_neg h]
        exact ⟨_, rfl, rfl, rfl⟩
      refine zb_Model_sum_6 (mc_fine hC hp) (by omega) (fun r u h => ?_)
      obtain ⟨rfl, rfl⟩ := h
      refine zb_Model_sum_10 (fun h => stop (fun q => ?_)) (fun h => ?_)
      · rw [z_tf_eq0, decide_eq_false_iff_not] at h
        exact h q.1
      rw [z_tf_eq0, decide_eq_false_iff_not, Decidable.not_not] at h
      obtain ⟨a, w⟩ := p
      have h : w = none := h
      subst h
      have act : ∀ c, a < L → T a = c → (c = 43 ∨ c = 45) → z_J Γ zm_Model_sum 31 [some (.inr 63), some (.inl (nI dp)), some (.inl v), none, none] [] (p_s σ (a, none)) := by
        intro c ha hc hcc
        have hok1 : d_ok L (a + 1, none) := ⟨ha, fun p hp => by cases hp⟩
        have hth := hA k (by omega) dp (a + 1, none) hdp hok1 (by
          show 8 * (L - (a + 1)) + 2 ≤ k
          have hg : 8 * (L - a) + 1 ≤ k + 1 := hg
          omega)
        have hr := d_ev_ok (T := T) (qa := qa) (e := e) k 1 dp 0 _ hok1
        have hed2 : d_ev L T qa e k 4 dp (p_jn (T a) v (d_ev L T qa e k 1 dp 0 (a + 1, none)).1) (d_ev L T qa e k 1 dp 0 (a + 1, none)).2 = d_ev L T qa e n 4 dp (d_ev L T qa e n 1 dp 0 q).1 (d_ev L T qa e n 1 dp 0 q).2 := by
          rw [← hed, d_ev, if_pos ⟨rfl, ha, by show T a = 43 ∨ T a = 45; rw [hc]; exact hcc⟩]
        have nxt := ih (p_jn (T a) v (d_ev L T qa e k 1 dp 0 (a + 1, none)).1) _ (by omega) hr.1 (by
          have hg : 8 * (L - a) + 1 ≤ k + 1 := hg
          have h2 : a + 1 ≤ (d_ev L T qa e k 1 dp 0 (a + 1, none)).2.1 := hr.2
          omega) hed2
        refine zb_Model_sum_31 (mc_here hC hp) (by omega) (fun r u h2 => ?_)
        obtain ⟨rfl, rfl⟩ := h2
        refine zb_Model_sum_35 (fun h2 => ?_) (fun h2 => ?_)
        · rw [d_he_ne hT (by omega)] at h2
          have e45 : T a = 45 := by
            rcases hcc with q | q
            · exact absurd ⟨ha, by rw [hc]; exact q⟩ h2
            · rw [hc]; exact q
          refine zb_Model_sum_44 ?_
          refine zb_Model_sum_45 (P := fun r u => r = (d_ev L T qa e k 1 dp 0 (a + 1, none)).1 ∧ u = p_s σ (d_ev L T qa e k 1 dp 0 (a + 1, none)).2) (dc := k + 6) (by rw [p_s_inc]; exact hth) (by omega) (fun r u h3 => ?_)
          rw [h3.1, h3.2]
          refine zb_Model_sum_61 (fun _ => ?_) (fun h4 => absurd (by decide) h4)
          rw [e45] at nxt
          exact zb_Model_sum_74 (zb_Model_sum_78 nxt)
        · rw [d_he_ne hT (by omega)] at h2
          refine zb_Model_sum_40 ?_
          refine zb_Model_sum_45 (P := fun r u => r = (d_ev L T qa e k 1 dp 0 (a + 1, none)).1 ∧ u = p_s σ (d_ev L T qa e k 1 dp 0 (a + 1, none)).2) (dc := k + 6) (by rw [p_s_inc]; exact hth) (by omega) (fun r u h3 => ?_)
          rw [h3.1, h3.2]
          refine zb_Model_sum_61 (fun h4 => absurd h4 (by decide)) (fun _ => ?_)
          have e43 : T a = 43 := h2.2
          rw [e43] at nxt
          exact zb_Model_sum_67 (zb_Model_sum_78 nxt)
      refine zb_Model_sum_13 (mc_here hC hp) (by omega) (fun r u h2 => ?_)
      obtain ⟨rfl, rfl⟩ := h2
      refine zb_Model_sum_17 (fun h2 => ?_) (fun h2 => ?_)
      · rw [d_he_ne hT (by omega)] at h2
        exact act 43 h2.1 h2.2 (Or.inl rfl)
      · rw [d_he_ne hT (by omega)] at h2
        refine zb_Model_sum_22 (mc_here hC hp) (by omega) (fun r u h3 => ?_)
        obtain ⟨rfl, rfl⟩ := h3
        refine zb_Model_sum_26 (fun h3 => stop ?_) (fun h3 => ?_)
        · rw [d_he_ne hT (by omega)] at h3
          rintro ⟨-, h5, h6 | h6⟩
          · exact h2 ⟨h5, h6⟩
          · exact h3 ⟨h5, h6⟩
        · rw [d_he_ne hT (by omega)] at h3
          exact act 45 h3.1 h3.2 (Or.inr rfl)
  refine zb_Model_sum_0 (hA n (Nat.le_refl _) dp q hdp hq (by show 8 * (L - q.1) + 2 ≤ n; omega)) (by omega) (fun r u h => ?_)
  rw [h.1, h.2]
  have hr := d_ev_ok (T := T) (qa := qa) (e := e) n 1 dp 0 q hq
  exact zb_Model_sum_5 (loop n _ _ (Nat.le_refl _) hr.1 (by have := hr.2; omega) rfl)
end
