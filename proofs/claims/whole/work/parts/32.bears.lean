section
variable {L : Nat} {T : Nat → Nat} {qa : Bool} {e : Nat → Int32} {σ : zS}
theorem d_pas_t {c : Nat} {q : Nat × Option Nat} (h : q.2 = none ∧ q.1 < L ∧ T q.1 = c) : d_pas L T c q = (true, (q.1 + 1, none)) := if_pos h
theorem d_pas_f {c : Nat} {q : Nat × Option Nat} (h : ¬ (q.2 = none ∧ q.1 < L ∧ T q.1 = c)) : d_pas L T c q = (false, q) := if_neg h
theorem mc_held (hC : rd_C L T qa e σ) {n : Nat} (hA : d_Ct L T qa e σ zm_Model_sum 3 n) : d_Ct L T qa e σ zm_Model_held 5 (n + 1) := by
  intro dp q hdp hq hn
  have hn : 8 * (L - q.1) + 4 ≤ n + 1 := hn
  have h80 := hC.L80
  refine z_Ci_of (by decide) (Nat.le_of_ble_eq_true rfl) (fun Γ hd he => ?_)
  show z_J Γ zm_Model_held 0 [some (.inr 63), some (.inl (nI dp)), none] [] (p_s σ q)
  rw [d_ev] at he
  · refine zb_Model_held_0 (hA dp q hdp hq (by show 8 * (L - q.1) + 3 ≤ n; omega)) (by omega) (fun r u h => ?_)
    rw [h.1, h.2]
    clear h
    have hr := d_ev_ok (T := T) (qa := qa) (e := e) n 3 dp 0 q hq
    generalize d_ev L T qa e n 3 dp 0 q = rr at he hr ⊢
    obtain ⟨v, p⟩ := rr
    have hp : d_ok L p := hr.1
    have hge : q.1 ≤ p.1 := hr.2
    have he : z_end Γ = fun r u => ∃ x, r = some x ∧ x = (if p.2 = none ∧ p.1 < L ∧ (T p.1 = 60 ∨ T p.1 = 62 ∨ T p.1 = 61) then (p_jn (T p.1) v (d_ev L T qa e n 3 dp 0 (p.1 + 1, none)).1, (d_ev L T qa e n 3 dp 0 (p.1 + 1, none)).2) else (v, p)).1 ∧ u = p_s σ (if p.2 = none ∧ p.1 < L ∧ (T p.1 = 60 ∨ T p.1 = 62 ∨ T p.1 = 61) then (p_jn (T p.1) v (d_ev L T qa e n 3 dp 0 (p.1 + 1, none)).1, (d_ev L T qa e n 3 dp 0 (p.1 + 1, none)).2) else (v, p)).2 := he
    show z_J Γ zm_Model_held 5 [some (.inr 63), some (.inl (nI dp)), none] [.inl v] (p_s σ p)
    have hs : p.1 < L → z_Ci (n + 6) zm_Model_sum [.inr 63, .inl (nI dp)] (p_s σ (p.1 + 1, none)) (fun r u => r = (d_ev L T qa e n 3 dp 0 (p.1 + 1, none)).1 ∧ u = p_s σ (d_ev L T qa e n 3 dp 0 (p.1 + 1, none)).2) := fun hl => hA dp (p.1 + 1, none) hdp ⟨hl, fun p hp => by cases hp⟩ (by
      show 8 * (L - (p.1 + 1)) + 3 ≤ n
      omega)
    refine zb_Model_held_5 (mc_passes hC hp (by omega)) (by omega) (fun r u h => ?_)
    obtain ⟨rfl, rfl⟩ := h
    by_cases h60 : p.2 = none ∧ p.1 < L ∧ T p.1 = 60
    · rw [d_pas_t h60]
      rw [if_pos ⟨h60.1, h60.2.1, Or.inl h60.2.2⟩, h60.2.2] at he
      refine zb_Model_held_12 (fun h => absurd (show z_tf true = 0 from h) (by decide)) (fun _ => ?_)
      refine zb_Model_held_15 (hs h60.2.1) (by omega) (fun r u h => ?_)
      rw [h.1, h.2]
      clear h
      refine zb_Model_held_21 (fun h => ?_) (fun h => ?_)
      · refine zb_Model_held_28 (zb_Model_held_29 ?_)
        rw [he]
        refine ⟨_, rfl, ?_, rfl⟩
        show nI 0 = if v < _ then nI 1 else nI 0
        rw [if_neg (Int32.not_lt.mpr h)]
      · refine zb_Model_held_24 (zb_Model_held_29 ?_)
        rw [he]
        refine ⟨_, rfl, ?_, rfl⟩
        show nI 1 = if v < _ then nI 1 else nI 0
        rw [if_pos (Int32.not_le.mp h)]
    · rw [d_pas_f h60]
      refine zb_Model_held_12 (fun _ => ?_) (fun h => absurd (show z_tf false = 0 by decide) h)
      refine zb_Model_held_30 (mc_passes hC hp (by omega)) (by omega) (fun r u h => ?_)
      obtain ⟨rfl, rfl⟩ := h
      by_cases h62 : p.2 = none ∧ p.1 < L ∧ T p.1 = 62
      · rw [d_pas_t h62]
        rw [if_pos ⟨h62.1, h62.2.1, Or.inr (Or.inl h62.2.2)⟩, h62.2.2] at he
        refine zb_Model_held_36 (fun h => absurd (show z_tf true = 0 from h) (by decide)) (fun _ => ?_)
        refine zb_Model_held_39 (hs h62.2.1) (by omega) (fun r u h => ?_)
        rw [h.1, h.2]
        clear h
        refine zb_Model_held_45 (fun h => ?_) (fun h => ?_)
        · refine zb_Model_held_52 (zb_Model_held_53 ?_)
          rw [he]
          refine ⟨_, rfl, ?_, rfl⟩
          show nI 0 = if _ < v then nI 1 else nI 0
          rw [if_neg (Int32.not_lt.mpr h)]
        · refine zb_Model_held_48 (zb_Model_held_53 ?_)
          rw [he]
          refine ⟨_, rfl, ?_, rfl⟩
          show nI 1 = if _ < v then nI 1 else nI 0
          rw [if_pos (Int32.not_le.mp h)]
      · rw [d_pas_f h62]
        refine zb_Model_held_36 (fun _ => ?_) (fun h => absurd (show z_tf false = 0 by decide) h)
        refine zb_Model_held_54 (mc_passes hC hp (by omega)) (by omega) (fun r u h => ?_)
        obtain ⟨rfl, rfl⟩ := h
        by_cases h61 : p.2 = none ∧ p.1 < L ∧ T p.1 = 61
        · rw [d_pas_t h61]
          rw [if_pos ⟨h61.1, h61.2.1, Or.inr (Or.inr h61.2.2)⟩, h61.2.2] at he
          refine zb_Model_held_60 (fun h => absurd (show z_tf true = 0 from h) (by decide)) (fun _ => ?_)
          refine zb_Model_held_63 (hs h61.2.1) (by omega) (fun r u h => ?_)
          rw [h.1, h.2]
          clear h
          refine zb_Model_held_69 (fun h => ?_) (fun h => ?_)
          · refine zb_Model_held_76 (zb_Model_held_77 ?_)
            rw [he]
            refine ⟨_, rfl, ?_, rfl⟩
            show nI 0 = if v = _ then nI 1 else nI 0
            rw [if_neg h]
          · refine zb_Model_held_72 (zb_Model_held_77 ?_)
            rw [he]
            refine ⟨_, rfl, ?_, rfl⟩
            show nI 1 = if v = _ then nI 1 else nI 0
            rw [if_pos h]
        · rw [d_pas_f h61]
          rw [if_neg (fun q => by
            rcases q.2.2 with z | z | z
            · exact h60 ⟨q.1, q.2.1, z⟩
            · exact h62 ⟨q.1, q.2.1, z⟩
            · exact h61 ⟨q.1, q.2.1, z⟩)] at he
          refine zb_Model_held_60 (fun _ => ?_) (fun h => absurd (show z_tf false = 0 by decide) h)
          refine zb_Model_held_78 ?_
          rw [he]
          exact ⟨_, rfl, rfl, rfl⟩
  all_goals (intro h; omega)
theorem mc_all (hC : rd_C L T qa e σ) : ∀ n m, m ≤ n → d_Ct L T qa e σ zm_Model_thing 0 m ∧ d_Ct L T qa e σ zm_Model_product 1 m ∧ d_Ct L T qa e σ zm_Model_sum 3 m ∧ d_Ct L T qa e σ zm_Model_held 5 m := by
  intro n
  induction n with
  | zero =>
    intro m hm
    have : m = 0 := by omega
    subst this
    refine ⟨fun dp q _ _ h => ?_, fun dp q _ _ h => ?_, fun dp q _ _ h => ?_, fun dp q _ _ h => ?_⟩
    · have h : 8 * (L - q.1) + 1 ≤ 0 := h
      omega
    · have h : 8 * (L - q.1) + 2 ≤ 0 := h
      omega
    · have h : 8 * (L - q.1) + 3 ≤ 0 := h
      omega
    · have h : 8 * (L - q.1) + 4 ≤ 0 := h
      omega
  | succ n ih =>
    intro m hm
    rcases Nat.lt_or_ge m (n + 1) with q | q
    · exact ih m (by omega)
    · have : m = n + 1 := by omega
      subst this
      exact ⟨mc_thing hC (ih n (Nat.le_refl _)).1 (ih n (Nat.le_refl _)).2.2.2, mc_product hC (fun m hm => (ih m hm).1), mc_sum hC (fun m hm => (ih m hm).2.1), mc_held hC (ih n (Nat.le_refl _)).2.2.1⟩
end
/-- the model's rule in force: its text of K signs -/
def mRu (K : Nat) (T : Nat → Nat) (σ : zS) : Prop := K ≤ 40 ∧ σ.1 63 22 = nI K ∧ z_kd (σ.2 63 20) = (9, 40) ∧ ∀ i, i < K → T i < 256 ∧ σ.1 (σ.2 63 20) i = (nI (T i)).toInt8.toInt32
/-- what it is worth -/
def tE (K : Nat) (T : Nat → Nat) (e : Nat → Int32) : Int32 := if K = 0 then nI 4 * e 0 else (d_ev K T true e 330 5 0 0 (0, none)).1
/-- what asking leaves: the scratch of the reading, and the rows of R -/
def mF (R : Nat → Prop) (σ u : zS) : Prop := (∀ q, q ≠ 63 → q ≠ 74 → ¬ R q → u.1 q = σ.1 q ∧ u.2 q = σ.2 q) ∧ (∀ k, (k < 13 ∨ 16 < k) → k ≠ 23 → u.1 63 k = σ.1 63 k) ∧ ∀ k, k ≠ 12 → u.2 63 k = σ.2 63 k
theorem mF.rf {R : Nat → Prop} {σ : zS} : mF R σ σ := ⟨fun _ _ _ _ => ⟨rfl, rfl⟩, fun _ _ _ => rfl, fun _ _ => rfl⟩
theorem mF.tr {R : Nat → Prop} {σ u w : zS} (h1 : mF R σ u) (h2 : mF R u w) : mF R σ w := ⟨fun q a b c => ⟨(h2.1 q a b c).1.trans (h1.1 q a b c).1, (h2.1 q a b c).2.trans (h1.1 q a b c).2⟩, fun k a b => (h2.2.1 k a b).trans (h1.2.1 k a b), fun k a => (h2.2.2 k a).trans (h1.2.2 k a)⟩
theorem mF.mono {R S : Nat → Prop} {σ u : zS} (h : mF R σ u) (hs : ∀ q, R q → S q) : mF S σ u := ⟨fun q a b c => h.1 q a b (fun r => c (hs q r)), h.2⟩
theorem mRu.keep {K : Nat} {T : Nat → Nat} {σ u : zS} {R : Nat → Prop} (h : mRu K T σ) (hF : mF R σ u) (hR : ¬ R (σ.2 63 20)) : mRu K T u := by
  obtain ⟨h1, h2, h3, h4⟩ := h
  have e20 : u.2 63 20 = σ.2 63 20 := hF.2.2 20 (by decide)
  have hne : σ.2 63 20 ≠ 63 ∧ σ.2 63 20 ≠ 74 := by
    constructor
    · intro e
      rw [e] at h3
      exact absurd (congrArg Prod.fst h3) (by decide)
    · intro e
      rw [e] at h3
      exact absurd (congrArg Prod.fst h3) (by decide)
  refine ⟨h1, by rw [hF.2.1 22 (by omega) (by decide)]; exact h2, by rw [e20]; exact h3, fun i hi => ?_⟩
  rw [e20, (hF.1 _ hne.1 hne.2 hR).1]
  exact h4 i hi
def m_env (t w : Nat) (c k n d : Int32) : Nat → Int32 := fun j =>
  match j with
  | 0 => nI t
  | 1 => nI w
  | 2 => c
  | 3 => k
  | 4 => n
  | _ => d - d / nI 10 * nI 10
theorem mc_begin (σ : zS) {a n : Nat} (ha : z_kd a = (9, n)) (x y : Int32) : z_Cv 0 zm_Model_begin [.inr 63, .inr a, .inl x, .inl y] σ (fun u => u = z_pI (z_pI (z_pI (z_pI (z_pR σ 63 12 a) 63 13 x) 63 14 y) 63 15 (nI 0)) 63 16 (-1)) := by
  refine z_Cv_of (by decide) (Nat.le_of_ble_eq_true rfl) (fun Γ hd he => ?_)
  show z_J Γ zm_Model_begin 0 [some (.inr 63), some (.inr a), some (.inl x), some (.inl y)] [] σ
  refine zb_Model_begin_0 ha ?_
  rw [he]
  exact ⟨rfl, rfl⟩
theorem mc_bears {K : Nat} {T : Nat → Nat} {σ : zS} (hM : mRu K T σ) {b t w : Nat} (hb : b < 12) (ht : σ.1 65 b = nI t) (hw : σ.1 66 b = nI w) (c k n d : Int32) : z_Ci 340 zm_Model_bears [.inr 63, .inl (nI b), .inl c, .inl k, .inl n, .inl d] σ (fun r u => r = z_max (nI 0) (z_min (nI 999) (tE K T (m_env t w c k n d))) ∧ mF (fun _ => False) σ u) := by
  obtain ⟨h1, h2, h3, h4⟩ := id hM
  refine z_Ci_of (by decide) (Nat.le_of_ble_eq_true rfl) (fun Γ hd he => ?_)
  show z_J Γ zm_Model_bears 0 [some (.inr 63), some (.inl (nI b)), some (.inl c), some (.inl k), some (.inl n), some (.inl d), none] [] σ
  have e0 : (0 : Int32) = nI 0 := rfl
  refine zb_Model_bears_0 (k1 := b) (z_ixn hb) (fun h => ?_) (fun h => ?_)
  · rw [h2, e0, zn_le (by omega) (by omega)] at h
    have hK : K = 0 := by omega
    refine zb_Model_bears_105 (by omega) ?_
    rw [he, ht]
    refine ⟨_, rfl, ?_, mF.rf⟩
    rw [tE, if_pos hK]
    rfl
  · rw [h2, e0, zn_le (by omega) (by omega)] at h
    have hK : ¬ K = 0 := by omega
    obtain ⟨σ6, hσ6⟩ : ∃ z, z = z_pI (z_pI (z_pI (z_pI (z_pI (z_pI σ 74 0 (nI t)) 74 1 (nI w)) 74 2 c) 74 3 k) 74 4 n) 74 5 (d - d / nI 10 * nI 10) := ⟨_, rfl⟩
    have f6 : ∀ q, q ≠ 74 → σ6.1 q = σ.1 q := fun q hq => by rw [hσ6, z_pI_ne hq, z_pI_ne hq, z_pI_ne hq, z_pI_ne hq, z_pI_ne hq, z_pI_ne hq]
    have g6 : σ6.2 = σ.2 := by rw [hσ6]; rfl
    have a6 : ∀ j, j < 6 → σ6.1 74 j = m_env t w c k n d j := by
      intro j hj
      rw [hσ6]
      rcases (show j = 0 ∨ j = 1 ∨ j = 2 ∨ j = 3 ∨ j = 4 ∨ j = 5 by omega) with rfl | rfl | rfl | rfl | rfl | rfl
      · rw [z_pI_ne2 (by decide), z_pI_ne2 (by decide), z_pI_ne2 (by decide), z_pI_ne2 (by decide), z_pI_ne2 (by decide), z_pI_at]
        rfl
      · rw [z_pI_ne2 (by decide), z_pI_ne2 (by decide), z_pI_ne2 (by decide), z_pI_ne2 (by decide), z_pI_at]
        rfl
      · rw [z_pI_ne2 (by decide), z_pI_ne2 (by decide), z_pI_ne2 (by decide), z_pI_at]
        rfl
      · rw [z_pI_ne2 (by decide), z_pI_ne2 (by decide), z_pI_at]
        rfl
      · rw [z_pI_ne2 (by decide), z_pI_at]
        rfl
      · rw [z_pI_at]
        rfl
    refine zb_Model_bears_17 (k1 := b) (k2 := 0) (k3 := b) (k4 := 1) (k5 := 2) (k6 := 3) (k7 := 4) (k8 := 5) (nm1 := 40) (P := fun u => u = z_pI (z_pI (z_pI (z_pI (z_pR σ6 63 12 (σ.2 63 20)) 63 13 (nI K)) 63 14 (nI 40)) 63 15 (nI 0)) 63 16 (-1)) (dc := 0) (z_ixn hb) (z_ixn (by omega)) (z_ixn hb) (z_ixn (by omega)) (z_ixn (by omega)) (z_ixn (by omega)) (z_ixn (by omega)) (z_ixn (by omega)) h3 ?_ (by omega) (fun u hu => ?_)
    · rw [z_pI_ne (show 66 ≠ 74 by decide), ht, hw, ← hσ6, f6 63 (by decide), h2]
      exact mc_begin σ6 h3 (nI K) (nI 40)
    · -- the base state of the reading
      obtain ⟨σ8, hσ8⟩ : ∃ z, z = z_pI (z_pI (z_pI (z_pR σ6 63 12 (σ.2 63 20)) 63 13 (nI K)) 63 14 (nI 40)) 63 23 (nI 1) := ⟨_, rfl⟩
      have eu : z_pI u 63 23 (nI 1) = p_s σ8 (0, none) := by
        rw [hu, hσ8]
        unfold p_s z_pI
        refine Prod.ext ?_ rfl
        funext o j
        simp only [z_up, w_I]
        by_cases h : o = 63
        · simp only [h, if_true]
          by_cases j1 : j = 23
          · subst j1; simp
          · by_cases j2 : j = 16
            · subst j2; simp
            · by_cases j3 : j = 15
              · subst j3; simp
              · simp [j1, j2, j3]
        · simp [h]
      have r8 : σ8.2 63 12 = σ.2 63 20 := by rw [hσ8]; show (z_pR σ6 63 12 (σ.2 63 20)).2 63 12 = _; simp [z_pR]
      have hne : σ.2 63 20 ≠ 63 ∧ σ.2 63 20 ≠ 74 := by
        constructor
        · intro e
          rw [e] at h3
          exact absurd (congrArg Prod.fst h3) (by decide)
        · intro e
          rw [e] at h3
          exact absurd (congrArg Prod.fst h3) (by decide)
      have f8 : ∀ q, q ≠ 63 → q ≠ 74 → σ8.1 q = σ.1 q := fun q hq h74 => by
        rw [hσ8, z_pI_ne hq, z_pI_ne hq, z_pI_ne hq]
        exact f6 q h74
      have hC : rd_C K T true (m_env t w c k n d) σ8 := by
        refine ⟨40, K, 40, by rw [r8]; exact h3, by decide, ?_, ?_, by omega, by decide, by omega, h1, by omega, fun i hi => ⟨(h4 i hi).1, ?_⟩, ?_, fun j hj => ?_⟩
        · rw [hσ8, z_pI_ne2 (by decide), z_pI_ne2 (by decide), z_pI_at]
        · rw [hσ8, z_pI_ne2 (by decide), z_pI_at]
        · rw [r8, f8 _ hne.1 hne.2]
          exact (h4 i hi).2
        · rw [hσ8, z_pI_at]
          exact ⟨fun h => absurd h (by decide), fun h => absurd h (by decide)⟩
        · rw [hσ8, z_pI_ne (by decide), z_pI_ne (by decide), z_pI_ne (by decide)]
          exact a6 j hj
      have hheld := (mc_all hC 330 330 (Nat.le_refl _)).2.2.2 0 (0, none) (by omega) ⟨Nat.zero_le _, fun p hp => by cases hp⟩ (by
        show 8 * (K - 0) + 4 ≤ 330
        omega)
      refine zb_Model_bears_88 (P := fun r u => r = (d_ev K T true (m_env t w c k n d) 330 5 0 0 (0, none)).1 ∧ u = p_s σ8 (d_ev K T true (m_env t w c k n d) 330 5 0 0 (0, none)).2) (dc := 336) (by rw [eu]; exact hheld) (by omega) (fun r u2 h5 => ?_)
      obtain ⟨rfl, rfl⟩ := h5
      refine zb_Model_bears_98 (zb_Model_bears_105 (by omega) ?_)
      rw [he]
      refine ⟨_, rfl, ?_, fun q q1 q2 _ => ⟨?_, ?_⟩, fun j hj hj23 => ?_, fun j hj => ?_⟩
      · rw [tE, if_neg hK]
      · rw [z_pI_ne q1, p_s_o _ _ q1, f8 q q1 q2]
      · rw [z_pI_2, p_s_2, hσ8]
        show (z_pR σ6 63 12 (σ.2 63 20)).2 q = σ.2 q
        funext z
        simp [z_pR, q1, g6]
      · rw [z_pI_ne2 hj23, p_s_k _ _ (by omega) (by omega), hσ8, z_pI_ne2 hj23, z_pI_ne2 (by omega), z_pI_ne2 (by omega)]
        show (z_pR σ6 63 12 (σ.2 63 20)).1 63 j = _
        exact congrFun (f6 63 (by decide)) j
      · rw [z_pI_2, p_s_2, hσ8]
        show (z_pR σ6 63 12 (σ.2 63 20)).2 63 j = σ.2 63 j
        simp [z_pR, hj, g6]
