/-! frames of the model: rows outside R and numbers of 63 outside K stay -/
def mX (R K : Nat → Prop) (σ u : zS) : Prop := (∀ q, q ≠ 63 → ¬ R q → u.1 q = σ.1 q ∧ u.2 q = σ.2 q) ∧ (∀ k, ¬ K k → u.1 63 k = σ.1 63 k) ∧ ∀ k, k ≠ 12 → u.2 63 k = σ.2 63 k
section
variable {R K R' K' : Nat → Prop} {σ u w : zS}
theorem mX.rf : mX R K σ σ := ⟨fun _ _ _ => ⟨rfl, rfl⟩, fun _ _ => rfl, fun _ _ => rfl⟩
theorem mX.tr (h1 : mX R K σ u) (h2 : mX R K u w) : mX R K σ w := ⟨fun q a b => ⟨(h2.1 q a b).1.trans (h1.1 q a b).1, (h2.1 q a b).2.trans (h1.1 q a b).2⟩, fun k a => (h2.2.1 k a).trans (h1.2.1 k a), fun k a => (h2.2.2 k a).trans (h1.2.2 k a)⟩
theorem mX.mono (h : mX R K σ u) (h1 : ∀ q, R q → R' q) (h2 : ∀ q, K q → K' q) : mX R' K' σ u := ⟨fun q a b => h.1 q a (fun r => b (h1 q r)), fun k a => h.2.1 k (fun r => a (h2 k r)), h.2.2⟩
theorem mX.pK {k : Nat} {x : Int32} (h : mX R K σ u) (hk : K k) : mX R K σ (z_pI u 63 k x) := by
  refine h.tr ⟨fun q hq _ => ⟨z_pI_ne hq, rfl⟩, fun j hj => z_pI_ne2 (fun e => hj (e ▸ hk)), fun _ _ => rfl⟩
theorem mX.pR {o k : Nat} {x : Int32} (h : mX R K σ u) (ho : R o) (h63 : o ≠ 63) : mX R K σ (z_pI u o k x) := by
  refine h.tr ⟨fun q _ hR => ⟨z_pI_ne (fun e => hR (e ▸ ho)), rfl⟩, fun j _ => ?_, fun _ _ => rfl⟩
  rw [z_pI_ne (Ne.symm h63)]
theorem mF.X (h : mF R σ u) (h1 : ∀ q, q = 74 ∨ R q → R' q) (h2 : ∀ k, (13 ≤ k ∧ k ≤ 16) ∨ k = 23 → K k) : mX R' K σ u := ⟨fun q a b => h.1 q a (fun e => b (h1 q (Or.inl e))) (fun r => b (h1 q (Or.inr r))), fun k a => h.2.1 k (by
    by_cases q : 13 ≤ k ∧ k ≤ 16
    · exact absurd (h2 k (Or.inl q)) a
    · omega) (fun e => a (h2 k (Or.inr e))), h.2.2⟩
theorem z_fr.X (h : z_fr R σ u) (h63 : ¬ R 63) (h1 : ∀ q, R q → R' q) : mX R' K σ u := ⟨fun q _ b => h q (fun r => b (h1 q r)), fun k _ => by rw [(h 63 h63).1], fun k _ => by rw [(h 63 h63).2]⟩
end
section
variable {s : aS} {v w : aV} {σ u : zS} {a : Nat} {f g : Nat → Int32} {R K : Nat → Prop}
theorem mR.keepX (h : mR s v σ a) (hF : mX R K σ u) (h1 : ¬ K 1 ∧ ¬ K 4 ∧ ¬ K 5) (h2 : ¬ R 65 ∧ ¬ R 66 ∧ ¬ R 67) (hRa : ¬ R a) (ha : a ≠ 63) : mR s v u a := by
  refine ⟨h.1, ?_, ?_⟩
  · unfold mS
    rw [hF.2.1 1 h1.1, hF.2.1 4 h1.2.1, hF.2.1 5 h1.2.2, (hF.1 65 (by decide) h2.1).1, (hF.1 66 (by decide) h2.2.1).1, (hF.1 67 (by decide) h2.2.2).1]
    exact h.2.1
  · rw [(hF.1 a ha hRa).1]
    exact h.2.2
theorem mR.updX (h : mR s v σ a) (hF : mX R K σ u) (h1 : ¬ K 1 ∧ ¬ K 4 ∧ ¬ K 5) (h2 : ¬ R 65 ∧ ¬ R 66 ∧ ¬ R 67) {a' : Nat} (hI : aI s w) (hV : mV s w (u.1 a')) : mR s w u a' := by
  refine ⟨hI, ?_, hV⟩
  unfold mS
  rw [hF.2.1 1 h1.1, hF.2.1 4 h1.2.1, hF.2.1 5 h1.2.2, (hF.1 65 (by decide) h2.1).1, (hF.1 66 (by decide) h2.2.1).1, (hF.1 67 (by decide) h2.2.2).1]
  exact h.2.1
/-- why a lending is refused, or 0 -/
def a_ln0 (s : aS) (v : aV) (x y z : Int32) : Int32 := if z_isn x (s_n s) = true ∧ z_isn y (s_r s) = true ∧ nI 1 ≤ z ∧ z ≤ nI 30 then (if v_w v x.toNatClampNeg = 2 ∨ v_w v x.toNatClampNeg = 3 then -2 else if nI 3 ≤ z_bc (nI (a_lo v y.toNatClampNeg (s_n s))) then -3 else nI 0) else -1
/-- nobody has more than three -/
def a_L3 (s : aS) (v : aV) : Prop := ∀ r, r < s_r s → z_bc (nI (a_lo v r (s_n s))) ≤ nI 3
theorem mc_refusesLend (hR : mR s v σ 64) (hL : a_L3 s v) (x y z : Int32) : z_Ci 2 zm_Model_refusesLend [.inr 63, .inl x, .inl y, .inl z] σ (z_is (a_ln0 s v x y z) σ) := by
  have hn := hR.n
  have h4 := hR.r4
  refine z_Ci_of (by decide) (Nat.le_of_ble_eq_true rfl) (fun Γ hd he => ?_)
  show z_J Γ zm_Model_refusesLend 0 [some (.inr 63), some (.inl x), some (.inl y), some (.inl z)] [] σ
  have no : ¬ (z_isn x (s_n s) = true ∧ z_isn y (s_r s) = true ∧ nI 1 ≤ z ∧ z ≤ nI 30) → z_J Γ zm_Model_refusesLend 26 [none, none, none, none] [] σ := fun h => by
    refine zb_Model_refusesLend_26 ?_
    rw [he, a_ln0, if_neg h]
    exact ⟨_, rfl, rfl, rfl⟩
  refine zb_Model_refusesLend_0 (mc_isBook hn hR.2.1.1 x) (by omega) (fun r u h => ?_)
  obtain ⟨rfl, rfl⟩ := h
  refine zb_Model_refusesLend_5 (fun h => no (fun q => ?_)) (fun h => ?_)
  · rw [z_tf_eq0] at h
    rw [h] at q
    exact absurd q.1 (by decide)
  rw [z_tf_eq0, Bool.not_eq_false] at h
  refine zb_Model_refusesLend_8 (mc_isReader h4 hR.2.1.2.2.1 y) (by omega) (fun r u h2 => ?_)
  obtain ⟨rfl, rfl⟩ := h2
  refine zb_Model_refusesLend_13 (fun h2 => no (fun q => ?_)) (fun h2 => ?_)
  · rw [z_tf_eq0] at h2
    rw [h2] at q
    exact absurd q.2.1 (by decide)
  rw [z_tf_eq0, Bool.not_eq_false] at h2
  refine zb_Model_refusesLend_16 (mc_in _ _ _ _) (by omega) (fun r u h3 => ?_)
  obtain ⟨rfl, rfl⟩ := h3
  refine zb_Model_refusesLend_23 (fun h3 => ?_) (fun h3 => no (fun q => ?_))
  · rw [z_tf_eq0, Bool.not_eq_false, Bool.and_eq_true, decide_eq_true_eq, decide_eq_true_eq] at h3
    obtain ⟨b, hb, rfl⟩ := z_isn_t (by omega) h
    obtain ⟨r, hr, rfl⟩ := z_isn_t (by omega) h2
    have ea : a_ln0 s v (nI b) (nI r) z = if v_w v b = 2 ∨ v_w v b = 3 then -2 else if nI 3 ≤ z_bc (nI (a_lo v r (s_n s))) then -3 else nI 0 := by
      unfold a_ln0
      rw [if_pos ⟨h, h2, h3⟩, nI_clamp (by omega), nI_clamp (by omega)]
    rw [ea] at he
    have hw3 := hR.w3 b
    have m2 : (v_w v b = 2 ∨ v_w v b = 3) → z_J Γ zm_Model_refusesLend 48 [none, none, none, none] [] u := fun q => by
      refine zb_Model_refusesLend_48 ?_
      rw [he, if_pos q]
      exact ⟨_, rfl, rfl, rfl⟩
    refine zb_Model_refusesLend_28 (k1 := b) (z_ixn (by omega)) (fun hw => ?_) (fun hw => ?_)
    · rw [hR.fw hb, zn_eq (by omega) (by omega)] at hw
      exact m2 (Or.inl hw)
    rw [hR.fw hb, zn_eq (by omega) (by omega)] at hw
    refine zb_Model_refusesLend_38 (k1 := b) (z_ixn (by omega)) (fun hw2 => ?_) (fun hw2 => ?_)
    · rw [hR.fw hb, zn_eq (by omega) (by omega)] at hw2
      rw [if_neg (by omega)] at he
      refine zb_Model_refusesLend_51 (mc_lentTo hR.nb (by decide) (v := v) (fun b hb => ⟨hR.w3 b, hR.fw hb, fun q => ⟨by have := hR.1.lt hb q; omega, hR.fh hb (Or.inr q)⟩⟩) (r := r) (by omega)) (by omega) (fun r2 u2 h5 => ?_)
      obtain ⟨rfl, rfl⟩ := h5
      refine zb_Model_refusesLend_60 (by omega) (fun h6 => ?_) (fun h6 => ?_)
      · refine zb_Model_refusesLend_72 (zb_Model_refusesLend_73 ?_)
        rw [he, if_neg (fun q => h6 (Int32.le_antisymm (hL r hr) q))]
        exact ⟨_, rfl, rfl, rfl⟩
      · refine zb_Model_refusesLend_67 (zb_Model_refusesLend_73 ?_)
        rw [he, if_pos (by rw [h6]; exact Int32.le_refl _)]
        exact ⟨_, rfl, rfl, rfl⟩
    · rw [hR.fw hb, zn_eq (by omega) (by omega)] at hw2
      exact m2 (Or.inr hw2)
  · rw [z_tf_eq0] at h3
    simp only [Bool.and_eq_false_iff, decide_eq_false_iff_not] at h3
    rcases h3 with h3 | h3
    · exact h3 q.2.2.1
    · exact h3 q.2.2.2
theorem mc_goLend (hR : mR s v σ 64) {b r n : Nat} (hb : b < s_n s) (hr : r < s_r s) : z_Ci 1 zm_Model_goLend [.inr 63, .inl (nI b), .inl (nI r), .inl (nI n)] σ (fun x u => x = nI (v_y v + n) ∧ mR s (a_lend v b r (v_y v + n)) u 64 ∧ z_fr (fun q => q = 64) σ u) := by
  have hn := hR.n
  refine z_Ci_of (by decide) (Nat.le_of_ble_eq_true rfl) (fun Γ hd he => ?_)
  show z_J Γ zm_Model_goLend 0 [some (.inr 63), some (.inl (nI b)), some (.inl (nI r)), some (.inl (nI n))] [] σ
  refine zb_Model_goLend_0 (mc_takeOut hR (by decide) hb) (by omega) (fun u h => ?_)
  obtain ⟨q1, q2, q3⟩ := h
  refine zb_Model_goLend_9 (mc_put (by decide) (by omega) _ _ _) (by omega) (fun u2 h => ?_)
  refine zb_Model_goLend_20 (k1 := 48) (k2 := 36 + b) (k3 := 36 + b) (z_ixn (by omega)) ⟨nI_add _ _, by omega⟩ ⟨nI_add _ _, by omega⟩ ?_
  have e48 : u2.1 64 48 = nI (v_y v) := by
    subst h
    rw [z_pI_ne2 (by omega), z_pI_ne2 (by omega), z_pI_ne2 (by omega), q2 _ (by omega)]
    exact hR.fy
  rw [he, e48, nI_add, z_pI_at]
  have hF : z_fr (fun q => q = 64) σ (z_pI u2 64 (36 + b) (nI (v_y v + n))) := by
    subst h
    exact z_fr.pI (F := fun q => q = 64) (((q1.pI rfl).pI rfl).pI rfl) rfl
  refine ⟨_, rfl, rfl, hR.upd hF (by decide) (aI_lend hR.1 hb hr) (mV.lend hR.1 hR.2.2 hb ?_ ?_ (z_pI_at _ _ _ _) (fun k k1 k2 k3 k4 => ?_) (fun b' hb' hne hw => ?_)), hF⟩
  · subst h
    rw [z_pI_ne2 (by omega), z_pI_ne2 (by omega), z_pI_ne2 (by omega), z_pI_at]
  · subst h
    rw [z_pI_ne2 (by omega), z_pI_ne2 (by omega), z_pI_at]
  · subst h
    rw [z_pI_ne2 (by omega), z_pI_ne2 (by omega), z_pI_ne2 (by omega), z_pI_ne2 (by omega)]
    exact q2 k k4
  · subst h
    rw [z_pI_ne2 (by omega), z_pI_ne2 (by omega), z_pI_ne2 (by omega), z_pI_ne2 (by omega)]
    exact q3 b' hb' hne hw
/-- a book is marked, nothing else moves -/
theorem mR.lift0 (hR : mR s v σ a) (ha : z_kd a = (11, 53)) {b t : Nat} (hb : b < s_n s) (ht : t = 0 ∨ t = 3) (hl : a_last s v b) : mR s (a_lift v b t) (z_pI σ a b (nI t)) a :=
  hR.upd (z_fr.pI (F := fun q => q = a) z_fr.rf rfl) ha (aI_lift hR.1 hb ht) (mV.lift0 hR.1 hR.2.2 hb ht hl (z_pI_at _ _ _ _) (fun _ hk => z_pI_ne2 hk))
theorem mc_goRecall (hR : mR s v σ 64) {b : Nat} (hb : b < s_n s) (hw : v_w v b = 2) : z_Ci 0 zm_Model_goRecall [.inr 63, .inl (nI b)] σ (fun x u => x = nI (v_h v b) ∧ mR s (a_lift v b 0) u 64 ∧ z_fr (fun q => q = 64) σ u) := by
  have hn := hR.n
  refine z_Ci_of (by decide) (Nat.le_of_ble_eq_true rfl) (fun Γ hd he => ?_)
  show z_J Γ zm_Model_goRecall 0 [some (.inr 63), some (.inl (nI b))] [] σ
  refine zb_Model_goRecall_0 (k1 := b) (k2 := 12 + b) (z_ixn (by omega)) ⟨nI_add _ _, by omega⟩ ?_
  rw [he, z_pI_ne2 (by omega), hR.fh hb (Or.inr hw)]
  exact ⟨_, rfl, rfl, hR.lift0 (by decide) hb (Or.inl rfl) (a_last0 hR.1 (by omega)), z_fr.pI (F := fun q => q = 64) z_fr.rf rfl⟩
theorem l_bits_0 {l : List Nat} {n : Nat} (hl : ∀ b, b ∈ l → b < n) : l_bits l n = 0 ↔ l.length = 0 := by
  constructor
  · intro h
    cases l with
    | nil => rfl
    | cons x t =>
      have := l_bits_bit (x :: t) n x
      rw [h] at this
      simp [hl x (by simp)] at this
  · intro h
    rw [List.eq_nil_of_length_eq_zero h]
    clear hl h
    induction n with
    | zero => rfl
    | succ n ih => rw [l_bits, if_neg (by simp), ih]
/-- why a shot is refused, or 0 -/
def a_sh0 (s : aS) (v : aV) (x y : Int32) : Int32 := if z_isn x (s_c s) = true ∧ nI 1 ≤ y ∧ y ≤ nI 4 then (if (v_p v x.toNatClampNeg).length = 0 then -2 else nI 0) else -1
theorem mc_refusesShot (hR : mR s v σ 64) (x y : Int32) : z_Ci 2 zm_Model_refusesShot [.inr 63, .inl x, .inl y] σ (z_is (a_sh0 s v x y) σ) := by
  have hn := hR.n
  have h6 := hR.c6
  refine z_Ci_of (by decide) (Nat.le_of_ble_eq_true rfl) (fun Γ hd he => ?_)
  show z_J Γ zm_Model_refusesShot 0 [some (.inr 63), some (.inl x), some (.inl y)] [] σ
  have no : ¬ (z_isn x (s_c s) = true ∧ nI 1 ≤ y ∧ y ≤ nI 4) → z_J Γ zm_Model_refusesShot 17 [none, none, none] [] σ := fun h => by
    refine zb_Model_refusesShot_17 ?_
    rw [he, a_sh0, if_neg h]
    exact ⟨_, rfl, rfl, rfl⟩
  refine zb_Model_refusesShot_0 (mc_isColumn h6 hR.2.1.2.1 x) (by omega) (fun r u h => ?_)
  obtain ⟨rfl, rfl⟩ := h
  refine zb_Model_refusesShot_5 (fun h => no (fun q => ?_)) (fun h => ?_)
  · rw [z_tf_eq0] at h
    rw [h] at q
    exact absurd q.1 (by decide)
  rw [z_tf_eq0, Bool.not_eq_false] at h
  refine zb_Model_refusesShot_8 (mc_in _ _ _ _) (by omega) (fun r u h3 => ?_)
  obtain ⟨rfl, rfl⟩ := h3
  refine zb_Model_refusesShot_14 (fun h3 => ?_) (fun h3 => no (fun q => ?_))
  · rw [z_tf_eq0, Bool.not_eq_false, Bool.and_eq_true, decide_eq_true_eq, decide_eq_true_eq] at h3
    obtain ⟨c, hc, rfl⟩ := z_isn_t (by omega) h
    have ea : a_sh0 s v (nI c) y = if (v_p v c).length = 0 then -2 else nI 0 := by
      unfold a_sh0
      rw [if_pos ⟨h, h3⟩, nI_clamp (by omega)]
    rw [ea] at he
    refine zb_Model_refusesShot_19 (mc_inColumn hR.nb (by decide) (hR.I hc)) (by omega) (fun r u h5 => ?_)
    obtain ⟨rfl, rfl⟩ := h5
    have e0 : (0 : Int32) = nI 0 := rfl
    have e1 := l_bits_0 (l := v_p v c) (n := s_n s) (fun b hb => ((hR.1.mm hc b).mp hb).1)
    have e2 := l_bits_31 (l := v_p v c) hn
    refine zb_Model_refusesShot_28 (fun h6 => ?_) (fun h6 => ?_)
    · rw [e0, zn_eq e2 (by omega), e1] at h6
      refine zb_Model_refusesShot_36 (zb_Model_refusesShot_37 ?_)
      rw [he, if_neg h6]
      exact ⟨_, rfl, rfl, rfl⟩
    · rw [e0, zn_eq e2 (by omega), e1] at h6
      refine zb_Model_refusesShot_31 (zb_Model_refusesShot_37 ?_)
      rw [he, if_pos h6]
      exact ⟨_, rfl, rfl, rfl⟩
  · rw [z_tf_eq0] at h3
    simp only [Bool.and_eq_false_iff, decide_eq_false_iff_not] at h3
    rcases h3 with h3 | h3
    · exact h3 q.2.1
    · exact h3 q.2.2
theorem mc_goShot (hR : mR s v σ a) (ha : z_kd a = (11, 53)) {c n : Nat} (hc : c < s_c s) (hn31 : n < 2147483648) : z_Ci 3 zm_Model_goShot [.inr 63, .inr a, .inl (nI c), .inl (nI n)] σ (fun x u => x = nI (a_shi v c n).2 ∧ mR s (a_shi v c n).1 u a ∧ z_fr (fun q => q = a ∨ q = 75) σ u) := by
  have hn := hR.n
  have h53 := z_a53 ha
  refine z_Ci_of (by decide) (Nat.le_of_ble_eq_true rfl) (fun Γ hd he => ?_)
  show z_J Γ zm_Model_goShot 0 [some (.inr 63), some (.inr a), some (.inl (nI c)), some (.inl (nI n)), none, none, none] [] σ
  refine zb_Model_goShot_0 ha ?_
  refine zj_forS (b := n) (fun i => [some (.inr 63), some (.inr a), some (.inl (nI c)), some (.inl (nI n)), some (.inl (nI (a_shi v c i).2)), some (.inl (nI i)), none])
    (fun i u => mR s (a_shi v c i).1 u a ∧ z_fr (fun q => q = a ∨ q = 75) σ u) (fun i u hi hI kk => ?_) (fun u hI => ?_) 0 (Nat.zero_le _) _ ⟨hR, z_fr.rf⟩
  · obtain ⟨q1, q2⟩ := hI
    refine zb_Model_goShot_6 ha (fun h => absurd h (nI_ge hi (by omega))) (fun _ => ?_)
    refine zb_Model_goShot_12 ha (mc_highest q1.nb ha (by omega) (q1.C hc)) (by omega) (fun r u2 h => ?_)
    obtain ⟨rfl, hF⟩ := h
    have q1' : mR s (a_shi v c i).1 u2 a := by
      refine ⟨q1.1, ?_, ?_⟩
      · unfold mS
        rw [(hF 63 (by omega)).1, (hF 65 (by omega)).1, (hF 66 (by omega)).1, (hF 67 (by omega)).1]
        exact q1.2.1
      · rw [(hF a (by omega)).1]
        exact q1.2.2
    have q2' : z_fr (fun q => q = a ∨ q = 75) σ u2 := q2.tr (hF.mono (fun q h => Or.inr h))
    by_cases hz : (v_p (a_shi v c i).1 c).length = 0
    · rw [if_pos hz]
      refine zb_Model_goShot_18 ha (fun h => absurd rfl h) (fun _ => ?_)
      refine zb_Model_goShot_26 ?_
      have hst := a_shi_stop (v := v) (c := c) (i := i) hz (n - i)
      have ei : i + (n - i) = n := by omega
      rw [ei] at hst
      rw [he, hst]
      exact ⟨_, rfl, rfl, q1', q2'⟩
    · rw [if_neg hz]
      have hb : a_top (a_shi v c i).1 c < s_n s := ((q1.1.mm hc _).mp (l_getD_mem (by omega))).1
      refine zb_Model_goShot_18 ha (fun _ => ?_) (fun h => absurd h (zn_neg1 (show a_top (a_shi v c i).1 c < 2147483648 by omega)))
      refine zb_Model_goShot_29 ha (k1 := a_top (a_shi v c i).1 c) (z_ixn (Nat.lt_trans hb (by omega))) ?_
      rw [nI_add, zn_shl (show (v_p (a_shi v c i).1 c).getD ((v_p (a_shi v c i).1 c).length - 1) 0 < 31 from Nat.lt_trans hb (by omega)), zn_or]
      have e3 : a_shi v c (i + 1) = (a_lift (a_shi v c i).1 (a_top (a_shi v c i).1 c) 3, (a_shi v c i).2 ||| 2 ^ (a_top (a_shi v c i).1 c)) := by rw [a_shi, if_neg hz]
      rw [e3] at kk
      exact kk _ ⟨q1'.lift0 ha hb (Or.inr rfl) (a_last_top q1.1 hc (by omega)), q2'.pI (Or.inl rfl)⟩
  · obtain ⟨q1, q2⟩ := hI
    refine zb_Model_goShot_6 ha (fun _ => ?_) (fun h => absurd (Int32.le_refl _) h)
    refine zb_Model_goShot_49 ?_
    rw [he]
    exact ⟨_, rfl, rfl, q1, q2⟩
end
