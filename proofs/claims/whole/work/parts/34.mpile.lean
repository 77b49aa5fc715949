/-- the model's pile holds q -/
def mP (q : List Nat) (u : zS) : Prop := ∀ k, k < q.length → u.1 75 k = nI (q.getD k 0)
def l_bt (l : List Nat) (m : Nat) : List Nat := l.filter (fun b => !(m.testBit b))
theorem l_bt0 (l : List Nat) : l_bt l 0 = l := by simp [l_bt]
/-- .. as it is read: p places whole, of the next the books below b -/
def l_rq (l : List Nat) (m p b : Nat) : List Nat := l_bt (l.take p) m ++ (if p < l.length ∧ l.getD p 0 < b ∧ m.testBit (l.getD p 0) = false then [l.getD p 0] else [])
theorem l_rq_0 (l : List Nat) (m p : Nat) : l_rq l m p 0 = l_bt (l.take p) m := by simp [l_rq]
theorem l_rq_n {l : List Nat} {m p n : Nat} (h : ∀ b, b ∈ l → b < n) : l_rq l m p n = l_bt (l.take (p + 1)) m := by
  unfold l_rq
  by_cases hp : p < l.length
  · have e : l.getD p 0 = l[p] := by rw [List.getD_eq_getElem?_getD, List.getElem?_eq_getElem hp]; rfl
    have hb := h _ (List.getElem_mem hp)
    rw [List.take_add_one, List.getElem?_eq_getElem hp, e]
    unfold l_bt
    rw [List.filter_append]
    congr 1
    by_cases hm : m.testBit l[p] = true
    · simp [hm]
    · simp [hp, hb, hm]
  · rw [if_neg (fun q => hp q.1), List.append_nil, List.take_of_length_le (by omega), List.take_of_length_le (by omega)]
theorem l_bt_len (l : List Nat) (m p : Nat) : (l_bt (l.take p) m).length ≤ p := Nat.le_trans (List.length_filter_le _ _) (by simp; omega)
theorem l_rq_same {l : List Nat} {m p b : Nat} (h : ¬ (p < l.length ∧ l.getD p 0 = b ∧ m.testBit b = false)) : l_rq l m p (b + 1) = l_rq l m p b := by
  unfold l_rq
  congr 1
  by_cases hp : p < l.length
  · by_cases e : l.getD p 0 = b
    · have hm : ¬ m.testBit b = false := fun q => h ⟨hp, e, q⟩
      rw [e, if_neg (fun q => hm q.2.2), if_neg (fun q => hm q.2.2)]
    · have : l.getD p 0 < b + 1 ↔ l.getD p 0 < b := by omega
      simp only [this]
  · rw [if_neg (fun q => hp q.1), if_neg (fun q => hp q.1)]
theorem l_rq_add {l : List Nat} {m p b : Nat} (hp : p < l.length) (e : l.getD p 0 = b) (hm : m.testBit b = false) : l_rq l m p b = l_bt (l.take p) m ∧ l_rq l m p (b + 1) = l_bt (l.take p) m ++ [b] := by
  unfold l_rq
  rw [e, if_neg (by omega), if_pos ⟨hp, by omega, hm⟩, List.append_nil]
  exact ⟨rfl, rfl⟩
section
variable {s : aS} {σ : zS} {a : Nat}
theorem mc_readPile (hB : s_n s ≤ 12 ∧ σ.1 63 1 = nI (s_n s)) (ha : z_kd a = (11, 53)) (hne : a ≠ 75) {c : Nat} {l : List Nat} (hC : mC s (σ.1 a) c l) {m : Nat} (hm : m < 2147483648) : z_Ci 1 zm_Model_readPile [.inr 63, .inr a, .inl (nI c), .inl (nI m)] σ (fun r u => r = nI (l_bt l m).length ∧ mP (l_bt l m) u ∧ z_fr (fun q => q = 75) σ u) := by
  obtain ⟨hn, hf⟩ := hB
  obtain ⟨hN, h4, hI, hpl⟩ := hC
  refine z_Ci_of (by decide) (Nat.le_of_ble_eq_true rfl) (fun Γ hd he => ?_)
  show z_J Γ zm_Model_readPile 0 [some (.inr 63), some (.inr a), some (.inl (nI c)), some (.inl (nI m)), none, none, none] [] σ
  refine zb_Model_readPile_0 ha ?_
  refine zj_forS (b := 4) (fun p => [some (.inr 63), some (.inr a), some (.inl (nI c)), some (.inl (nI m)), some (.inl (nI (l_bt (l.take p) m).length)), some (.inl (nI p)), none]) (fun p u => mP (l_bt (l.take p) m) u ∧ z_fr (fun q => q = 75) σ u) (fun p u hp hu kk => ?_) (fun u hu => ?_) 0 (Nat.zero_le _) σ ⟨fun k hk => by simp [l_bt] at hk, z_fr.rf⟩
  · refine zb_Model_readPile_6 ha (fun h => absurd h (nI_ge hp (by omega))) (fun _ => ?_)
    refine zb_Model_readPile_12 ha ?_
    have e0 : l_bt (l.take p) m = l_rq l m p 0 := (l_rq_0 l m p).symm
    rw [e0] at hu ⊢
    refine zj_forS (b := s_n s) (fun b => [some (.inr 63), some (.inr a), some (.inl (nI c)), some (.inl (nI m)), some (.inl (nI (l_rq l m p b).length)), some (.inl (nI p)), some (.inl (nI b))]) (fun b u => mP (l_rq l m p b) u ∧ z_fr (fun q => q = 75) σ u) (fun b u hb hu k2 => ?_) (fun u hu => ?_) 0 (Nat.zero_le _) u hu
    · have efa : u.1 a = σ.1 a := (hu.2 a hne).1
      have ef1 : u.1 63 = σ.1 63 := (hu.2 63 (by decide)).1
      refine zb_Model_readPile_15 ha (fun h => ?_) (fun _ => ?_)
      · rw [ef1, hf] at h
        exact absurd h (nI_ge hb (by omega))
      have skip : ¬ (p < l.length ∧ l.getD p 0 = b ∧ m.testBit b = false) → z_J Γ zm_Model_readPile 79 [some (.inr 63), some (.inr a), some (.inl (nI c)), some (.inl (nI m)), some (.inl (nI (l_rq l m p b).length)), some (.inl (nI p)), some (.inl (nI b))] [] u := fun h => by
        refine zb_Model_readPile_79 ha ?_
        rw [nI_add]
        simp only [l_rq_same h] at k2
        exact k2 u hu
      have hmemof : p < l.length → l.getD p 0 = b → b ∈ l := fun h1 h2 => by
        rw [← h2, List.getD_eq_getElem?_getD, List.getElem?_eq_getElem h1]
        exact List.getElem_mem h1
      refine zb_Model_readPile_24 ha (z_ixn (by omega)) (fun h => skip (fun q => ?_)) (fun h => ?_)
      · rw [efa] at h
        exact h ((hI.2 b hb).mpr (hmemof q.1 q.2.1)).1
      refine zb_Model_readPile_32 ha (k1 := 12 + b) ⟨nI_add _ _, by omega⟩ (fun h2 => skip (fun q => ?_)) (fun h2 => ?_)
      · rw [efa] at h2
        exact h2 ((hI.2 b hb).mpr (hmemof q.1 q.2.1)).2
      rw [efa] at h h2
      have hmem := (hI.2 b hb).mp ⟨h, h2⟩
      have hlt : l.idxOf b < l.length := List.idxOf_lt_length_of_mem hmem
      refine zb_Model_readPile_43 ha (k1 := 24 + b) ⟨nI_add _ _, by omega⟩ (fun h3 => skip (fun q => ?_)) (fun h3 => ?_)
      · rw [efa, hpl b hmem, zn_eq (by omega) (by omega)] at h3
        exact h3 ((l_idx hN q.1).mp q.2.1)
      rw [efa, hpl b hmem, zn_eq (by omega) (by omega)] at h3
      have hpl' : p < l.length := by omega
      have hgd : l.getD p 0 = b := (l_idx hN hpl').mpr h3
      refine zb_Model_readPile_55 ha (mc_has m b hm (by omega) u) (by omega) (fun r u2 h5 => ?_)
      obtain ⟨rfl, rfl⟩ := h5
      refine zb_Model_readPile_61 ha (fun h5 => ?_) (fun h5 => ?_)
      · rw [z_tf_eq0] at h5
        obtain ⟨r1, r2⟩ := l_rq_add hpl' hgd h5
        have hlen := l_bt_len l m p
        rw [r1]
        refine zb_Model_readPile_67 ha (k1 := (l_bt (l.take p) m).length) (z_ixn (by omega)) (zb_Model_readPile_79 ha ?_)
        rw [nI_add, nI_add]
        simp only [r2, List.length_append, List.length_cons, List.length_nil] at k2
        refine k2 _ ⟨fun k hk => ?_, hu.2.pI rfl⟩
        rw [r1] at hu
        simp only [List.length_append, List.length_cons, List.length_nil] at hk
        by_cases e : k = (l_bt (l.take p) m).length
        · subst e
          rw [z_pI_at]
          simp
        · rw [z_pI_ne2 e]
          have hk' : k < (l_bt (l.take p) m).length := by omega
          have := hu.1 k hk'
          simp only [List.getD_eq_getElem?_getD, List.getElem?_append_left hk'] at this ⊢
          exact this
      · rw [z_tf_eq0] at h5
        exact zb_Model_readPile_64 ha (skip (fun q => h5 q.2.2))
    · have ef1 : u.1 63 = σ.1 63 := (hu.2 63 (by decide)).1
      refine zb_Model_readPile_15 ha (fun _ => ?_) (fun h => ?_)
      · refine zb_Model_readPile_85 ha ?_
        rw [nI_add]
        rw [l_rq_n hI.1] at hu ⊢
        exact kk u hu
      · rw [ef1, hf] at h
        exact absurd (Int32.le_refl _) h
  · refine zb_Model_readPile_6 ha (fun _ => ?_) (fun h => absurd (Int32.le_refl _) h)
    refine zb_Model_readPile_91 ?_
    rw [List.take_of_length_le h4] at hu ⊢
    rw [he]
    exact ⟨_, rfl, rfl, hu.1, hu.2⟩
theorem mc_above (hB : mBk s σ) {q : List Nat} (hq : mP q σ) (h4 : q.length ≤ 4) (hqn : ∀ k, k < q.length → q.getD k 0 < s_n s) {x : Int32} {k : Nat} (hx : x + nI 1 = nI k) (hk : k ≤ q.length) : z_Ci 0 zm_Model_above [.inr 63, .inl x, .inl (nI q.length)] σ (z_is (nI (l_ab s q k)) σ) := by
  obtain ⟨hn, hf, hb⟩ := hB
  refine z_Ci_of (by decide) (Nat.le_of_ble_eq_true rfl) (fun Γ hd he => ?_)
  show z_J Γ zm_Model_above 0 [some (.inr 63), some (.inl x), some (.inl (nI q.length)), none, none] [] σ
  refine zb_Model_above_0 ?_
  rw [hx]
  have e0 : nI 0 = nI (l_ab s q k - l_ab s q k) := by rw [Nat.sub_self]
  have hmono : ∀ i, k + i ≤ q.length → l_ab s q (k + i) ≤ l_ab s q k := by
    intro i
    induction i with
    | zero => intro _; exact Nat.le_refl _
    | succ i ih =>
      intro h
      have h1 := ih (by omega)
      have h2 := l_ab_step (s := s) (l := q) (k := k + i) (by omega)
      have e : k + (i + 1) = k + i + 1 := by omega
      rw [e]
      omega
  have hloop := zj_for (Γ := Γ) (mi := zm_Model_above) (pc := 7) (S := []) (b := q.length - k) (fun i => [some (.inr 63), none, some (.inl (nI q.length)), some (.inl (nI (l_ab s q k - l_ab s q (k + i)))), some (.inl (nI (k + i)))]) (fun _ => σ) (fun i hi kk => ?_) ?_ 0 (Nat.zero_le _)
  · rw [e0]
    exact hloop
  · have hlt : k + i < q.length := by omega
    refine zb_Model_above_7 (fun h => absurd h (nI_ge hlt (by omega))) (fun _ => ?_)
    refine zb_Model_above_13 (k1 := k + i) (k2 := q.getD (k + i) 0) (z_ixn (by omega)) ⟨hq _ hlt, by have := hqn _ hlt; omega⟩ ?_
    rw [(hb _ (hqn _ hlt)).2.1, nI_add, nI_add]
    have h1 := hmono i (by omega)
    have h2 := hmono (i + 1) (by omega)
    have h3 := l_ab_step (s := s) hlt
    have e1 : k + (i + 1) = k + i + 1 := by omega
    rw [e1] at h2
    have e2 : l_ab s q k - l_ab s q (k + i) + s_w s (q.getD (k + i) 0) = l_ab s q k - l_ab s q (k + i + 1) := by omega
    rw [e2]
    exact kk
  · have e3 : k + (q.length - k) = q.length := by omega
    refine zb_Model_above_7 (fun _ => ?_) (fun h => ?_)
    · refine zb_Model_above_34 ?_
      rw [he, e3]
      have : l_ab s q q.length = 0 := by simp [l_ab]
      rw [this, Nat.sub_zero]
      exact ⟨_, rfl, rfl, rfl⟩
    · rw [e3] at h
      exact absurd (Int32.le_refl _) h
theorem mBk.keep {R : Nat → Prop} {u : zS} (h : mBk s σ) (hF : mF R σ u) (h1 : ¬ R 65) (h2 : ¬ R 66) : mBk s u := by
  refine ⟨h.1, by rw [hF.2.1 1 (by omega) (by decide)]; exact h.2.1, fun b hb => ?_⟩
  rw [(hF.1 65 (by decide) (by decide) h1).1, (hF.1 66 (by decide) (by decide) h2).1]
  exact h.2.2 b hb
theorem l_env_m (s : aS) (dy c : Nat) (l : List Nat) (k : Nat) : l_env s dy c l k = m_env (s_t s (l.getD k 0)) (s_w s (l.getD k 0)) (nI c) (nI k) (nI l.length) (nI dy) := by
  funext j
  unfold l_env m_env
  rfl
theorem mc_doesPileHold {K : Nat} {T : Nat → Nat} (hM : mRu K T σ) (hB : mBk s σ) {q : List Nat} (hq : mP q σ) (h4 : q.length ≤ 4) (hqn : ∀ k, k < q.length → q.getD k 0 < s_n s) (c dy : Nat) : z_Ci 341 zm_Model_doesPileHold [.inr 63, .inl (nI c), .inl (nI q.length), .inl (nI dy)] σ (fun r u => r = z_tf (l_ho (tE K T) s dy c q) ∧ mF (fun _ => False) σ u) := by
  refine z_Ci_of (by decide) (Nat.le_of_ble_eq_true rfl) (fun Γ hd he => ?_)
  show z_J Γ zm_Model_doesPileHold 0 [some (.inr 63), some (.inl (nI c)), some (.inl (nI q.length)), some (.inl (nI dy)), none] [] σ
  refine zb_Model_doesPileHold_0 ?_
  refine zj_forS (b := q.length) (fun k => [some (.inr 63), some (.inl (nI c)), some (.inl (nI q.length)), some (.inl (nI dy)), some (.inl (nI k))]) (fun k u => mF (fun _ => False) σ u ∧ ∀ j, j < k → nI (l_ab s q (j + 1)) ≤ l_br (tE K T) s dy c q j) (fun k u hk hu kk => ?_) (fun u hu => ?_) 0 (Nat.zero_le _) σ ⟨mF.rf, fun j hj => by omega⟩
  · obtain ⟨hF, hall⟩ := hu
    have hn := hB.1
    have hMu := hM.keep hF (fun h => h)
    have hBu := hB.keep hF (fun h => h) (fun h => h)
    have hqu : mP q u := fun k hk => by rw [(hF.1 75 (by decide) (by decide) (fun h => h)).1]; exact hq k hk
    refine zb_Model_doesPileHold_3 (fun h => absurd h (nI_ge hk (by omega))) (fun _ => ?_)
    refine zb_Model_doesPileHold_9 (mc_above hBu hqu h4 hqn (k := k + 1) (nI_add _ _) (by omega)) (by omega) (fun r u2 h => ?_)
    obtain ⟨rfl, rfl⟩ := h
    have hb := hqn k hk
    have hbe := mc_bears hMu (b := q.getD k 0) (by omega) (hBu.2.2 _ hb).1 (hBu.2.2 _ hb).2.1 (nI c) (nI k) (nI q.length) (nI dy)
    rw [← l_env_m, z_min_comm] at hbe
    refine zb_Model_doesPileHold_16 (k1 := k) (P := fun r u => r = l_br (tE K T) s dy c q k ∧ mF (fun _ => False) u2 u) (dc := 340) (z_ixn (by omega)) (by rw [hqu k hk]; exact hbe) (by omega) (fun r u3 h => ?_)
    obtain ⟨rfl, hF2⟩ := h
    refine zb_Model_doesPileHold_32 (fun h => ?_) (fun h => ?_)
    · refine zb_Model_doesPileHold_37 ?_
      rw [nI_add]
      refine kk u3 ⟨hF.tr hF2, fun j hj => ?_⟩
      by_cases e : j = k
      · subst e
        exact h
      · exact hall j (by omega)
    · refine zb_Model_doesPileHold_35 ?_
      rw [he]
      refine ⟨_, rfl, ?_, hF.tr hF2⟩
      have : l_ho (tE K T) s dy c q = false := by
        rw [← Bool.not_eq_true, l_ho_iff]
        exact fun z => h (z k hk)
      rw [this]
      rfl
  · refine zb_Model_doesPileHold_3 (fun _ => ?_) (fun h => absurd (Int32.le_refl _) h)
    refine zb_Model_doesPileHold_43 ?_
    rw [he]
    refine ⟨_, rfl, ?_, hu.1⟩
    have : l_ho (tE K T) s dy c q = true := l_ho_iff.mpr (fun k hk => hu.2 k hk)
    rw [this]
    rfl
end
