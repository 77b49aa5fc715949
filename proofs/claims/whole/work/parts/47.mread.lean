/-! reading a text: how it begins and ends -/
section
variable {σ u : zS} {q : Nat × Option Nat}
theorem w_I_n' (h : ∀ p, q.2 = some p → p ≤ 100) : w_I q.2 = -1 ↔ q.2 = none := by
  cases hq : q.2 with
  | none => exact ⟨fun _ => rfl, fun _ => rfl⟩
  | some p =>
    have hp := h p hq
    exact ⟨fun e => absurd e (zn_neg1 (show p < 2147483648 by omega)), fun e => absurd e (by simp)⟩
theorem mn_fine (h : ∀ p, q.2 = some p → p ≤ 100) : z_Ci 0 zm_Model_fine [.inr 63] (p_s σ q) (z_is (z_tf (decide (q.2 = none))) (p_s σ q)) := by
  refine z_Ci_of (by decide) (Nat.le_of_ble_eq_true rfl) (fun Γ hd he => ?_)
  show z_J Γ zm_Model_fine 0 [some (.inr 63)] [] (p_s σ q)
  refine zb_Model_fine_0 (fun k => ?_) (fun k => ?_)
  · rw [p_s_wr, w_I_n' h] at k
    refine zb_Model_fine_12 (zb_Model_fine_13 ?_ (Or.inl rfl))
    rw [he]
    exact ⟨_, rfl, by simp [k, z_tf], rfl⟩
  · rw [p_s_wr, w_I_n' h] at k
    refine zb_Model_fine_8 (zb_Model_fine_13 ?_ (Or.inr rfl))
    rw [he]
    exact ⟨_, rfl, by simp [k, z_tf], rfl⟩
theorem mn_fault (h : ∀ p, q.2 = some p → p ≤ 100) : z_Cv 1 zm_Model_fault [.inr 63, .inl (nI q.1)] (p_s σ q) (fun u => u = p_s σ (d_flt q)) := by
  obtain ⟨a, w⟩ := q
  refine z_Cv_of (by decide) (Nat.le_of_ble_eq_true rfl) (fun Γ hd he => ?_)
  show z_J Γ zm_Model_fault 0 [some (.inr 63), some (.inl (nI a))] [] (p_s σ (a, w))
  refine zb_Model_fault_0 (mn_fine h) (by omega) (fun r u hr => ?_)
  obtain ⟨rfl, rfl⟩ := hr
  refine zb_Model_fault_4 (fun k => ?_) (fun k => ?_)
  · rw [z_tf_eq0, decide_eq_false_iff_not] at k
    refine zb_Model_fault_12 ?_
    rw [he, d_flt, if_neg k]
    exact ⟨rfl, rfl⟩
  · rw [z_tf_eq0, decide_eq_false_iff_not, Decidable.not_not] at k
    have k' : w = none := k
    subst k'
    refine zb_Model_fault_7 (zb_Model_fault_12 ?_)
    rw [he, d_flt, if_pos rfl]
    exact ⟨rfl, p_s_16 σ a none (some a)⟩
/-- once a fault was found nothing more is read -/
theorem mf_passes {a p : Nat} (hp : p ≤ 100) (c : Int32) : z_Ci 1 zm_Model_passes [.inr 63, .inl c] (p_s σ (a, some p)) (z_is (nI 0) (p_s σ (a, some p))) := by
  refine z_Ci_of (by decide) (Nat.le_of_ble_eq_true rfl) (fun Γ hd he => ?_)
  show z_J Γ zm_Model_passes 0 [some (.inr 63), some (.inl c)] [] (p_s σ (a, some p))
  refine zb_Model_passes_0 (mn_fine (by intro p' h'; simp at h'; omega)) (by omega) (fun r u hr => ?_)
  obtain ⟨rfl, rfl⟩ := hr
  refine zb_Model_passes_4 (fun _ => ?_) (fun k => absurd (by simp [z_tf]; decide) k)
  refine zb_Model_passes_15 ?_
  rw [he]
  exact ⟨_, rfl, rfl, rfl⟩
theorem mf_oneOf {a p : Nat} (hp : p ≤ 100) (c d : Int32) : z_Ci 2 zm_Model_oneOf [.inr 63, .inl c, .inl d] (p_s σ (a, some p)) (z_is (nI 0) (p_s σ (a, some p))) := by
  refine z_Ci_of (by decide) (Nat.le_of_ble_eq_true rfl) (fun Γ hd he => ?_)
  show z_J Γ zm_Model_oneOf 0 [some (.inr 63), some (.inl c), some (.inl d)] [] (p_s σ (a, some p))
  refine zb_Model_oneOf_0 (mn_fine (by intro p' h'; simp at h'; omega)) (by omega) (fun r u hr => ?_)
  obtain ⟨rfl, rfl⟩ := hr
  refine zb_Model_oneOf_4 (fun k => absurd (by simp [z_tf]; decide) k) (fun _ => ?_)
  refine zb_Model_oneOf_7 ?_
  rw [he]
  exact ⟨_, rfl, rfl, rfl⟩
theorem mf_number {a p : Nat} (hp : p ≤ 100) (c : Int32) : z_Ci 3 zm_Model_number [.inr 63, .inl c] (p_s σ (a, some p)) (z_is (nI 0) (p_s σ (a, some p))) := by
  refine z_Ci_of (by decide) (Nat.le_of_ble_eq_true rfl) (fun Γ hd he => ?_)
  show z_J Γ zm_Model_number 0 [some (.inr 63), some (.inl c), none, none] [] (p_s σ (a, some p))
  refine zb_Model_number_0 (mf_oneOf hp _ _) (by omega) (fun r u hr => ?_)
  obtain ⟨rfl, rfl⟩ := hr
  refine zb_Model_number_8 ?_
  have fin : z_J Γ zm_Model_number 57 [none, none, some (.inl (nI 0)), none] [] (p_s σ (a, some p)) := by
    refine zb_Model_number_57 ?_
    rw [he]
    exact ⟨_, rfl, rfl, rfl⟩
  refine zb_Model_number_11 (fun _ => fin) (fun _ => ?_)
  refine zb_Model_number_16 (mn_fine (by intro p' h'; simp at h'; omega)) (by omega) (fun r u hr => ?_)
  obtain ⟨rfl, rfl⟩ := hr
  exact zb_Model_number_20 (fun _ => fin) (fun k => absurd (by simp [z_tf]; decide) k)
/-- the end of a reading: more signs are a fault -/
def d_wr (L : Nat) (q : Nat × Option Nat) : Nat × Option Nat := if q.1 < L then d_flt q else q
theorem mn_wasRight {L : Nat} (h : ∀ p, q.2 = some p → p ≤ 100) (h1 : q.1 ≤ 100) (hL : L ≤ 80) (h13 : σ.1 63 13 = nI L) : z_Ci 2 zm_Model_wasRight [.inr 63] (p_s σ q) (fun r u => r = z_tf (decide ((d_wr L q).2 = none)) ∧ u = p_s σ (d_wr L q)) := by
  refine z_Ci_of (by decide) (Nat.le_of_ble_eq_true rfl) (fun Γ hd he => ?_)
  show z_J Γ zm_Model_wasRight 0 [some (.inr 63)] [] (p_s σ q)
  have e13 : (p_s σ q).1 63 13 = nI L := by rw [p_s_k _ _ (by decide) (by decide)]; exact h13
  have fin : ∀ q' : Nat × Option Nat, q' = d_wr L q → (∀ p, q'.2 = some p → p ≤ 100) → z_J Γ zm_Model_wasRight 19 [some (.inr 63)] [] (p_s σ q') := by
    intro q' e hq'
    refine zb_Model_wasRight_19 (mn_fine hq') (by omega) (fun r u hr => ?_)
    obtain ⟨rfl, rfl⟩ := hr
    refine zb_Model_wasRight_23 ?_ (z_tf01 _)
    rw [he, ← e]
    exact ⟨_, rfl, rfl, rfl⟩
  refine zb_Model_wasRight_0 (fun k => ?_) (fun k => ?_)
  · rw [e13, p_s_at, zn_le (by omega) (by omega)] at k
    exact fin q (by rw [d_wr, if_neg (by omega)]) h
  · rw [e13, p_s_at, zn_le (by omega) (by omega)] at k
    refine zb_Model_wasRight_11 (dc := 1) (P := fun u => u = p_s σ (d_flt q)) (by rw [p_s_at]; exact mn_fault h) (by omega) (fun u hu => ?_)
    subst hu
    refine fin _ (by rw [d_wr, if_pos (by omega)]) (fun p hp => ?_)
    unfold d_flt at hp
    by_cases z : q.2 = none
    · rw [if_pos z] at hp
      have : q.1 = p := Option.some.inj hp
      omega
    · rw [if_neg z] at hp
      exact h p hp
/-- the state when a text of L signs begins to be read -/
def rd_t (σ : zS) (L m : Nat) : zS := z_pI (z_pI (z_pI (z_pR σ 63 12 68) 63 13 (nI L)) 63 14 (nI m)) 63 8 (nI 0)
theorem rd_t_o (σ : zS) (L m : Nat) {o : Nat} (h : o ≠ 63) : (rd_t σ L m).1 o = σ.1 o ∧ (rd_t σ L m).2 o = σ.2 o := by
  unfold rd_t
  refine ⟨?_, ?_⟩
  · rw [z_pI_ne h, z_pI_ne h, z_pI_ne h]
    rfl
  · show (z_pR σ 63 12 68).2 o = σ.2 o
    unfold z_pR
    funext k
    simp [h]
theorem rd_t_k (σ : zS) (L m : Nat) {k : Nat} (h : k ≠ 8 ∧ k ≠ 13 ∧ k ≠ 14) : (rd_t σ L m).1 63 k = σ.1 63 k := by
  unfold rd_t
  rw [z_pI_ne2 h.1, z_pI_ne2 h.2.2, z_pI_ne2 h.2.1]
  rfl
theorem rd_t_2 (σ : zS) (L m : Nat) : (rd_t σ L m).2 63 12 = 68 ∧ ∀ k, k ≠ 12 → (rd_t σ L m).2 63 k = σ.2 63 k := by
  refine ⟨?_, fun k hk => ?_⟩
  · show (z_pR σ 63 12 68).2 63 12 = 68
    simp [z_pR]
  · show (z_pR σ 63 12 68).2 63 k = σ.2 63 k
    simp [z_pR, hk]
theorem rd_t_13 (σ : zS) (L m : Nat) : (rd_t σ L m).1 63 13 = nI L ∧ (rd_t σ L m).1 63 14 = nI m ∧ (rd_t σ L m).1 63 8 = nI 0 := by
  unfold rd_t
  refine ⟨?_, ?_, z_pI_at _ _ _ _⟩
  · rw [z_pI_ne2 (by decide), z_pI_ne2 (by decide), z_pI_at]
  · rw [z_pI_ne2 (by decide), z_pI_at]
theorem rd_t_C {L m : Nat} {X : Nat → Nat} (h : mTx L X σ) (hm : m ≤ 80) : rd_C (min L m) X (decide (σ.1 63 23 ≠ 0)) (σ.1 74) (rd_t σ L m) := by
  obtain ⟨h1, h2, h3⟩ := h
  refine ⟨80, L, m, by rw [(rd_t_2 σ L m).1]; decide, by decide, (rd_t_13 σ L m).1, (rd_t_13 σ L m).2.1, by omega, by omega, rfl, by omega, by omega, fun i hi => ?_, ?_, fun k _ => by rw [(rd_t_o σ L m (show 74 ≠ 63 by decide)).1]⟩
  · rw [(rd_t_2 σ L m).1, (rd_t_o σ L m (show 68 ≠ 63 by decide)).1]
    exact h3 i (by omega)
  · rw [rd_t_k _ _ _ (by decide), decide_eq_false_iff_not, Decidable.not_not]
theorem mc_beginText {L : Nat} {X : Nat → Nat} (h : mTx L X σ) (m : Nat) : z_Cv 1 zm_Model_beginText [.inr 63, .inl (nI m)] σ (fun u => u = p_s (rd_t σ L m) (0, none)) := by
  refine z_Cv_of (by decide) (Nat.le_of_ble_eq_true rfl) (fun Γ hd he => ?_)
  show z_J Γ zm_Model_beginText 0 [some (.inr 63), some (.inl (nI m))] [] σ
  refine zb_Model_beginText_0 (mc_begin σ (a := 68) (n := 80) (by decide) _ _) (by omega) (fun u hu => ?_)
  subst hu
  refine zb_Model_beginText_13 ?_
  rw [he, h.2.1]
  refine ⟨rfl, ?_⟩
  unfold rd_t p_s z_pI
  refine Prod.ext ?_ rfl
  funext o j
  simp only [z_up, w_I]
  by_cases e : o = 63
  · by_cases e1 : j = 8
    · subst e1; simp [e]
    · by_cases e2 : j = 15
      · subst e2; simp [e]
      · by_cases e3 : j = 16
        · subst e3; simp [e]
        · simp [e, e1, e2, e3]
  · simp [e]
theorem rd_C.pI {L : Nat} {T : Nat → Nat} {qa : Bool} {e : Nat → Int32} {o k : Nat} {y : Int32} (h : rd_C L T qa e σ) (h1 : o ≠ 63) (h2 : o ≠ 74) (h3 : σ.2 63 12 ≠ o) : rd_C L T qa e (z_pI σ o k y) := by
  obtain ⟨nm, len, top, g1, g2, g3, g4, g5, g6, g7, g8, g9, g10, g11, g12⟩ := h
  refine ⟨nm, len, top, g1, g2, ?_, ?_, g5, g6, g7, g8, g9, fun i hi => ?_, ?_, fun j hj => ?_⟩
  · rw [z_pI_ne (Ne.symm h1)]; exact g3
  · rw [z_pI_ne (Ne.symm h1)]; exact g4
  · rw [z_pI_2, z_pI_ne h3]; exact g10 i hi
  · rw [z_pI_ne (Ne.symm h1)]; exact g11
  · rw [z_pI_ne (Ne.symm h2)]; exact g12 j hj
theorem p_s_pI (σ : zS) (q : Nat × Option Nat) {o k : Nat} {y : Int32} (h : o ≠ 63) : z_pI (p_s σ q) o k y = p_s (z_pI σ o k y) q := by
  unfold p_s z_pI
  refine Prod.ext ?_ rfl
  funext a b
  simp only [z_up]
  by_cases e : a = 63
  · have e2 : ¬ (63 : Nat) = o := fun z => h z.symm
    simp [e, e2]
  · simp [e]
theorem p_s_at1 (σ : zS) (q : Nat × Option Nat) : z_pI (p_s σ q) 63 15 ((p_s σ q).1 63 15 + nI 1) = p_s σ (q.1 + 1, q.2) := p_s_inc σ q.1 q.2
abbrev x_t0 (x : tX) : tX := (x_s x, x_v x, x_H x, (x_K x, x_T x), (0, x_X x), x_r x, x_e x, x_k x, x_m x)
/-- the frame of a reading: from the state before the text began -/
abbrev m_rK (k : Nat) : Prop := m_sK k ∨ k = 8
theorem rd_t_X (σ : zS) (L m : Nat) (q : Nat × Option Nat) : mX m_sO m_rK σ (p_s (rd_t σ L m) q) := by
  refine ⟨fun o ho _ => ⟨?_, ?_⟩, fun k hk => ?_, fun k hk => ?_⟩
  · rw [p_s_o _ _ ho]; exact (rd_t_o σ L m ho).1
  · rw [p_s_2]; exact (rd_t_o σ L m ho).2
  · have h1 : k ≠ 8 := fun e => hk (Or.inr e)
    have h2 : ¬ (13 ≤ k ∧ k ≤ 16) := fun e => hk (Or.inl (by unfold m_sK; omega))
    rw [p_s_k _ _ (by omega) (by omega), rd_t_k _ _ _ (by omega)]
  · rw [p_s_2]; exact (rd_t_2 σ L m).2 k hk
theorem mA.rd {x : tX} (h : mA x σ) (hF : mX m_sO m_rK σ u) (h8 : u.1 63 8 = nI 0) : mA (x_t0 x) u ∧ zU σ u :=
  ⟨⟨h.1.keepX hF (by unfold m_rK m_sK; omega) (by unfold m_sO; omega) (by unfold m_sO; omega) (by decide), h.2.1.keepX hF (by unfold m_sO; omega) (by unfold m_rK m_sK; omega), h.2.2.1.keepX hF (by unfold m_sO; omega) (by unfold m_rK m_sK; omega), ⟨Nat.zero_le _, h8, fun i hi => absurd hi (Nat.not_lt_zero _)⟩, h.2.2.2.2.1.keepX hF (by unfold m_sO; omega) (by unfold m_rK m_sK; omega), h.2.2.2.2.2.1.keepX hF (by unfold m_sO; omega) (by unfold m_rK m_sK; omega), h.2.2.2.2.2.2.keepX hF (by unfold m_sO; omega) (by unfold m_rK m_sK; omega)⟩, hF.zU (by unfold m_sO; omega)⟩
/-- the first sign that can't stand where it is; the text's length, if it can't end there -/
def sc_b (ok : Nat → Bool) (fin : Bool) (L : Nat) : Option Nat := match (List.range L).find? (fun i => !ok i) with
  | some i => some i
  | none => if fin = true then none else some L
theorem sc_b_at {ok : Nat → Bool} {fin : Bool} {L i : Nat} (h : ∀ j, j < i → ok j = true) (hi : i < L) (hb : ok i = false) : sc_b ok fin L = some i := by
  have : (List.range L).find? (fun i => !ok i) = some i := by
    rw [List.find?_range_eq_some]
    refine ⟨by rw [hb]; rfl, List.mem_range.mpr hi, fun j hj => ?_⟩
    rw [h j hj]
    rfl
  unfold sc_b
  rw [this]
theorem sc_b_end {ok : Nat → Bool} {fin : Bool} {L : Nat} (h : ∀ j, j < L → ok j = true) : sc_b ok fin L = if fin = true then none else some L := by
  have : (List.range L).find? (fun i => !ok i) = none := by
    rw [List.find?_range_eq_none]
    intro i hi
    rw [h i hi]
    rfl
  unfold sc_b
  rw [this]
end
