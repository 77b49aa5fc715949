/-! sets of books as bits -/
theorem zn_xor (a b : Nat) : nI a ^^^ nI b = nI (a ^^^ b) := by
  apply Int32.toBitVec_inj.1
  show BitVec.ofNat 32 a ^^^ BitVec.ofNat 32 b = BitVec.ofNat 32 (a ^^^ b)
  apply BitVec.eq_of_getLsbD_eq
  intro i hi
  simp [hi]
def n_dif (a b : Nat) : Nat := a ^^^ (a &&& b)
theorem n_dif_bit (a b i : Nat) : (n_dif a b).testBit i = (a.testBit i && !b.testBit i) := by
  unfold n_dif
  rw [Nat.testBit_xor, Nat.testBit_and]
  cases a.testBit i <;> cases b.testBit i <;> rfl
theorem zn_andn (a b : Nat) : nI a &&& (nI b ^^^ (-1)) = nI (n_dif a b) := by
  have key : ∀ x y : Int32, x &&& (y ^^^ (-1)) = x ^^^ (x &&& y) := by
    intro x y
    apply Int32.toBitVec_inj.1
    show x.toBitVec &&& (y.toBitVec ^^^ (BitVec.allOnes 32)) = x.toBitVec ^^^ (x.toBitVec &&& y.toBitVec)
    apply BitVec.eq_of_getLsbD_eq
    intro i hi
    rw [BitVec.getLsbD_and, BitVec.getLsbD_xor, BitVec.getLsbD_xor, BitVec.getLsbD_and, BitVec.getLsbD_allOnes]
    have e : decide (i < 32) = true := by simp [hi]
    rw [e]
    cases x.toBitVec.getLsbD i <;> cases y.toBitVec.getLsbD i <;> rfl
  rw [key, zn_and, zn_xor]
  rfl
theorem n_dif_le (a b : Nat) : n_dif a b ≤ a := by
  apply Nat.le_of_testBit
  intro i h
  rw [n_dif_bit, Bool.and_eq_true] at h
  exact h.1
theorem n_dif_0 (a b : Nat) : n_dif a b = 0 ↔ ∀ i, a.testBit i = true → b.testBit i = true := by
  constructor
  · intro h i hi
    have := n_dif_bit a b i
    rw [h, Nat.zero_testBit, hi] at this
    cases hb : b.testBit i
    · rw [hb] at this
      exact absurd this (by decide)
    · rfl
  · intro h
    apply Nat.eq_of_testBit_eq
    intro i
    rw [n_dif_bit, Nat.zero_testBit]
    cases ha : a.testBit i
    · rfl
    · rw [h i ha]
      rfl
theorem l_bits_bt {l : List Nat} {n m : Nat} : l_bits (l_bt l m) n = n_dif (l_bits l n) m := by
  apply Nat.eq_of_testBit_eq
  intro i
  rw [n_dif_bit, l_bits_bit, l_bits_bit]
  unfold l_bt
  by_cases h : i ∈ l
  · cases hm : m.testBit i
    · have : i ∈ l.filter (fun b => !(m.testBit b)) := by rw [List.mem_filter]; exact ⟨h, by rw [hm]; rfl⟩
      simp [h, this]
    · have : ¬ i ∈ l.filter (fun b => !(m.testBit b)) := by
        rw [List.mem_filter]
        rintro ⟨_, q⟩
        rw [hm] at q
        exact absurd q (by decide)
      simp [this]
  · have : ¬ i ∈ l.filter (fun b => !(m.testBit b)) := by
      rw [List.mem_filter]
      rintro ⟨q, _⟩
      exact h q
    simp [h, this]
theorem m_thk_bt {t : Nat → Nat} {l : List Nat} {n m : Nat} (hN : l.Nodup) (hl : ∀ b, b ∈ l → b < n) : m_thk t (n_dif (l_bits l n) m) n = l_h t (l_bt l m) := by
  rw [← l_bits_bt]
  exact m_thk_l (hN.filter _) (fun b hb => hl b (List.mem_filter.mp hb).1)
theorem l_sub {l : List Nat} {n i : Nat} (h : n_dif i (l_bits l n) = 0) : i = l_bits (l.filter (fun b => i.testBit b)) n := by
  rw [n_dif_0] at h
  apply Nat.eq_of_testBit_eq
  intro j
  rw [l_bits_bit]
  cases hj : i.testBit j
  · have : ¬ j ∈ l.filter (fun b => i.testBit b) := by
      rw [List.mem_filter]
      rintro ⟨_, q⟩
      rw [hj] at q
      exact absurd q (by decide)
    simp [this]
  · have h2 := h j hj
    rw [l_bits_bit, decide_eq_true_eq] at h2
    have : j ∈ l.filter (fun b => i.testBit b) := by rw [List.mem_filter]; exact ⟨h2.2, hj⟩
    simp [this, h2.1]
def n_bc (m : Nat) : Nat := m_thk (fun _ => 1) m 12
theorem n_bc_le (m : Nat) : n_bc m ≤ 12 := by
  have key : ∀ n, m_thk (fun _ => 1) m n ≤ n := by
    intro n
    induction n with
    | zero => exact Nat.le_refl _
    | succ n ih =>
      rw [m_thk]
      have : (if m.testBit n = true then 1 else 0) ≤ 1 := by split <;> omega
      omega
  exact key 12
theorem l_bits_12 {l : List Nat} {n : Nat} (hn : n ≤ 12) : l_bits l n < 4096 := by
  have h := l_bits_lt l n
  have h2 : 2 ^ n ≤ 2 ^ 12 := Nat.pow_le_pow_right (by decide) hn
  omega
/-! the most books that a column can spare -/
def a_spV (E : (Nat → Int32) → Int32) (s : aS) (v : aV) (c h m : Nat) : Bool := decide (n_dif m (l_bits (v_p v c) (s_n s)) = 0) && decide (h ≤ l_h (s_t s) (l_bt (v_p v c) m)) && (!(l_ho E s (v_y v) c (v_p v c)) || l_ho E s (v_y v) c (l_bt (v_p v c) m))
def a_spo (E : (Nat → Int32) → Int32) (s : aS) (v : aV) (c h : Nat) : Nat → Nat
  | 0 => 0
  | i + 1 => if a_spV E s v c h (i + 1) = true ∧ n_bc (a_spo E s v c h i) < n_bc (i + 1) then i + 1 else a_spo E s v c h i
def a_spc (E : (Nat → Int32) → Int32) (s : aS) (v : aV) (c h : Nat) : Nat := if l_h (s_t s) (v_p v c) < h then 0 else a_spo E s v c h (l_bits (v_p v c) (s_n s))
def a_sps (E : (Nat → Int32) → Int32) (s : aS) (v : aV) (h : Nat) : Nat → Nat
  | 0 => 0
  | c + 1 => a_sps E s v h c ||| a_spc E s v c h
def to_spares (x : tX) (a : Int32) : Int32 × tX := if nI 0 ≤ a ∧ a ≤ nI 99 then (z_bc (nI (a_sps (x_E x) (x_s x) (x_v x) a.toNatClampNeg (s_c (x_s x)))), x_row x [nI (a_sps (x_E x) (x_s x) (x_v x) a.toNatClampNeg (s_c (x_s x)))]) else (-1, x)
/-! the book of a column that is spared best -/
def a_spk (E : (Nat → Int32) → Int32) (s : aS) (v : aV) (c : Nat) : Nat → Option Nat × Nat
  | 0 => (none, 0)
  | k + 1 => if l_ho E s (v_y v) c (l_bt (v_p v c) (2 ^ (v_p v c).getD k 0)) = true ∧ ((a_spk E s v c k).1 = none ∨ (a_spk E s v c k).2 < l_h (s_t s) (l_bt (v_p v c) (2 ^ (v_p v c).getD k 0))) then (some ((v_p v c).getD k 0), l_h (s_t s) (l_bt (v_p v c) (2 ^ (v_p v c).getD k 0))) else a_spk E s v c k
def to_spare (x : tX) (a : Int32) : Int32 × tX := if z_isn a (s_c (x_s x)) = true then (if (a_spk (x_E x) (x_s x) (x_v x) a.toNatClampNeg (v_p (x_v x) a.toNatClampNeg).length).1 = none then (-2, x) else (w_I (a_spk (x_E x) (x_s x) (x_v x) a.toNatClampNeg (v_p (x_v x) a.toNatClampNeg).length).1, x_row x [nI (a_spk (x_E x) (x_s x) (x_v x) a.toNatClampNeg (v_p (x_v x) a.toNatClampNeg).length).2])) else (-1, x)
theorem a_spo_le (E : (Nat → Int32) → Int32) (s : aS) (v : aV) (c h : Nat) : ∀ i, a_spo E s v c h i ≤ i
  | 0 => Nat.le_refl _
  | i + 1 => by
    have ih := a_spo_le E s v c h i
    rw [a_spo]
    split <;> omega
section
variable {x : tX} {σ u : zS}
theorem l_bt36 {s : aS} {v : aV} (hI : aI s v) {c : Nat} (hc : c < s_c s) (m : Nat) : l_h (s_t s) (l_bt (v_p v c) m) ≤ 36 := l_h36 (x := (s, v, [], (0, fun _ => 0), (0, fun _ => 0), [], fun _ => none, fun _ => none, 0)) hI (fun b hb => ((hI.mm hc b).mp (List.mem_filter.mp hb).1).1) (Nat.le_trans (List.length_filter_le _ _) (hI.l4 hc))
theorem mc_spareOf (h : mA x σ) {c hh : Nat} (hc : c < s_c (x_s x)) (h99 : hh ≤ 99) : z_Ci 345 zm_Model_spareOf [.inr 63, .inl (nI c), .inl (nI hh)] σ (fun r u => r = nI (a_spc (x_E x) (x_s x) (x_v x) c hh) ∧ mX m_sO m_sK σ u) := by
  have hn := h.1.n
  have h6 := h.1.c6
  have hN := h.1.1.nd hc
  have hl : ∀ b, b ∈ v_p (x_v x) c → b < s_n (x_s x) := fun b hb => ((h.1.1.mm hc b).mp hb).1
  have h36 := h.1.1.h36 hc
  have hal := l_bits_12 (l := v_p (x_v x) c) hn
  refine z_Ci_of (by decide) (Nat.le_of_ble_eq_true rfl) (fun Γ hd he => ?_)
  show z_J Γ zm_Model_spareOf 0 [some (.inr 63), some (.inl (nI c)), some (.inl (nI hh)), none, none, none, none] [] σ
  refine zb_Model_spareOf_0 (mc_inColumn h.1.nb (by decide) (h.1.I hc)) (by omega) (fun r u hr => ?_)
  obtain ⟨rfl, rfl⟩ := hr
  refine zb_Model_spareOf_9 (mc_isHeld h.2.2.1.1 h.1.Bk (by decide) (by decide) (h.1.C hc) h.1.fy (by rw [h.2.2.1.2]; decide)) (by omega) (fun r u1 hr => ?_)
  obtain ⟨rfl, hF⟩ := hr
  have f1 : mX m_sO m_sK u u1 := hF.X2 (by unfold m_sO; omega)
  have h1 := (h.low f1).1
  refine zb_Model_spareOf_19 (mc_thickOf h1.1.Bk (by omega)) (by omega) (fun r u2 hr => ?_)
  obtain ⟨rfl, rfl⟩ := hr
  rw [m_thk_l hN hl]
  refine zb_Model_spareOf_29 (fun q => ?_) (fun q => ?_)
  · rw [zn_le (by omega) (by omega)] at q
    rw [show a_spc (x_E x) (x_s x) (x_v x) c hh = a_spo (x_E x) (x_s x) (x_v x) c hh (l_bits (v_p (x_v x) c) (s_n (x_s x))) from if_neg (by omega)] at he
    refine zb_Model_spareOf_35 ?_
    generalize hA : l_bits (v_p (x_v x) c) (s_n (x_s x)) = al at *
    refine zj_forS (b := al) (fun i => [some (.inr 63), some (.inl (nI c)), some (.inl (nI hh)), some (.inl (nI al)), some (.inl (z_tf (l_ho (x_E x) (x_s x) (v_y (x_v x)) c (v_p (x_v x) c)))), some (.inl (nI (a_spo (x_E x) (x_s x) (x_v x) c hh i))), some (.inl (nI (i + 1)))])
      (fun _ w => mX m_sO m_sK u w) (fun i w hi hI kk => ?_) (fun w hI => ?_) 0 (Nat.zero_le _) _ f1
    · have hw := (h.low hI).1
      have hspi := a_spo_le (x_E x) (x_s x) (x_v x) c hh i
      refine zb_Model_spareOf_38 (fun p => ?_) (fun _ => ?_)
      · rw [zn_lt (by omega) (by omega)] at p
        omega
      have skip : ∀ w', mX m_sO m_sK u w' → ¬ (a_spV (x_E x) (x_s x) (x_v x) c hh (i + 1) = true ∧ n_bc (a_spo (x_E x) (x_s x) (x_v x) c hh i) < n_bc (i + 1)) → z_J Γ zm_Model_spareOf 106 [some (.inr 63), some (.inl (nI c)), some (.inl (nI hh)), some (.inl (nI al)), some (.inl (z_tf (l_ho (x_E x) (x_s x) (v_y (x_v x)) c (v_p (x_v x) c)))), some (.inl (nI (a_spo (x_E x) (x_s x) (x_v x) c hh i))), some (.inl (nI (i + 1)))] [] w' := by
        intro w' hw' p
        refine zb_Model_spareOf_106 ?_
        rw [nI_add]
        rw [a_spo, if_neg p] at kk
        exact kk w' hw'
      have take : ∀ w', mX m_sO m_sK u w' → (a_spV (x_E x) (x_s x) (x_v x) c hh (i + 1) = true ∧ n_bc (a_spo (x_E x) (x_s x) (x_v x) c hh i) < n_bc (i + 1)) → z_J Γ zm_Model_spareOf 102 [some (.inr 63), some (.inl (nI c)), some (.inl (nI hh)), some (.inl (nI al)), some (.inl (z_tf (l_ho (x_E x) (x_s x) (v_y (x_v x)) c (v_p (x_v x) c)))), none, some (.inl (nI (i + 1)))] [] w' := by
        intro w' hw' p
        refine zb_Model_spareOf_102 (zb_Model_spareOf_106 ?_)
        rw [nI_add]
        rw [a_spo, if_pos p] at kk
        exact kk w' hw'
      have e0 : (0 : Int32) = nI 0 := rfl
      have hdl := n_dif_le (i + 1) al
      refine zb_Model_spareOf_44 (fun p => ?_) (fun p => ?_)
      · rw [zn_andn, e0, zn_eq (by omega) (by omega)] at p
        refine skip w hI (fun z => ?_)
        unfold a_spV at z
        rw [hA] at z
        simp [p] at z
      rw [zn_andn, e0, zn_eq (by omega) (by omega)] at p
      refine zb_Model_spareOf_53 (by omega) (fun p2 => ?_) (fun p2 => ?_)
      · rw [zn_bc _ (by omega), zn_bc _ (by omega), zn_le (by have := n_bc_le (i + 1); unfold n_bc at this; omega) (by have := n_bc_le (a_spo (x_E x) (x_s x) (x_v x) c hh i); unfold n_bc at this; omega)] at p2
        exact skip w hI (fun z => by have := z.2; unfold n_bc at this; omega)
      rw [zn_bc _ (by omega), zn_bc _ (by omega), zn_le (by have := n_bc_le (i + 1); unfold n_bc at this; omega) (by have := n_bc_le (a_spo (x_E x) (x_s x) (x_v x) c hh i); unfold n_bc at this; omega)] at p2
      have hb2 : n_bc (a_spo (x_E x) (x_s x) (x_v x) c hh i) < n_bc (i + 1) := by unfold n_bc; omega
      have hdl2 := n_dif_le al (i + 1)
      refine zb_Model_spareOf_66 (dc := 1) (P := z_is (nI (l_h (s_t (x_s x)) (l_bt (v_p (x_v x) c) (i + 1)))) w) ?_ (by omega) (fun r w2 hr => ?_)
      · rw [zn_andn, ← m_thk_bt hN hl, hA]
        exact mc_thickOf hw.1.Bk (by omega)
      obtain ⟨rfl, rfl⟩ := hr
      have hb36 := l_bt36 h.1.1 hc (i + 1)
      refine zb_Model_spareOf_76 (fun p3 => ?_) (fun p3 => ?_)
      · rw [zn_le (by omega) (by omega)] at p3
        refine zb_Model_spareOf_83 (fun p4 => ?_) (fun p4 => ?_)
        · rw [z_tf_eq0] at p4
          refine take w2 hI ⟨?_, hb2⟩
          unfold a_spV
          rw [hA]
          simp [p, p3, p4]
        · rw [z_tf_eq0, Bool.not_eq_false] at p4
          refine zb_Model_spareOf_88 (mc_isHeldBut hw.2.2.1.1 hw.1.Bk (by decide) (by decide) (hw.1.C hc) hw.1.fy (by rw [hw.2.2.1.2]; decide) (m := i + 1) (by omega)) (by omega) (fun r w3 hr => ?_)
          obtain ⟨rfl, hF3⟩ := hr
          have f3 : mX m_sO m_sK u w3 := mX.tr hI (hF3.X2 (by unfold m_sO; omega))
          refine zb_Model_spareOf_99 (fun p5 => ?_) (fun p5 => ?_)
          · rw [z_tf_eq0] at p5
            refine skip w3 f3 (fun z => ?_)
            have z1 := z.1
            unfold a_spV at z1
            rw [hA] at z1
            simp [p4, p5] at z1
          · rw [z_tf_eq0, Bool.not_eq_false] at p5
            refine take w3 f3 ⟨?_, hb2⟩
            unfold a_spV
            rw [hA]
            simp [p, p3, p5]
      · rw [zn_le (by omega) (by omega)] at p3
        refine zb_Model_spareOf_80 (skip w2 hI (fun z => ?_))
        have z1 := z.1
        unfold a_spV at z1
        simp [p3] at z1
    · refine zb_Model_spareOf_38 (fun _ => ?_) (fun p => ?_)
      · refine zb_Model_spareOf_112 ?_
        rw [he]
        exact ⟨_, rfl, rfl, hI⟩
      · rw [zn_lt (by omega) (by omega)] at p
        omega
  · rw [zn_le (by omega) (by omega)] at q
    refine zb_Model_spareOf_33 ?_
    rw [he, show a_spc (x_E x) (x_s x) (x_v x) c hh = 0 from if_pos (by omega)]
    exact ⟨_, rfl, rfl, f1⟩
theorem mp_spares (h : mA x σ) (a : Int32) : z_Ci 347 zm_Model_spares [.inr 63, .inl a] σ (fun r u => r = (to_spares x a).1 ∧ mA (to_spares x a).2 u ∧ zU σ u) := by
  have h0 := m_t0 h
  have h6 := h.1.c6
  refine z_Ci_of (by decide) (Nat.le_of_ble_eq_true rfl) (fun Γ hd he => ?_)
  show z_J Γ zm_Model_spares 0 [some (.inr 63), some (.inl a), none, none] [] σ
  refine zb_Model_spares_0 (mc_in _ _ _ _) (by omega) (fun r u hr => ?_)
  obtain ⟨rfl, rfl⟩ := hr
  refine zb_Model_spares_12 (fun k => ?_) (fun k => ?_)
  · rw [z_tf_eq0, Bool.not_eq_false, Bool.and_eq_true, decide_eq_true_eq, decide_eq_true_eq] at k
    obtain ⟨n, hn, rfl⟩ := z_0to (by decide) k
    have et : to_spares x (nI n) = (z_bc (nI (a_sps (x_E x) (x_s x) (x_v x) n (s_c (x_s x)))), x_row x [nI (a_sps (x_E x) (x_s x) (x_v x) n (s_c (x_s x)))]) := by
      unfold to_spares
      rw [if_pos k, nI_clamp (by omega)]
    refine zb_Model_spares_17 ?_
    refine zj_forS (b := s_c (x_s x)) (fun i => [some (.inr 63), some (.inl (nI n)), some (.inl (nI (a_sps (x_E x) (x_s x) (x_v x) n i))), some (.inl (nI i))])
      (fun _ w => mX m_sO m_sK (z_pI σ 63 11 (nI 0)) w) (fun i w hi hI kk => ?_) (fun w hI => ?_) 0 (Nat.zero_le _) _ mX.rf
    · have hw := (h0.low hI).1
      refine zb_Model_spares_21 (fun q => ?_) (fun _ => ?_)
      · rw [hw.1.2.1.2.1] at q
        exact absurd q (nI_ge hi (by omega))
      refine zb_Model_spares_29 (mc_spareOf hw hi hn) (by omega) (fun r w2 hr => ?_)
      obtain ⟨rfl, hF⟩ := hr
      refine zb_Model_spares_36 ?_
      rw [zn_or, nI_add]
      exact kk w2 (hI.tr hF)
    · have hw := (h0.low hI).1
      refine zb_Model_spares_21 (fun _ => ?_) (fun q => ?_)
      · refine zb_Model_spares_44 (mc_tell mRow.nil (by decide) _) (by omega) (fun u2 h2 => ?_)
        obtain ⟨r1, r2⟩ := h2
        refine zb_Model_spares_54 (by omega) ?_
        rw [he, et]
        exact ⟨_, rfl, rfl, h.row (mQ.t0.tr ((mQ.of hI).tr (mQ.r0.tr (mQ.tl r2)))) r1⟩
      · rw [hw.1.2.1.2.1] at q
        exact absurd (Int32.le_refl _) q
  · rw [z_tf_eq0] at k
    refine zb_Model_spares_15 ?_
    rw [he, to_spares, if_neg (fun q => by simp [q.1, q.2] at k)]
    exact ⟨_, rfl, rfl, h0, mW.zU m_t0W⟩
def w_O (q : Option Nat × Nat) : Int32 := if q.1 = none then -1 else nI q.2
theorem mp_spare (h : mA x σ) (a : Int32) : z_Ci 347 zm_Model_spare [.inr 63, .inl a] σ (fun r u => r = (to_spare x a).1 ∧ mA (to_spare x a).2 u ∧ zU σ u) := by
  have h0 := m_t0 h
  have h6 := h.1.c6
  have hn := h.1.n
  refine z_Ci_of (by decide) (Nat.le_of_ble_eq_true rfl) (fun Γ hd he => ?_)
  show z_J Γ zm_Model_spare 0 [some (.inr 63), some (.inl a), none, none, none, none, none] [] σ
  refine zb_Model_spare_0 (mc_isColumn h6 h0.1.2.1.2.1 a) (by omega) (fun r u hr => ?_)
  obtain ⟨rfl, rfl⟩ := hr
  refine zb_Model_spare_10 (fun k => ?_) (fun k => ?_)
  · rw [z_tf_eq0, Bool.not_eq_false] at k
    obtain ⟨c, hc, rfl⟩ := z_isn_t (by omega) k
    have et : to_spare x (nI c) = if (a_spk (x_E x) (x_s x) (x_v x) c (v_p (x_v x) c).length).1 = none then (-2, x) else (w_I (a_spk (x_E x) (x_s x) (x_v x) c (v_p (x_v x) c).length).1, x_row x [nI (a_spk (x_E x) (x_s x) (x_v x) c (v_p (x_v x) c).length).2]) := by
      unfold to_spare
      rw [if_pos k, nI_clamp (by omega)]
    rw [et] at he
    have hN := h.1.1.nd hc
    have hl : ∀ b, b ∈ v_p (x_v x) c → b < s_n (x_s x) := fun b hb => ((h.1.1.mm hc b).mp hb).1
    have hal := l_bits_12 (l := v_p (x_v x) c) hn
    have hl4 := h.1.1.l4 hc
    have hlen : ∀ k, (a_spk (x_E x) (x_s x) (x_v x) c k).2 ≤ 36 := by
      intro k
      induction k with
      | zero => exact Nat.zero_le _
      | succ k ih =>
        rw [a_spk]
        split
        · exact l_bt36 h.1.1 hc _
        · exact ih
    have hsome : ∀ k, k ≤ (v_p (x_v x) c).length → ∀ b, (a_spk (x_E x) (x_s x) (x_v x) c k).1 = some b → b ≤ 12 := by
      intro k
      induction k with
      | zero => intro _ b hb; exact absurd hb (by simp [a_spk])
      | succ k ih =>
        intro hk b hb
        rw [a_spk] at hb
        split at hb
        · have : (v_p (x_v x) c).getD k 0 = b := Option.some.inj hb
          have h2 := hl _ (l_getD_mem (show k < (v_p (x_v x) c).length by omega))
          omega
        · exact ih (by omega) b hb
    refine zb_Model_spare_15 (mc_inColumn h0.1.nb (by decide) (h0.1.I hc)) (by omega) (fun r u hr => ?_)
    obtain ⟨rfl, rfl⟩ := hr
    refine zb_Model_spare_24 ?_
    generalize hA : l_bits (v_p (x_v x) c) (s_n (x_s x)) = al at *
    have em : ∀ p, min p (v_p (x_v x) c).length = if p < (v_p (x_v x) c).length then p else (v_p (x_v x) c).length := fun p => by
      by_cases q : p < (v_p (x_v x) c).length
      · rw [if_pos q]; omega
      · rw [if_neg q]; omega
    refine zj_forS (b := 4) (fun p => [some (.inr 63), some (.inl (nI c)), some (.inl (nI al)), some (.inl (w_I (a_spk (x_E x) (x_s x) (x_v x) c (min p (v_p (x_v x) c).length)).1)), some (.inl (w_O (a_spk (x_E x) (x_s x) (x_v x) c (min p (v_p (x_v x) c).length)))), some (.inl (nI p)), none])
      (fun _ w => mX m_sO m_sK (z_pI σ 63 11 (nI 0)) w) (fun p w hp hI kk => ?_) (fun w hI => ?_) 0 (Nat.zero_le _) _ mX.rf
    · refine zb_Model_spare_33 (fun q => absurd q (nI_ge hp (by omega))) (fun _ => ?_)
      refine zb_Model_spare_39 ?_
      let st : Nat → Option Nat × Nat := fun b => if p < (v_p (x_v x) c).length ∧ (v_p (x_v x) c).getD p 0 < b then a_spk (x_E x) (x_s x) (x_v x) c (p + 1) else a_spk (x_E x) (x_s x) (x_v x) c (min p (v_p (x_v x) c).length)
      have st0 : st 0 = a_spk (x_E x) (x_s x) (x_v x) c (min p (v_p (x_v x) c).length) := if_neg (by omega)
      rw [← st0]
      refine zj_forS (b := s_n (x_s x)) (fun b => [some (.inr 63), some (.inl (nI c)), some (.inl (nI al)), some (.inl (w_I (st b).1)), some (.inl (w_O (st b))), some (.inl (nI p)), some (.inl (nI b))])
        (fun _ w => mX m_sO m_sK (z_pI σ 63 11 (nI 0)) w) (fun b w hb hI kk2 => ?_) (fun w hI => ?_) 0 (Nat.zero_le _) _ hI
      · have hw := (h0.low hI).1
        refine zb_Model_spare_42 (fun q => ?_) (fun _ => ?_)
        · rw [hw.1.2.1.1] at q
          exact absurd q (nI_ge hb (by omega))
        have skip : ∀ w', mX m_sO m_sK (z_pI σ 63 11 (nI 0)) w' → st (b + 1) = st b → z_J Γ zm_Model_spare 128 [some (.inr 63), some (.inl (nI c)), some (.inl (nI al)), some (.inl (w_I (st b).1)), some (.inl (w_O (st b))), some (.inl (nI p)), some (.inl (nI b))] [] w' := by
          intro w' hw' e
          refine zb_Model_spare_128 ?_
          rw [nI_add]
          have := kk2 w' hw'
          rw [e] at this
          exact this
        have off : ¬ (p < (v_p (x_v x) c).length ∧ (v_p (x_v x) c).getD p 0 = b) → st (b + 1) = st b := by
          intro q
          show (if _ then _ else _) = (if _ then _ else _)
          by_cases q2 : p < (v_p (x_v x) c).length ∧ (v_p (x_v x) c).getD p 0 < b
          · rw [if_pos q2, if_pos ⟨q2.1, by omega⟩]
          · rw [if_neg q2, if_neg (by omega)]
        refine zb_Model_spare_51 (mc_has al b (by omega) (by omega) w) (by omega) (fun r w2 hr => ?_)
        obtain ⟨rfl, rfl⟩ := hr
        have ebit : al.testBit b = decide (b ∈ v_p (x_v x) c) := by
          rw [← hA, l_bits_bit]
          simp [hb]
        refine zb_Model_spare_57 (fun q => ?_) (fun q => ?_)
        · rw [z_tf_eq0, ebit, decide_eq_false_iff_not] at q
          exact skip _ hI (off (fun z => q (z.2 ▸ l_getD_mem z.1)))
        rw [z_tf_eq0, ebit, Bool.not_eq_false, decide_eq_true_eq] at q
        obtain ⟨hbn, hbw, hbh⟩ := (h.1.1.mm hc b).mp q
        have epl : w2.1 64 (24 + b) = nI ((v_p (x_v x) c).idxOf b) := by rw [hw.1.fp hb hbw, hbh]
        have hidx := List.idxOf_lt_length_iff.mpr q
        refine zb_Model_spare_60 (k1 := 24 + b) ⟨nI_add _ _, by omega⟩ (fun q2 => ?_) (fun q2 => ?_)
        · rw [epl, zn_eq (by omega) (by omega)] at q2
          exact skip _ hI (off (fun z => q2 ((l_idx hN z.1).mp z.2)))
        rw [epl, zn_eq (by omega) (by omega)] at q2
        have hpl : p < (v_p (x_v x) c).length := by omega
        have hgp : (v_p (x_v x) c).getD p 0 = b := (l_idx hN hpl).mpr q2
        have esb : st b = a_spk (x_E x) (x_s x) (x_v x) c p := by
          show (if _ then _ else _) = _
          rw [if_neg (by omega), em, if_pos hpl]
        have esb1 : st (b + 1) = a_spk (x_E x) (x_s x) (x_v x) c (p + 1) := by
          show (if _ then _ else _) = _
          rw [if_pos ⟨hpl, by omega⟩]
        have e2p : 2 ^ b < 4096 := Nat.lt_of_lt_of_le (Nat.pow_lt_pow_right (by decide) (show b < 12 by omega)) (by decide)
        have esp : a_spk (x_E x) (x_s x) (x_v x) c (p + 1) = if l_ho (x_E x) (x_s x) (v_y (x_v x)) c (l_bt (v_p (x_v x) c) (2 ^ b)) = true ∧ ((a_spk (x_E x) (x_s x) (x_v x) c p).1 = none ∨ (a_spk (x_E x) (x_s x) (x_v x) c p).2 < l_h (s_t (x_s x)) (l_bt (v_p (x_v x) c) (2 ^ b))) then (some b, l_h (s_t (x_s x)) (l_bt (v_p (x_v x) c) (2 ^ b))) else a_spk (x_E x) (x_s x) (x_v x) c p := by rw [a_spk, hgp]
        have hb36 := l_bt36 h.1.1 hc (2 ^ b)
        have hhb := mc_isHeldBut hw.2.2.1.1 hw.1.Bk (a := 64) (by decide) (by decide) (hw.1.C hc) hw.1.fy (by rw [hw.2.2.1.2]; decide) (m := 2 ^ b) (by omega)
        refine zb_Model_spare_75 (dc := 342) (P := fun r u => r = z_tf (l_ho (x_E x) (x_s x) (v_y (x_v x)) c (l_bt (v_p (x_v x) c) (2 ^ b))) ∧ mF (fun q => q = 75) w2 u) (by rw [zn_shl (by omega)]; exact hhb) (by omega) (fun r w3 hr => ?_)
        obtain ⟨rfl, hF3⟩ := hr
        have f3 : mX m_sO m_sK (z_pI σ 63 11 (nI 0)) w3 := mX.tr hI (hF3.X2 (by unfold m_sO; omega))
        have hw3 := (h0.low f3).1
        refine zb_Model_spare_88 (fun q3 => ?_) (fun q3 => ?_)
        · rw [z_tf_eq0] at q3
          refine skip _ f3 ?_
          rw [esb, esb1, esp, if_neg (fun z => by rw [q3] at z; exact absurd z.1 (by decide))]
        rw [z_tf_eq0, Bool.not_eq_false] at q3
        have hdl2 := n_dif_le al (2 ^ b)
        have hth : z_Ci 1 zm_Model_thickOf [.inr 63, .inl (nI al &&& ((nI 1 <<< (nI b &&& 31)) ^^^ (-1)))] w3 (z_is (nI (l_h (s_t (x_s x)) (l_bt (v_p (x_v x) c) (2 ^ b)))) w3) := by
          rw [zn_shl (by omega), zn_andn, ← m_thk_bt hN hl, hA]
          exact mc_thickOf hw3.1.Bk (by omega)
        refine zb_Model_spare_91 hth (by omega) (fun r w4 hr => ?_)
        obtain ⟨rfl, rfl⟩ := hr
        have hcmp : w_O (st b) < nI (l_h (s_t (x_s x)) (l_bt (v_p (x_v x) c) (2 ^ b))) ↔ ((a_spk (x_E x) (x_s x) (x_v x) c p).1 = none ∨ (a_spk (x_E x) (x_s x) (x_v x) c p).2 < l_h (s_t (x_s x)) (l_bt (v_p (x_v x) c) (2 ^ b))) := by
          rw [esb]
          unfold w_O
          have h36p := hlen p
          by_cases q4 : (a_spk (x_E x) (x_s x) (x_v x) c p).1 = none
          · rw [if_pos q4]
            refine ⟨fun _ => Or.inl q4, fun _ => ?_⟩
            have := zn_ge0 (n := l_h (s_t (x_s x)) (l_bt (v_p (x_v x) c) (2 ^ b))) (by omega)
            exact Int32.lt_of_lt_of_le (by decide) this
          · rw [if_neg q4, zn_lt (by omega) (by omega)]
            exact ⟨fun z => Or.inr z, fun z => z.elim (fun z => absurd z q4) id⟩
        refine zb_Model_spare_103 (fun q4 => ?_) (fun q4 => ?_)
        · rw [hcmp] at q4
          refine zb_Model_spare_111 hth (by omega) (fun r w5 hr => ?_)
          obtain ⟨rfl, rfl⟩ := hr
          refine zb_Model_spare_126 (zb_Model_spare_128 ?_)
          rw [nI_add]
          have := kk2 w5 f3
          rw [esb1, esp, if_pos ⟨q3, q4⟩] at this
          exact this
        · rw [hcmp] at q4
          refine zb_Model_spare_108 (skip _ f3 ?_)
          rw [esb, esb1, esp, if_neg (fun z => q4 z.2)]
      · have hw := (h0.low hI).1
        refine zb_Model_spare_42 (fun _ => ?_) (fun q => ?_)
        · refine zb_Model_spare_134 ?_
          rw [nI_add]
          have e : st (s_n (x_s x)) = a_spk (x_E x) (x_s x) (x_v x) c (min (p + 1) (v_p (x_v x) c).length) := by
            show (if _ then _ else _) = _
            by_cases q : p < (v_p (x_v x) c).length
            · have := hl _ (l_getD_mem q)
              rw [if_pos ⟨q, this⟩, show min (p + 1) (v_p (x_v x) c).length = p + 1 by omega]
            · rw [if_neg (fun z => q z.1), show min p (v_p (x_v x) c).length = min (p + 1) (v_p (x_v x) c).length by omega]
          rw [e]
          exact kk w hI
        · rw [hw.1.2.1.1] at q
          exact absurd (Int32.le_refl _) q
    · refine zb_Model_spare_33 (fun _ => ?_) (fun q => absurd (Int32.le_refl _) q)
      rw [show min 4 (v_p (x_v x) c).length = (v_p (x_v x) c).length by omega]
      have ew : w_I (a_spk (x_E x) (x_s x) (x_v x) c (v_p (x_v x) c).length).1 = -1 ↔ (a_spk (x_E x) (x_s x) (x_v x) c (v_p (x_v x) c).length).1 = none := w_I_n (L := 12) (hsome _ (Nat.le_refl _)) (by decide)
      refine zb_Model_spare_140 (fun q => ?_) (fun q => ?_)
      · rw [ew] at q
        rw [show w_O (a_spk (x_E x) (x_s x) (x_v x) c (v_p (x_v x) c).length) = nI (a_spk (x_E x) (x_s x) (x_v x) c (v_p (x_v x) c).length).2 from if_neg q]
        refine zb_Model_spare_148 (mc_tell mRow.nil (by decide) _) (by omega) (fun u2 h2 => ?_)
        obtain ⟨r1, r2⟩ := h2
        refine zb_Model_spare_159 ?_
        rw [he, if_neg q]
        exact ⟨_, rfl, rfl, h.row (mQ.t0.tr ((mQ.of hI).tr (mQ.r0.tr (mQ.tl r2)))) r1⟩
      · rw [ew] at q
        refine zb_Model_spare_145 ?_
        rw [he, if_pos q]
        exact ⟨_, rfl, rfl, (h0.low hI).1, (mW.zU m_t0W).tr (h0.low hI).2⟩
  · rw [z_tf_eq0] at k
    refine zb_Model_spare_13 ?_
    rw [he, to_spare, if_neg (by rw [k]; decide)]
    exact ⟨_, rfl, rfl, h0, mW.zU m_t0W⟩
end
