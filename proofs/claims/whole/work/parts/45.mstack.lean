/-! orders of some books in which a column of them holds -/
def a_stk (E : (Nat → Int32) → Int32) (s : aS) (dy c : Nat) : Nat → Nat → List Nat → Nat × List Nat → Nat × List Nat
  | 0, _, pre, q => if l_ho E s dy c pre = true then (q.1 + 1, if q.1 = 0 then pre else q.2) else q
  | f + 1, left, pre, q => (List.range (s_n s)).foldl (fun q b => if left.testBit b = true then a_stk E s dy c f (n_dif left (2 ^ b)) (pre ++ [b]) q else q) q
def to_stack (x : tX) (a b : Int32) : Int32 × tX := if (nI 0 ≤ a ∧ a ≤ nI (2 ^ s_n (x_s x) - 1)) ∧ z_isn b (s_c (x_s x)) = true then (if 1 ≤ n_bc a.toNatClampNeg ∧ n_bc a.toNatClampNeg ≤ 4 then (nI (a_stk (x_E x) (x_s x) (v_y (x_v x)) b.toNatClampNeg (n_bc a.toNatClampNeg) a.toNatClampNeg [] (0, [])).1, x_row x (if (a_stk (x_E x) (x_s x) (v_y (x_v x)) b.toNatClampNeg (n_bc a.toNatClampNeg) a.toNatClampNeg [] (0, [])).1 = 0 then [] else (a_stk (x_E x) (x_s x) (v_y (x_v x)) b.toNatClampNeg (n_bc a.toNatClampNeg) a.toNatClampNeg [] (0, [])).2.map nI)) else (-2, x)) else (-1, x)
theorem a_stk_le (E : (Nat → Int32) → Int32) (s : aS) (hn : s_n s ≤ 12) (dy c : Nat) : ∀ f left pre q, (a_stk E s dy c f left pre q).1 ≤ q.1 + 12 ^ f
  | 0, left, pre, q => by
    rw [a_stk]
    split
    · exact Nat.le_refl _
    · omega
  | f + 1, left, pre, q => by
    rw [a_stk]
    have key : ∀ n, n ≤ 12 → ((List.range n).foldl (fun q b => if left.testBit b = true then a_stk E s dy c f (n_dif left (2 ^ b)) (pre ++ [b]) q else q) q).1 ≤ q.1 + n * 12 ^ f := by
      intro n
      induction n with
      | zero => intro _; simp
      | succ n ih =>
        intro hn'
        have h1 := ih (by omega)
        have hz : 0 < 12 ^ f := Nat.pow_pos (by decide)
        rw [List.range_succ, List.foldl_append, List.foldl_cons, List.foldl_nil, Nat.succ_mul]
        split
        · have h2 := a_stk_le E s hn dy c f (n_dif left (2 ^ n)) (pre ++ [n]) ((List.range n).foldl (fun q b => if left.testBit b = true then a_stk E s dy c f (n_dif left (2 ^ b)) (pre ++ [b]) q else q) q)
          omega
        · omega
    have h := key (s_n s) hn
    have h2 : s_n s * 12 ^ f ≤ 12 * 12 ^ f := Nat.mul_le_mul_right _ hn
    rw [Nat.pow_succ, Nat.mul_comm (12 ^ f) 12]
    omega
theorem m_thk1_dif {m b : Nat} (hb : m.testBit b = true) : ∀ n, b < n → m_thk (fun _ => 1) (n_dif m (2 ^ b)) n + 1 = m_thk (fun _ => 1) m n := by
  have same : ∀ n, n ≤ b → m_thk (fun _ => 1) (n_dif m (2 ^ b)) n = m_thk (fun _ => 1) m n := by
    intro n
    induction n with
    | zero => intro _; rfl
    | succ n ih =>
      intro h
      rw [m_thk, m_thk, ih (by omega), n_dif_bit, Nat.testBit_two_pow]
      have e : decide (b = n) = false := by simp; omega
      rw [e]
      simp
  intro n
  induction n with
  | zero => intro h; omega
  | succ n ih =>
    intro h
    rw [m_thk, m_thk, n_dif_bit, Nat.testBit_two_pow]
    by_cases e : b = n
    · subst e
      rw [same b (Nat.le_refl _), hb]
      simp
    · have := ih (by omega)
      have e2 : decide (b = n) = false := by simp; omega
      rw [e2]
      simp only [Bool.not_false, Bool.and_true]
      omega
theorem n_bc_dif {m b : Nat} (hb : m.testBit b = true) (h12 : b < 12) : n_bc (n_dif m (2 ^ b)) + 1 = n_bc m := m_thk1_dif hb 12 h12
theorem n_bc_0 {m : Nat} (hm : m < 4096) : n_bc m = 0 ↔ m = 0 := by
  constructor
  · intro h
    apply Nat.eq_of_testBit_eq
    intro i
    rw [Nat.zero_testBit]
    cases hi : m.testBit i
    · rfl
    · have h12 : i < 12 := by
        rcases Nat.lt_or_ge i 12 with q | q
        · exact q
        · rw [Nat.testBit_lt_two_pow (Nat.lt_of_lt_of_le (show m < 2 ^ 12 from hm) (Nat.pow_le_pow_right (by decide) q))] at hi
          exact absurd hi (by decide)
      have := n_bc_dif hi h12
      omega
  · intro h
    rw [h]
    decide
section
variable {x : tX} {σ u : zS}
/-- what orders have been found, of so many books -/
def mSt (tot : Nat) (q : Nat × List Nat) (σ : zS) : Prop := σ.1 63 38 = nI q.1 ∧ (q.1 ≠ 0 → q.2.length = tot ∧ ∀ i, i < tot → σ.1 82 i = nI (q.2.getD i 0))
theorem mc_goStack (h : mA x σ) {c : Nat} (hc : c < s_c (x_s x)) (tot : Nat) (ht : tot ≤ 4) : ∀ (f left : Nat) (pre : List Nat) (q : Nat × List Nat) (τ : zS), mX m_sO m_sK σ τ → left < 4096 → n_bc left = f → pre.length + f = tot → mP pre τ → (∀ b, b ∈ pre → b < s_n (x_s x)) → mSt tot q τ → q.1 + 12 ^ f ≤ 1000000 → z_Cv (345 + f) zm_Model_goStack [.inr 63, .inl (nI left), .inl (nI c), .inl (nI pre.length)] τ (fun u => mX m_sO m_sK σ u ∧ mP pre u ∧ mSt tot (a_stk (x_E x) (x_s x) (v_y (x_v x)) c f left pre q) u)
  | 0, left, pre, q, τ, hF, hl, hb, hk, hP, hpn, hS, hq => by
    have hτ := (h.low hF).1
    have h6 := h.1.c6
    have e0 : (0 : Int32) = nI 0 := rfl
    have hl0 : left = 0 := (n_bc_0 hl).mp hb
    refine z_Cv_of (by decide) (Nat.le_of_ble_eq_true rfl) (fun Γ hd he => ?_)
    show z_J Γ zm_Model_goStack 0 [some (.inr 63), some (.inl (nI left)), some (.inl (nI c)), some (.inl (nI pre.length)), none] [] τ
    refine zb_Model_goStack_0 (fun p => absurd (by rw [hl0]; rfl) p) (fun _ => ?_)
    have hdp := mc_doesPileHold hτ.2.2.1.1 hτ.1.Bk hP (by omega) (fun k hk => hpn _ (l_getD_mem hk)) c (v_y (x_v x))
    refine zb_Model_goStack_4 (k1 := 48) (dc := 341) (P := fun r u => r = z_tf (l_ho (x_E x) (x_s x) (v_y (x_v x)) c pre) ∧ mF (fun _ => False) τ u) (z_ixn (by omega)) (by rw [hτ.1.fy]; exact hdp) (by omega) (fun r u hr => ?_)
    obtain ⟨rfl, hF2⟩ := hr
    have f2 : mX m_sO m_sK σ u := mX.tr hF (hF2.X2 (fun _ h => h.elim))
    have hP2 : mP pre u := by
      unfold mP
      rw [(hF2.1 75 (by decide) (by decide) id).1]
      exact hP
    have hS2 : mSt tot q u := by
      unfold mSt
      rw [hF2.2.1 38 (by omega) (by decide), (hF2.1 82 (by decide) (by decide) id).1]
      exact hS
    refine zb_Model_goStack_17 (fun p => ?_) (fun p => ?_)
    · rw [z_tf_eq0, Bool.not_eq_false] at p
      refine zb_Model_goStack_21 ?_
      have ea : a_stk (x_E x) (x_s x) (v_y (x_v x)) c 0 left pre q = (q.1 + 1, if q.1 = 0 then pre else q.2) := by rw [a_stk, if_pos p]
      rw [ea] at he
      have hlen : pre.length = tot := by omega
      by_cases hq0 : q.1 = 0
      · rw [if_pos hq0] at he
        refine zj_forS (b := pre.length) (fun i => [some (.inr 63), none, none, some (.inl (nI pre.length)), some (.inl (nI i))])
          (fun i w => (∀ j, j < i → w.1 82 j = nI (pre.getD j 0)) ∧ z_fr (fun q => q = 82) u w) (fun i w hi hI kk => ?_) (fun w hI => ?_) 0 (Nat.zero_le _) _ ⟨fun _ q => absurd q (by omega), z_fr.rf⟩
        · obtain ⟨q1, q2⟩ := hI
          refine zb_Model_goStack_24 (fun p => absurd p (nI_ge hi (by omega))) (fun _ => ?_)
          have e38 : w.1 63 38 = 0 := by rw [(q2 63 (by decide)).1, hS2.1, hq0]; rfl
          refine zb_Model_goStack_30 (fun p => absurd e38 p) (fun _ => ?_)
          refine zb_Model_goStack_37 (k1 := i) (k2 := i) (z_ixn (by omega)) (z_ixn (by omega)) ?_
          rw [nI_add]
          refine kk _ ⟨fun j hj => ?_, q2.pI rfl⟩
          by_cases e : j = i
          · subst e
            rw [z_pI_at, (q2 75 (by decide)).1]
            exact hP2 j hi
          · rw [z_pI_ne2 e]
            exact q1 j (by omega)
        · obtain ⟨q1, q2⟩ := hI
          refine zb_Model_goStack_24 (fun _ => ?_) (fun p => absurd (Int32.le_refl _) p)
          refine zb_Model_goStack_57 ?_
          have e38 : w.1 63 38 = nI q.1 := by rw [(q2 63 (by decide)).1]; exact hS2.1
          rw [he, e38, nI_add]
          have f3 : mX m_sO m_sK u w := q2.X (by decide) (by unfold m_sO; omega)
          refine ⟨rfl, (f2.tr f3).pK (by unfold m_sK; omega), ?_, z_pI_at _ _ _ _, fun _ => ⟨hlen, fun i hi => ?_⟩⟩
          · unfold mP
            rw [z_pI_ne (by decide), (q2 75 (by decide)).1]
            exact hP2
          · rw [z_pI_ne (by decide)]
            exact q1 i (by omega)
      · rw [if_neg hq0] at he
        have done : z_J Γ zm_Model_goStack 57 [some (.inr 63), none, none, none, none] [] u := by
          refine zb_Model_goStack_57 ?_
          rw [he, hS2.1, nI_add]
          refine ⟨rfl, f2.pK (by unfold m_sK; omega), ?_, z_pI_at _ _ _ _, fun _ => ?_⟩
          · unfold mP
            rw [z_pI_ne (by decide)]
            exact hP2
          · rw [z_pI_ne (by decide)]
            exact hS2.2 hq0
        refine zb_Model_goStack_24 (fun _ => done) (fun _ => ?_)
        refine zb_Model_goStack_30 (fun _ => done) (fun p2 => ?_)
        rw [hS2.1, e0, zn_eq (by omega) (by omega)] at p2
        exact absurd p2 hq0
    · rw [z_tf_eq0] at p
      refine zb_Model_goStack_20 ?_
      have ea : a_stk (x_E x) (x_s x) (v_y (x_v x)) c 0 left pre q = q := by rw [a_stk, if_neg (by rw [p]; decide)]
      rw [he, ea]
      exact ⟨rfl, f2, hP2, hS2⟩
  | f + 1, left, pre, q, τ, hF, hl, hb, hk, hP, hpn, hS, hq => by
    have hn := h.1.n
    have e0 : (0 : Int32) = nI 0 := rfl
    refine z_Cv_of (by decide) (Nat.le_of_ble_eq_true rfl) (fun Γ hd he => ?_)
    show z_J Γ zm_Model_goStack 0 [some (.inr 63), some (.inl (nI left)), some (.inl (nI c)), some (.inl (nI pre.length)), none] [] τ
    refine zb_Model_goStack_0 (fun _ => ?_) (fun p => ?_)
    · refine zb_Model_goStack_68 ?_
      rw [a_stk] at he
      let st : Nat → Nat × List Nat := fun i => (List.range i).foldl (fun q b => if left.testBit b = true then a_stk (x_E x) (x_s x) (v_y (x_v x)) c f (n_dif left (2 ^ b)) (pre ++ [b]) q else q) q
      have hst : ∀ i, st (i + 1) = if left.testBit i = true then a_stk (x_E x) (x_s x) (v_y (x_v x)) c f (n_dif left (2 ^ i)) (pre ++ [i]) (st i) else st i := fun i => by
        show (List.range (i + 1)).foldl _ q = _
        rw [List.range_succ, List.foldl_append, List.foldl_cons, List.foldl_nil]
      have hle : ∀ i, (st i).1 ≤ q.1 + i * 12 ^ f := by
        intro i
        induction i with
        | zero => simp [st]
        | succ i ih =>
          have hz : 0 < 12 ^ f := Nat.pow_pos (by decide)
          rw [hst, Nat.succ_mul]
          split
          · have := a_stk_le (x_E x) (x_s x) hn (v_y (x_v x)) c f (n_dif left (2 ^ i)) (pre ++ [i]) (st i)
            omega
          · omega
      refine zj_forS (b := s_n (x_s x)) (fun i => [some (.inr 63), some (.inl (nI left)), some (.inl (nI c)), some (.inl (nI pre.length)), some (.inl (nI i))])
        (fun i w => mX m_sO m_sK σ w ∧ mP pre w ∧ mSt tot (st i) w) (fun i w hi hI kk => ?_) (fun w hI => ?_) 0 (Nat.zero_le _) _ ⟨hF, hP, hS⟩
      · obtain ⟨q1, q2, q3⟩ := hI
        have hw := (h.low q1).1
        refine zb_Model_goStack_71 (fun p => ?_) (fun _ => ?_)
        · rw [hw.1.2.1.1] at p
          exact absurd p (nI_ge hi (by omega))
        refine zb_Model_goStack_80 (mc_has left i (by omega) (by omega) w) (by omega) (fun r w2 hr => ?_)
        obtain ⟨rfl, rfl⟩ := hr
        refine zb_Model_goStack_86 (fun p => ?_) (fun p => ?_)
        · rw [z_tf_eq0, Bool.not_eq_false] at p
          have hdl := n_dif_le left (2 ^ i)
          have hbd := n_bc_dif p (show i < 12 by omega)
          have hP' : mP (pre ++ [i]) (z_pI w2 75 pre.length (nI i)) := by
            intro k hk2
            simp only [List.length_append, List.length_cons, List.length_nil] at hk2
            by_cases e : k = pre.length
            · subst e
              rw [z_pI_at]
              simp
            · rw [z_pI_ne2 e]
              have hk' : k < pre.length := by omega
              have := q2 k hk'
              simp only [List.getD_eq_getElem?_getD, List.getElem?_append_left hk'] at this ⊢
              exact this
          have hrec := mc_goStack h hc tot ht f (n_dif left (2 ^ i)) (pre ++ [i]) (st i) (z_pI w2 75 pre.length (nI i)) (q1.pR (by unfold m_sO; omega) (by decide)) (by omega) (by omega) (by simp; omega) hP' (fun b hb' => by
            rcases List.mem_append.mp hb' with z | z
            · exact hpn b z
            · rw [List.mem_singleton.mp z]; exact hi) (by
            unfold mSt
            rw [z_pI_ne (by decide), z_pI_ne (by decide)]
            exact q3) (by
            have h1 := hle i
            have h2 : (i + 1) * 12 ^ f ≤ 12 * 12 ^ f := Nat.mul_le_mul_right _ (by omega)
            rw [Nat.succ_mul] at h2
            rw [Nat.pow_succ, Nat.mul_comm (12 ^ f) 12] at hq
            omega)
          refine zb_Model_goStack_92 (k1 := pre.length) (dc := 345 + f) (P := fun u => mX m_sO m_sK σ u ∧ mP (pre ++ [i]) u ∧ mSt tot (a_stk (x_E x) (x_s x) (v_y (x_v x)) c f (n_dif left (2 ^ i)) (pre ++ [i]) (st i)) u) (z_ixn (by omega)) ?_ (by omega) (fun u2 h2 => ?_)
          · rw [zn_shl (by omega), zn_andn, nI_add]
            simp only [List.length_append, List.length_cons, List.length_nil] at hrec
            exact hrec
          · obtain ⟨g1, g2, g3⟩ := h2
            refine zb_Model_goStack_116 ?_
            rw [nI_add]
            refine kk u2 ⟨g1, fun k hk' => ?_, ?_⟩
            · have := g2 k (by simp; omega)
              simp only [List.getD_eq_getElem?_getD, List.getElem?_append_left hk'] at this ⊢
              exact this
            · rw [hst, if_pos p]
              exact g3
        · rw [z_tf_eq0] at p
          refine zb_Model_goStack_89 (zb_Model_goStack_116 ?_)
          rw [nI_add]
          refine kk w2 ⟨q1, q2, ?_⟩
          rw [hst, if_neg (by rw [p]; decide)]
          exact q3
      · have hw := (h.low hI.1).1
        refine zb_Model_goStack_71 (fun _ => ?_) (fun p => ?_)
        · refine zb_Model_goStack_122 ?_
          rw [he]
          exact ⟨rfl, hI⟩
        · rw [hw.1.2.1.1] at p
          exact absurd (Int32.le_refl _) p
    · rw [e0, zn_eq (by omega) (by omega)] at p
      have := (n_bc_0 hl).mpr p
      omega
theorem mp_stack (h : mA x σ) (a b : Int32) : z_Ci 352 zm_Model_stack [.inr 63, .inl a, .inl b] σ (fun r u => r = (to_stack x a b).1 ∧ mA (to_stack x a b).2 u ∧ zU σ u) := by
  have h0 := m_t0 h
  have h6 := h.1.c6
  have hn := h.1.n
  have hp : 2 ^ s_n (x_s x) ≤ 2 ^ 12 := Nat.pow_le_pow_right (by decide) hn
  have hp1 : 1 ≤ 2 ^ s_n (x_s x) := Nat.one_le_two_pow
  refine z_Ci_of (by decide) (Nat.le_of_ble_eq_true rfl) (fun Γ hd he => ?_)
  show z_J Γ zm_Model_stack 0 [some (.inr 63), some (.inl a), some (.inl b), none, none] [] σ
  have no : ¬ ((nI 0 ≤ a ∧ a ≤ nI (2 ^ s_n (x_s x) - 1)) ∧ z_isn b (s_c (x_s x)) = true) → z_J Γ zm_Model_stack 29 [none, none, none, none, none] [] (z_pI σ 63 11 (nI 0)) := fun q => by
    refine zb_Model_stack_29 ?_
    rw [he, to_stack, if_neg q]
    exact ⟨_, rfl, rfl, h0, mW.zU m_t0W⟩
  refine zb_Model_stack_0 (mc_in _ _ _ _) (by omega) (fun r u hr => ?_)
  obtain ⟨rfl, rfl⟩ := hr
  rw [h0.1.2.1.1, zn_shl (by omega), zn_pred (by omega)]
  refine zb_Model_stack_18 (fun k => no (fun q => ?_)) (fun k => ?_)
  · rw [z_tf_eq0] at k
    simp [q.1.1, q.1.2] at k
  rw [z_tf_eq0, Bool.not_eq_false, Bool.and_eq_true, decide_eq_true_eq, decide_eq_true_eq] at k
  refine zb_Model_stack_21 (mc_isColumn h6 h0.1.2.1.2.1 b) (by omega) (fun r u hr => ?_)
  obtain ⟨rfl, rfl⟩ := hr
  refine zb_Model_stack_26 (fun k2 => ?_) (fun k2 => no (fun q => ?_))
  · rw [z_tf_eq0, Bool.not_eq_false] at k2
    obtain ⟨m, hm, rfl⟩ := z_0to (by omega) k
    obtain ⟨c, hc, rfl⟩ := z_isn_t (by omega) k2
    have hbl := n_bc_le m
    have et : to_stack x (nI m) (nI c) = if 1 ≤ n_bc m ∧ n_bc m ≤ 4 then (nI (a_stk (x_E x) (x_s x) (v_y (x_v x)) c (n_bc m) m [] (0, [])).1, x_row x (if (a_stk (x_E x) (x_s x) (v_y (x_v x)) c (n_bc m) m [] (0, [])).1 = 0 then [] else (a_stk (x_E x) (x_s x) (v_y (x_v x)) c (n_bc m) m [] (0, [])).2.map nI)) else (-2, x) := by
      unfold to_stack
      rw [if_pos ⟨k, k2⟩, nI_clamp (by omega), nI_clamp (by omega)]
    rw [et] at he
    refine zb_Model_stack_31 (mc_in _ _ _ _) (by omega) (fun r u hr => ?_)
    obtain ⟨rfl, rfl⟩ := hr
    have ebc : z_bc (nI m) = nI (n_bc m) := zn_bc m (by omega)
    rw [ebc]
    refine zb_Model_stack_42 (fun k3 => ?_) (fun k3 => ?_)
    · rw [z_tf_eq0, Bool.not_eq_false, Bool.and_eq_true, decide_eq_true_eq, decide_eq_true_eq, zn_le (by omega) (by omega), zn_le (by omega) (by omega)] at k3
      rw [if_pos k3] at he
      have hgo := mc_goStack h0 hc (n_bc m) k3.2 (n_bc m) m [] (0, []) (z_pI (z_pI σ 63 11 (nI 0)) 63 38 (nI 0)) (mX.rf.pK (by unfold m_sK; omega)) (by omega) rfl (by simp) (fun k hk => absurd hk (by simp)) (fun b hb => absurd hb (by simp)) ⟨z_pI_at _ _ _ _, fun z => absurd rfl z⟩ (by
        have : (12 : Nat) ^ n_bc m ≤ 12 ^ 4 := Nat.pow_le_pow_right (by decide) k3.2
        show 0 + 12 ^ n_bc m ≤ 1000000
        omega)
      refine zb_Model_stack_48 hgo (by omega) (fun u2 h2 => ?_)
      obtain ⟨g1, g2, g3⟩ := h2
      refine zb_Model_stack_60 ?_
      have hcl := a_stk_le (x_E x) (x_s x) hn (v_y (x_v x)) c (n_bc m) m [] (0, [])
      have hpw : (12 : Nat) ^ n_bc m ≤ 12 ^ 4 := Nat.pow_le_pow_right (by decide) k3.2
      generalize a_stk (x_E x) (x_s x) (v_y (x_v x)) c (n_bc m) m [] (0, []) = q at *
      have hcl' : q.1 ≤ 20736 := by
        have : q.1 ≤ 0 + 12 ^ n_bc m := hcl
        omega
      have e0 : (0 : Int32) = nI 0 := rfl
      have fin : ∀ w l, mRow l w → mX (fun q => q = 69) (fun k => k = 10) u2 w → l = (if q.1 = 0 then [] else q.2.map nI) → z_J Γ zm_Model_stack 98 [some (.inr 63), none, none, none, none] [] w := by
        intro w l r1 r2 hl
        refine zb_Model_stack_98 ?_
        have e38 : w.1 63 38 = nI q.1 := by rw [r2.2.1 38 (by decide)]; exact g3.1
        rw [he, e38, ← hl]
        exact ⟨_, rfl, rfl, h.row (mQ.t0.tr ((mQ.of g1).tr (mQ.tl r2))) r1⟩
      have hr0 : mX (fun q => q = 69) (fun k => k = 10) u2 (z_pI u2 63 10 (nI 0)) := mX.rf.pK rfl
      by_cases hq0 : q.1 = 0
      · refine zb_Model_stack_68 (fun p => ?_) (fun _ => ?_)
        · rw [zn_le (by omega) (by omega)] at p
          omega
        refine zb_Model_stack_74 (fun _ => ?_) (fun p => ?_)
        · exact fin _ [] mRow.nil hr0 (by rw [if_pos hq0])
        · rw [z_pI_ne2 (by decide), g3.1, hq0] at p
          exact absurd (Int32.le_refl _) p
      · obtain ⟨hql, hqv⟩ := g3.2 hq0
        refine zj_forS (b := n_bc m) (fun i => [some (.inr 63), none, none, some (.inl (nI (n_bc m))), some (.inl (nI i))])
          (fun i w => mRow ((q.2.take i).map nI) w ∧ mX (fun q => q = 69) (fun k => k = 10) u2 w) (fun i w hi hI kk => ?_) (fun w hI => ?_) 0 (Nat.zero_le _) _ ⟨mRow.nil, hr0⟩
        · obtain ⟨q1, q2⟩ := hI
          have e38 : w.1 63 38 = nI q.1 := by rw [q2.2.1 38 (by decide)]; exact g3.1
          refine zb_Model_stack_68 (fun p => absurd p (nI_ge hi (by omega))) (fun _ => ?_)
          refine zb_Model_stack_74 (fun p => ?_) (fun _ => ?_)
          · rw [e38, e0, zn_le (by omega) (by omega)] at p
            omega
          refine zb_Model_stack_81 (k1 := i) (z_ixn (by omega)) (mc_tell q1 (by simp; omega) _) (by omega) (fun w2 h2 => ?_)
          obtain ⟨r1, r2⟩ := h2
          refine zb_Model_stack_92 ?_
          rw [nI_add]
          refine kk w2 ⟨?_, q2.tr r2⟩
          have e82 : w.1 82 i = nI (q.2.getD i 0) := by rw [(q2.1 82 (by decide) (by decide)).1]; exact hqv i hi
          rw [e82] at r1
          have et2 : (q.2.take (i + 1)).map nI = (q.2.take i).map nI ++ [nI (q.2.getD i 0)] := by
            rw [List.take_succ, List.map_append, List.getD_eq_getElem?_getD, List.getElem?_eq_getElem (show i < q.2.length by omega)]
            rfl
          rw [et2]
          exact r1
        · refine zb_Model_stack_68 (fun _ => ?_) (fun p => absurd (Int32.le_refl _) p)
          refine fin w _ hI.1 hI.2 ?_
          rw [if_neg hq0, List.take_of_length_le (by omega)]
    · rw [z_tf_eq0] at k3
      refine zb_Model_stack_45 ?_
      rw [he, if_neg (fun z => by simp [zn_le (show 1 < 2147483648 by omega) (show n_bc m < 2147483648 by omega), zn_le (show n_bc m < 2147483648 by omega) (show 4 < 2147483648 by omega), z.1, z.2] at k3)]
      exact ⟨_, rfl, rfl, h0, mW.zU m_t0W⟩
  · rw [z_tf_eq0] at k2
    rw [k2] at q
    exact absurd q.2 (by decide)
end
