/-! the program: stack, rests, years -/
theorem zn_hi0 : ∀ n, n < 13 → -(nI (2 ^ n)) = nI ((2 ^ (32 - n) - 1) <<< n) := by decide +kernel
theorem zn_z {k : Nat} (h : k < 4294967296) : nI k = 0 ↔ k = 0 := by
  constructor
  · intro e
    have h1 := congrArg (fun z : Int32 => z.toBitVec.toNat) e
    change (BitVec.ofNat 32 k).toNat = 0 at h1
    rw [BitVec.toNat_ofNat] at h1
    omega
  · intro e
    subst e
    rfl
theorem zn_hi {n : Nat} (hn : n ≤ 12) (a : Int32) : a &&& -(nI (2 ^ n)) = 0 ↔ (nI 0 ≤ a ∧ a ≤ nI (2 ^ n - 1)) := by
  have hp : 2 ^ n ≤ 4096 := Nat.pow_le_pow_right (n := 2) (by decide) hn
  have hp1 : 1 ≤ 2 ^ n := Nat.one_le_two_pow
  obtain ⟨m, hm, e⟩ : ∃ m, m < 4294967296 ∧ a = nI m := ⟨a.toBitVec.toNat, a.toBitVec.isLt, zn_nat a⟩
  subst e
  have h1 : nI m &&& -(nI (2 ^ n)) = 0 ↔ m < 2 ^ n := by
    rw [zn_hi0 n (by omega), zn_and, zn_z (Nat.lt_of_le_of_lt Nat.and_le_left hm)]
    constructor
    · intro h
      rcases Nat.lt_or_ge m (2 ^ n) with q | q
      · exact q
      · exfalso
        obtain ⟨i, hi, hb⟩ := Nat.exists_ge_and_testBit_of_ge_two_pow q
        have hi32 : i < 32 := by
          rcases Nat.lt_or_ge i 32 with z | z
          · exact z
          · rw [Nat.testBit_lt_two_pow (Nat.lt_of_lt_of_le hm (show 2 ^ 32 ≤ 2 ^ i from Nat.pow_le_pow_right (by decide) z))] at hb
            exact absurd hb (by decide)
        have h2 := congrArg (fun z => z.testBit i) h
        change (m &&& (2 ^ (32 - n) - 1) <<< n).testBit i = Nat.testBit 0 i at h2
        rw [Nat.testBit_and, hb, Nat.testBit_shiftLeft, Nat.testBit_two_pow_sub_one] at h2
        simp at h2
        omega
    · intro h
      apply Nat.eq_of_testBit_eq
      intro i
      rw [Nat.testBit_and, Nat.testBit_shiftLeft, Nat.testBit_two_pow_sub_one]
      rcases Nat.lt_or_ge i n with z | z
      · have : decide (i ≥ n) = false := decide_eq_false (by omega)
        rw [this]
        simp
      · rw [Nat.testBit_lt_two_pow (Nat.lt_of_lt_of_le h (Nat.pow_le_pow_right (by decide) z))]
        simp
  rw [h1]
  constructor
  · intro h
    exact ⟨nI_le (Nat.zero_le _) (by omega), nI_le (by omega) (by omega)⟩
  · intro h
    obtain ⟨j, hj, e⟩ := z_0to (by omega) h
    have e2 := congrArg (fun z : Int32 => z.toBitVec.toNat) e
    change (BitVec.ofNat 32 m).toNat = (BitVec.ofNat 32 j).toNat at e2
    rw [BitVec.toNat_ofNat, BitVec.toNat_ofNat] at e2
    omega
/-! orders of a column in the trial city -/
def oI (E : (Nat → Int32) → Int32) (s : aS) (dy c tot r : Nat) (τ : zS) : Prop := cT s dy τ 43 ∧ τ.1 43 0 = nI (s_n s) ∧ τ.1 49 c = nI tot ∧ rR E τ r
def oP (c : Nat) (pre : List Nat) (τ : zS) : Prop := ∀ k, k < pre.length → τ.1 50 (c * 4 + k) = nI (pre.getD k 0)
def oS (tot : Nat) (q : Nat × List Nat) (τ : zS) : Prop := τ.1 31 1 = nI q.1 ∧ (q.1 ≠ 0 → q.2.length = tot ∧ ∀ i, i < tot → τ.1 32 i = nI (q.2.getD i 0))
abbrev oF (σ u : zS) : Prop := cX (fun q => q = 31 ∨ q = 32 ∨ q = 50 ∨ q = 55 ∨ q = 60) (fun _ => False) σ u
section
variable {E : (Nat → Int32) → Int32} {s : aS} {dy c tot r : Nat} {σ τ u : zS}
theorem oI.keep (h : oI E s dy c tot r σ) (hr : z_oR r) (hF : oF σ u) : oI E s dy c tot r u := by
  obtain ⟨h1, h2, h3, h4⟩ := h
  refine ⟨h1.keepX hF (by omega), by rw [(hF.1 43 (by decide) (by decide)).1]; exact h2, by rw [(hF.1 49 (by decide) (by decide)).1]; exact h3, ?_⟩
  rcases hr with e | e
  · subst e
    exact h4.keep (hF.1 53 (by decide) (by decide)).1 (hF.1 54 (by decide) (by decide)).1
  · subst e
    exact h4.keep (hF.1 58 (by decide) (by decide)).1 (hF.1 59 (by decide) (by decide)).1
theorem oI.C (h : oI E s dy c tot r τ) (hc : c < 6) {pre : List Nat} (hP : oP c pre τ) (hl : pre.length = tot) (h4 : tot ≤ 4) (hm : ∀ b, b ∈ pre → b < s_n s) : cC s dy τ 43 c pre := ⟨⟨hc, by omega, fun k hk => hm _ (l_getD_mem hk), h.1.1⟩, by rw [hl]; exact h.2.2.1, hP, h.1.2.1, h.1.2.2⟩
theorem cc_weigh (hr : z_oR r) (hc : c < 6) {pre : List Nat} {q : Nat × List Nat} (h : oI E s dy c tot r τ) (hP : oP c pre τ) (hl : pre.length = tot) (h4 : tot ≤ 4) (hm : ∀ b, b ∈ pre → b < s_n s) (hS : oS tot q τ) (hq : q.1 < 1000000) : z_Cv 4 zm_Orders_weigh [.inr 31, .inr 43, .inr r, .inl (nI c)] τ (fun u => oF τ u ∧ oP c pre u ∧ oS tot (if l_ho E s dy c pre = true then (q.1 + 1, if q.1 = 0 then pre else q.2) else q) u) := by
  refine z_Cv_of (by decide) (Nat.le_of_ble_eq_true rfl) (fun Γ hd he => ?_)
  show z_J Γ zm_Orders_weigh 0 [some (.inr 31), some (.inr 43), some (.inr r), some (.inl (nI c))] [] τ
  have e0 : (0 : Int32) = nI 0 := rfl
  refine zb_Orders_weigh_0 hr (lc_holdsUp z_c43 hr (h.C hc hP hl h4 hm) h.2.2.2) (by omega) (fun x u1 hx => ?_)
  obtain ⟨rfl, F1⟩ := hx
  have G1 := z_frR hr F1
  have O1 : oF τ u1 := G1.mono (by omega) (fun _ h => h)
  have I1 := h.keep hr O1
  have P1 : oP c pre u1 := by
    unfold oP
    rw [(G1.1 50 (by decide) (by decide)).1]
    exact hP
  have S1 : oS tot q u1 := by
    unfold oS
    rw [(G1.1 31 (by decide) (by decide)).1, (G1.1 32 (by decide) (by decide)).1]
    exact hS
  refine zb_Orders_weigh_6 (fun p => ?_) (fun p => ?_)
  rotate_left
  · rw [z_tf_eq0] at p
    refine zb_Orders_weigh_9 ?_
    rw [he, if_neg (by rw [p]; decide)]
    exact ⟨rfl, O1, P1, S1⟩
  rw [z_tf_eq0, Bool.not_eq_false] at p
  rw [if_pos p] at he
  refine zb_Orders_weigh_10 (fun p2 => ?_) (fun p2 => ?_)
  · rw [S1.1, e0, zn_eq (by omega) (by omega)] at p2
    refine zb_Orders_weigh_38 ?_
    rw [he, S1.1, nI_add, if_neg p2]
    refine ⟨rfl, cX.pR O1 (Or.inl rfl) (by decide), ?_, z_pI_at _ _ _ _, fun _ => ?_⟩
    · unfold oP
      rw [z_pI_ne (by decide)]
      exact P1
    · rw [z_pI_ne (by decide)]
      exact S1.2 p2
  · rw [S1.1, e0, zn_eq (by omega) (by omega)] at p2
    refine zb_Orders_weigh_17 (by omega) (k1 := c) (z_ixn (by omega)) (i1 := c * 4) (j1 := 0) (l1 := tot) (pk_mul _ _) rfl I1.2.2.1 (by omega) (by omega) (z_gen (fun u2 h2 => ?_))
    have c1 := z_cp h2
    have O2 : oF u1 u2 := by rw [h2]; exact cX.pA cX.rf (Or.inr (Or.inl rfl)) (by decide)
    refine zb_Orders_weigh_38 ?_
    rw [he, c1.2.2.1 31 (by decide), S1.1, nI_add, if_pos p2]
    refine ⟨rfl, cX.pR (O1.tr O2) (Or.inl rfl) (by decide), ?_, z_pI_at _ _ _ _, fun _ => ⟨hl, fun i hi => ?_⟩⟩
    · unfold oP
      rw [z_pI_ne (by decide), c1.2.2.1 50 (by decide)]
      exact P1
    · rw [z_pI_ne (by decide)]
      have := c1.1 i hi
      rw [Nat.zero_add] at this
      rw [this]
      exact P1 i (by omega)
theorem cc_order (hr : z_oR r) (hc : c < 6) (hn : s_n s ≤ 12) (h4 : tot ≤ 4) : ∀ (f left : Nat) (pre : List Nat) (q : Nat × List Nat) (τ : zS), oI E s dy c tot r τ → left < 4096 → n_bc left = f → pre.length + f = tot → oP c pre τ → (∀ b, b ∈ pre → b < s_n s) → oS tot q τ → q.1 + 12 ^ f ≤ 1000000 → z_Cv (5 + f) zm_Orders_order [.inr 31, .inr 43, .inr r, .inl (nI left), .inl (nI c), .inl (nI pre.length)] τ (fun u => oF τ u ∧ oP c pre u ∧ oS tot (a_stk E s dy c f left pre q) u)
  | 0, left, pre, q, τ, hI, hl, hb, hk, hP, hpn, hS, hq => by
    refine z_Cv_of (by decide) (Nat.le_of_ble_eq_true rfl) (fun Γ hd he => ?_)
    show z_J Γ zm_Orders_order 0 [some (.inr 31), some (.inr 43), some (.inr r), some (.inl (nI left)), some (.inl (nI c)), some (.inl (nI pre.length)), none] [] τ
    refine zb_Orders_order_0 hr (k1 := c) (z_ixn (by omega)) (fun p => ?_) (fun _ => ?_)
    · rw [hI.2.2.1] at p
      exact absurd (by congr 1) p
    have e : pre.length = tot := by omega
    refine zb_Orders_order_12 hr (cc_weigh hr hc hI hP e h4 hpn hS (by simp at hq; omega)) (by omega) (fun u1 h1 => ?_)
    refine zb_Orders_order_20 ?_
    rw [he, a_stk]
    exact ⟨rfl, h1⟩
  | f + 1, left, pre, q, τ, hI, hl, hb, hk, hP, hpn, hS, hq => by
    refine z_Cv_of (by decide) (Nat.le_of_ble_eq_true rfl) (fun Γ hd he => ?_)
    show z_J Γ zm_Orders_order 0 [some (.inr 31), some (.inr 43), some (.inr r), some (.inl (nI left)), some (.inl (nI c)), some (.inl (nI pre.length)), none] [] τ
    refine zb_Orders_order_0 hr (k1 := c) (z_ixn (by omega)) (fun _ => ?_) (fun p => ?_)
    rotate_left
    · rw [hI.2.2.1, zn_eq (by omega) (by omega)] at p
      omega
    refine zb_Orders_order_21 hr ?_
    rw [a_stk] at he
    let st : Nat → Nat × List Nat := fun i => (List.range i).foldl (fun q b => if left.testBit b = true then a_stk E s dy c f (n_dif left (2 ^ b)) (pre ++ [b]) q else q) q
    have hst : ∀ i, st (i + 1) = if left.testBit i = true then a_stk E s dy c f (n_dif left (2 ^ i)) (pre ++ [i]) (st i) else st i := fun i => by
      show (List.range (i + 1)).foldl _ q = _
      rw [List.range_succ, List.foldl_append, List.foldl_cons, List.foldl_nil]
    have hle : ∀ i, (st i).1 ≤ q.1 + i * 12 ^ f := by
      intro i
      induction i with
      | zero => simp [st]
      | succ i ih =>
        have hz : 0 < 12 ^ f := Nat.pow_pos (by decide)
        rw [hst, Nat.succ_mul]
        split
        · have := a_stk_le E s hn dy c f (n_dif left (2 ^ i)) (pre ++ [i]) (st i)
          omega
        · omega
    refine zj_forS (b := s_n s) (fun i => [some (.inr 31), some (.inr 43), some (.inr r), some (.inl (nI left)), some (.inl (nI c)), some (.inl (nI pre.length)), some (.inl (nI i))])
      (fun i w => oF τ w ∧ oP c pre w ∧ oS tot (st i) w) (fun i w hi hIw kk => ?_) (fun w hIw => ?_) 0 (Nat.zero_le _) _ ⟨cX.rf, hP, hS⟩
    · obtain ⟨q1, q2, q3⟩ := hIw
      have hw := hI.keep hr q1
      refine zb_Orders_order_24 hr (fun p => ?_) (fun _ => ?_)
      · rw [hw.2.1] at p
        exact absurd p (nI_ge hi (by omega))
      refine zb_Orders_order_33 hr (fun p => ?_) (fun p => ?_)
      · rw [zn_bit1 (by omega) (by omega)] at p
        refine zb_Orders_order_77 hr ?_
        rw [nI_add]
        refine kk w ⟨q1, q2, ?_⟩
        rw [hst, if_neg p]
        exact q3
      · rw [zn_bit1 (by omega) (by omega)] at p
        have hdl := n_dif_le left (2 ^ i)
        have hbd := n_bc_dif p (show i < 12 by omega)
        have O1 : oF τ (z_pI w 50 (c * 4 + pre.length) (nI i)) := cX.pR q1 (Or.inr (Or.inr (Or.inl rfl))) (by decide)
        have hP' : oP c (pre ++ [i]) (z_pI w 50 (c * 4 + pre.length) (nI i)) := by
          intro k hk2
          simp only [List.length_append, List.length_cons, List.length_nil] at hk2
          by_cases e : k = pre.length
          · subst e
            rw [z_pI_at]
            simp
          · rw [z_pI_ne2 (by omega)]
            have hk' : k < pre.length := by omega
            have := q2 k hk'
            simp only [List.getD_eq_getElem?_getD, List.getElem?_append_left hk'] at this ⊢
            exact this
        have hrec := cc_order hr hc hn h4 f (n_dif left (2 ^ i)) (pre ++ [i]) (st i) (z_pI w 50 (c * 4 + pre.length) (nI i)) (hI.keep hr O1) (by omega) (by omega) (by simp; omega) hP' (fun b hb' => by
          rcases List.mem_append.mp hb' with z | z
          · exact hpn b z
          · rw [List.mem_singleton.mp z]; exact hi) (by
          unfold oS
          rw [z_pI_ne (by decide), z_pI_ne (by decide)]
          exact q3) (by
          have h1 := hle i
          have h2 : (i + 1) * 12 ^ f ≤ 12 * 12 ^ f := Nat.mul_le_mul_right _ (by omega)
          rw [Nat.succ_mul] at h2
          rw [Nat.pow_succ, Nat.mul_comm (12 ^ f) 12] at hq
          omega)
        refine zb_Orders_order_43 hr (k1 := c * 4 + pre.length) (dc := 5 + f) (P := fun u => oF (z_pI w 50 (c * 4 + pre.length) (nI i)) u ∧ oP c (pre ++ [i]) u ∧ oS tot (a_stk E s dy c f (n_dif left (2 ^ i)) (pre ++ [i]) (st i)) u) (z_ixp (by omega)) ?_ (by omega) (fun u2 h2 => ?_)
        · rw [zn_shl (by omega), zn_andn, nI_add]
          simp only [List.length_append, List.length_cons, List.length_nil] at hrec
          exact hrec
        · obtain ⟨g1, g2, g3⟩ := h2
          refine zb_Orders_order_77 hr ?_
          rw [nI_add]
          refine kk u2 ⟨O1.tr g1, fun k hk' => ?_, ?_⟩
          · have := g2 k (by simp; omega)
            simp only [List.getD_eq_getElem?_getD, List.getElem?_append_left hk'] at this ⊢
            exact this
          · rw [hst, if_pos p]
            exact g3
    · have hw := hI.keep hr hIw.1
      refine zb_Orders_order_24 hr (fun _ => ?_) (fun p => ?_)
      · refine zb_Orders_order_83 ?_
        rw [he]
        exact ⟨rfl, hIw⟩
      · rw [hw.2.1] at p
        exact absurd (Int32.le_refl _) p
end
section
variable {x : tX} {σ u : zS}
theorem cp_stack (h : cA x σ) (a b : Int32) : z_Ci 12 zm_Walls_stack [.inr 0, .inl a, .inl b] σ (fun r u => r = (to_stack x a b).1 ∧ cA (to_stack x a b).2 u ∧ zW σ u) := by
  have h6 := h.1.c6
  have hn := h.1.n
  have hp : 2 ^ s_n (x_s x) ≤ 2 ^ 12 := Nat.pow_le_pow_right (by decide) hn
  have hp1 : 1 ≤ 2 ^ s_n (x_s x) := Nat.one_le_two_pow
  refine z_Ci_of (by decide) (Nat.le_of_ble_eq_true rfl) (fun Γ hd he => ?_)
  show z_J Γ zm_Walls_stack 0 [some (.inr 0), some (.inl a), some (.inl b), none, none] [] σ
  have no : ¬ ((nI 0 ≤ a ∧ a ≤ nI (2 ^ s_n (x_s x) - 1)) ∧ z_isn b (s_c (x_s x)) = true) → z_J Γ zm_Walls_stack 26 [none, none, none, none, none] [] σ := fun q => by
    refine zb_Walls_stack_26 ?_
    rw [he, to_stack, if_neg q]
    exact ⟨_, rfl, rfl, h, zW.rf⟩
  refine zb_Walls_stack_0 (cc_isColumn z_c33 h.1.fc b) (by omega) (fun r u hr => ?_)
  obtain ⟨rfl, rfl⟩ := hr
  refine zb_Walls_stack_8 (fun k => no (fun q => ?_)) (fun k2 => ?_)
  · rw [z_tf_eq0] at k
    rw [k] at q
    exact absurd q.2 (by decide)
  rw [z_tf_eq0, Bool.not_eq_false] at k2
  refine zb_Walls_stack_11 (fun k => ?_) (fun k => no (fun q => ?_))
  rotate_left
  · rw [h.1.fn, zn_shl (by omega), zn_hi hn] at k
    exact k q.1
  rw [h.1.fn, zn_shl (by omega), zn_hi hn] at k
  obtain ⟨m, hm, rfl⟩ := z_0to (by omega) k
  obtain ⟨c, hc, rfl⟩ := z_isn_t (by omega) k2
  have hbl := n_bc_le m
  have et : to_stack x (nI m) (nI c) = if 1 ≤ n_bc m ∧ n_bc m ≤ 4 then (nI (a_stk (x_E x) (x_s x) (v_y (x_v x)) c (n_bc m) m [] (0, [])).1, x_row x (if (a_stk (x_E x) (x_s x) (v_y (x_v x)) c (n_bc m) m [] (0, [])).1 = 0 then [] else (a_stk (x_E x) (x_s x) (v_y (x_v x)) c (n_bc m) m [] (0, [])).2.map nI)) else (-2, x) := by
    unfold to_stack
    rw [if_pos ⟨k, k2⟩, nI_clamp (by omega), nI_clamp (by omega)]
  rw [et] at he
  have ebc : z_bc (nI m) = nI (n_bc m) := zn_bc m (by omega)
  have no2 : ¬ (1 ≤ n_bc m ∧ n_bc m ≤ 4) → z_J Γ zm_Walls_stack 43 [none, none, none, none, none] [] u := fun q => by
    refine zb_Walls_stack_43 ?_
    rw [he, if_neg q]
    exact ⟨_, rfl, rfl, h, zW.rf⟩
  refine zb_Walls_stack_28 (by omega) (fun k3 => no2 (fun q => ?_)) (fun k3 => ?_)
  · rw [ebc, zn_lt (by omega) (by omega)] at k3
    omega
  rw [ebc] at k3 ⊢
  rw [zn_lt (by omega) (by omega)] at k3
  refine zb_Walls_stack_38 (fun k4 => ?_) (fun k4 => no2 (fun q => ?_))
  rotate_left
  · rw [zn_le (by omega) (by omega)] at k4
    omega
  rw [zn_le (by omega) (by omega)] at k4
  rw [if_pos ⟨by omega, k4⟩] at he
  refine zb_Walls_stack_46 (cc_copyFrom z_c43 z_c33 (by decide) h.1) (by omega) (fun u1 hr => ?_)
  obtain ⟨R1, F1⟩ := hr
  have G1 : cX c_tO (fun _ => False) u u1 := F1.cX (by show ¬ (43 ≤ 0 ∧ 0 ≤ 52); omega) (fun q hq => Or.inl hq)
  have A1 := (h.low G1.tr1).1
  have hor := A1.2.2.1.oR
  have hpw : (12 : Nat) ^ n_bc m ≤ 12 ^ 4 := Nat.pow_le_pow_right (by decide) k4
  have X2 : cX c_sO (fun _ => False) u (z_pI (z_pI u1 31 1 (nI 0)) 49 c (nI (n_bc m))) := cX.pR (cX.pR G1.tr1 (by unfold c_sO; omega) (by decide)) (by unfold c_sO; omega) (by decide)
  have A2 := (h.low X2).1
  have I2 : oI (x_E x) (x_s x) (v_y (x_v x)) c (n_bc m) (u1.2 0 6) (z_pI (z_pI u1 31 1 (nI 0)) 49 c (nI (n_bc m))) := by
    refine ⟨?_, ?_, z_pI_at _ _ _ _, A2.2.2.1.2⟩
    · unfold cT
      rw [z_pI_ne (show 43 ≠ 49 by decide), z_pI_ne (show 43 ≠ 31 by decide), z_pI_ne (show 43 + 1 ≠ 49 by decide), z_pI_ne (show 43 + 1 ≠ 31 by decide), z_pI_ne (show 43 + 2 ≠ 49 by decide), z_pI_ne (show 43 + 2 ≠ 31 by decide)]
      exact R1.cT
    · rw [z_pI_ne (show 43 ≠ 49 by decide), z_pI_ne (show 43 ≠ 31 by decide)]
      exact R1.fn
  have hgo := cc_order hor (show c < 6 by omega) hn k4 (n_bc m) m [] (0, []) (z_pI (z_pI u1 31 1 (nI 0)) 49 c (nI (n_bc m))) I2 (by omega) rfl (by simp) (fun k hk => absurd hk (by simp)) (fun b hb => absurd hb (by simp)) ⟨by rw [z_pI_ne (by decide), z_pI_at], fun z => absurd rfl z⟩ (by show 0 + 12 ^ n_bc m ≤ 1000000; omega)
  have hcount : z_Ci 11 zm_Orders_countThose [.inr 31, .inr 43, .inr (u1.2 0 6), .inl (nI m), .inl (nI c)] u1 (fun r w => r = nI (a_stk (x_E x) (x_s x) (v_y (x_v x)) c (n_bc m) m [] (0, [])).1 ∧ oS (n_bc m) (a_stk (x_E x) (x_s x) (v_y (x_v x)) c (n_bc m) m [] (0, [])) w ∧ cX c_sO (fun _ => False) u w) := by
    refine z_Ci_of (by decide) (Nat.le_of_ble_eq_true rfl) (fun Γ hd he => ?_)
    show z_J Γ zm_Orders_countThose 0 [some (.inr 31), some (.inr 43), some (.inr (u1.2 0 6)), some (.inl (nI m)), some (.inl (nI c))] [] u1
    refine zb_Orders_countThose_0 hor (k1 := c) (dc := 5 + n_bc m) (P := fun w => oF (z_pI (z_pI u1 31 1 (nI 0)) 49 c (nI (n_bc m))) w ∧ oP c [] w ∧ oS (n_bc m) (a_stk (x_E x) (x_s x) (v_y (x_v x)) c (n_bc m) m [] (0, [])) w) (z_ixn (by omega)) ?_ (by omega) (fun w hw => ?_)
    · rw [ebc, zn_min (by omega) (by omega), if_neg (by omega)]
      exact hgo
    · obtain ⟨w1, w2, w3⟩ := hw
      refine zb_Orders_countThose_30 ?_
      rw [he, w3.1]
      exact ⟨_, rfl, rfl, w3, X2.tr (w1.mono (by unfold c_sO; omega) (fun _ h => h))⟩
  refine zb_Walls_stack_57 hor hcount (by omega) (fun r w hr => ?_)
  obtain ⟨rfl, S3, X3⟩ := hr
  have hcl := a_stk_le (x_E x) (x_s x) hn (v_y (x_v x)) c (n_bc m) m [] (0, [])
  generalize a_stk (x_E x) (x_s x) (v_y (x_v x)) c (n_bc m) m [] (0, []) = q at *
  have hcl' : q.1 ≤ 20736 := by
    have : q.1 ≤ 0 + 12 ^ n_bc m := hcl
    omega
  have e0 : (0 : Int32) = nI 0 := rfl
  have fin : ∀ (l : List Int32), l.length ≤ 4 → l = (if q.1 = 0 then [] else q.2.map nI) → (∀ i y, l[i]? = some y → w.1 32 i = y) → z_J Γ zm_Walls_stack 94 [none, none, none, none, some (.inl (nI q.1))] [.inl (nI l.length), .inr 32, .inr 0] w := by
    intro l hl4 hl hv
    refine zb_Walls_stack_94 (cc_tellRow (a := 32) (n := 4) (by decide) (by decide) hl4 (by omega) hv) (by omega) (fun w2 h2 => ?_)
    refine zb_Walls_stack_97 ?_
    rw [he, ← hl]
    exact ⟨_, rfl, rfl, h.row ((X3.mono (fun _ h => Or.inl h) (fun _ h => h.elim)).tr (h2.2.mono (fun _ h => Or.inr h) (fun _ h => h))) h2.1⟩
  refine zb_Walls_stack_74 (fun p => ?_) (fun p => ?_)
  · rw [e0, zn_eq (by omega) (by omega)] at p
    obtain ⟨g1, g2⟩ := S3.2 p
    refine zb_Walls_stack_93 ?_
    have := fin (q.2.map nI) (by simp; omega) (by rw [if_neg p]) (fun i y hy => ?_)
    · rw [List.length_map, g1] at this
      exact this
    · rw [List.getElem?_map] at hy
      have hi : i < q.2.length := by
        rcases Nat.lt_or_ge i q.2.length with z | z
        · exact z
        · rw [List.getElem?_eq_none z] at hy
          exact absurd hy (by simp)
      rw [g2 i (by omega), List.getD_eq_getElem?_getD]
      rw [List.getElem?_eq_getElem hi] at hy ⊢
      simpa using hy
  · rw [e0, zn_eq (by omega) (by omega)] at p
    refine zb_Walls_stack_89 ?_
    exact fin [] (by simp) (by rw [if_pos p]) (fun i y hy => absurd hy (by simp))
end
