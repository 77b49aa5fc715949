/-! the program: spare, out -/
/-- what explains a height that was seen -/
abbrev a_ouQ (s : aS) (l : List Nat) (h j : Nat) : Prop := n_dif j (l_bits l (s_n s)) = 0 ∧ l_h (s_t s) (l_bt l j) = h
theorem a_ou_c (s : aS) (l : List Nat) (h : Nat) : ∀ i, (a_ou s l h i).1 = ((List.range i).filter (fun j => decide (a_ouQ s l h j))).length ∧ ((a_ou s l h i).1 ≠ 0 → a_ouQ s l h (a_ou s l h i).2.1 ∧ ∀ j, j < i → a_ouQ s l h j → (a_ou s l h i).2.1 ≤ j) ∧ ∀ b, (a_ou s l h i).2.2.testBit b = true ↔ ((l_bits l (s_n s)).testBit b = true ∧ ∀ j, j < i → a_ouQ s l h j → j.testBit b = true)
  | 0 => ⟨rfl, fun h => absurd rfl h, fun b => ⟨fun h => ⟨h, fun j hj => absurd hj (by omega)⟩, fun h => h.1⟩⟩
  | i + 1 => by
    obtain ⟨h1, h2, h3⟩ := a_ou_c s l h i
    rw [List.range_succ, List.filter_append, List.length_append, a_ou]
    by_cases q : a_ouQ s l h i
    · rw [if_pos q]
      refine ⟨by simp [h1, q], fun _ => ?_, fun b => ?_⟩
      · by_cases z : (a_ou s l h i).1 = 0
        · simp only [z, if_true]
          refine ⟨q, fun j hj hq => ?_⟩
          by_cases e : j = i
          · omega
          · exfalso
            rw [z] at h1
            have hm : j ∈ (List.range i).filter (fun j => decide (a_ouQ s l h j)) := List.mem_filter.mpr ⟨List.mem_range.mpr (by omega), decide_eq_true hq⟩
            rw [List.eq_nil_of_length_eq_zero h1.symm] at hm
            exact absurd hm (by simp)
        · simp only [z, if_false]
          obtain ⟨g1, g2⟩ := h2 z
          refine ⟨g1, fun j hj hq => ?_⟩
          by_cases e : j = i
          · subst e
            -- the least so far is below i
            rcases Nat.lt_or_ge j (a_ou s l h j).2.1 with p | p
            · exfalso
              have hne : 0 < ((List.range j).filter (fun j => decide (a_ouQ s l h j))).length := by omega
              obtain ⟨j', hj'⟩ := List.exists_mem_of_length_pos hne
              rw [List.mem_filter, List.mem_range, decide_eq_true_eq] at hj'
              have := g2 j' hj'.1 hj'.2
              omega
            · exact p
          · exact g2 j (by omega) hq
      · rw [Nat.testBit_and, Bool.and_eq_true, h3 b]
        constructor
        · rintro ⟨⟨k1, k2⟩, k3⟩
          refine ⟨k1, fun j hj hq => ?_⟩
          by_cases e : j = i
          · subst e; exact k3
          · exact k2 j (by omega) hq
        · rintro ⟨k1, k2⟩
          exact ⟨⟨k1, fun j hj hq => k2 j (by omega) hq⟩, k2 i (by omega) q⟩
    · rw [if_neg q]
      refine ⟨by simp [h1, q], fun z => ⟨(h2 z).1, fun j hj hq => ?_⟩, fun b => ?_⟩
      · by_cases e : j = i
        · subst e; exact absurd hq q
        · exact (h2 z).2 j (by omega) hq
      · rw [h3 b]
        constructor
        · rintro ⟨k1, k2⟩
          refine ⟨k1, fun j hj hq => ?_⟩
          by_cases e : j = i
          · subst e; exact absurd hq q
          · exact k2 j (by omega) hq
        · rintro ⟨k1, k2⟩
          exact ⟨k1, fun j hj hq => k2 j (by omega) hq⟩
/-- .. as the program finds it, by choices of places -/
def c_ouI (s : aS) (l : List Nat) (h i n m k : Nat) : Prop := n = ((List.range i).filter (fun j => decide (a_ouQ s l h (l_bci l j l.length)))).length ∧ (n ≠ 0 → (∃ j, j < i ∧ m = l_bci l j l.length ∧ a_ouQ s l h m) ∧ (∀ j, j < i → a_ouQ s l h (l_bci l j l.length) → m ≤ l_bci l j l.length) ∧ ∀ b, k.testBit b = true ↔ ∀ j, j < i → a_ouQ s l h (l_bci l j l.length) → (l_bci l j l.length).testBit b = true)
theorem c_ou_end {s : aS} {l : List Nat} {h n m k : Nat} (hN : l.Nodup) (hl : ∀ b, b ∈ l → b < s_n s) (hI : c_ouI s l h (2 ^ l.length) n m k) : (a_oub s l h).1 = n ∧ (n ≠ 0 → (a_oub s l h).2.1 = m ∧ (a_oub s l h).2.2 = k) := by
  obtain ⟨a1, a2, a3⟩ := a_ou_c s l h (l_bits l (s_n s) + 1)
  obtain ⟨c1, c2⟩ := hI
  have onto : ∀ S, a_ouQ s l h S → ∃ j, j < 2 ^ l.length ∧ l_bci l j l.length = S := fun S hS => ⟨l_cho l S l.length, l_cho_lt _ _ _, l_bci_inv hS.1⟩
  have hp : (((List.range (2 ^ l.length)).filter (fun j => decide (a_ouQ s l h (l_bci l j l.length)))).map (fun j => l_bci l j l.length)).Perm ((List.range (l_bits l (s_n s) + 1)).filter (fun j => decide (a_ouQ s l h j))) := by
    rw [List.perm_ext_iff_of_nodup ?_ (List.nodup_range.filter _)]
    · intro S
      rw [List.mem_map]
      constructor
      · rintro ⟨j, hj, rfl⟩
        rw [List.mem_filter, decide_eq_true_eq] at hj
        rw [List.mem_filter, List.mem_range, decide_eq_true_eq]
        exact ⟨Nat.lt_succ_of_le (n_dif_sub (l_bci_sub hl j)), hj.2⟩
      · intro hS
        rw [List.mem_filter, List.mem_range, decide_eq_true_eq] at hS
        obtain ⟨j, j1, j2⟩ := onto S hS.2
        refine ⟨j, ?_, j2⟩
        rw [List.mem_filter, List.mem_range, decide_eq_true_eq, j2]
        exact ⟨j1, hS.2⟩
    · refine List.Pairwise.map _ (fun a b => id) ?_
      refine List.Pairwise.imp_of_mem (R := fun a b => a ≠ b) ?_ (List.nodup_range.filter _)
      intro a b ha hb hab e
      rw [List.mem_filter, List.mem_range] at ha hb
      exact hab (l_bci_inj hN ha.1 hb.1 e)
  have e1 : (a_oub s l h).1 = n := by
    rw [a1, c1, ← hp.length_eq, List.length_map]
  refine ⟨e1, fun hn => ?_⟩
  obtain ⟨⟨j, j1, j2, j3⟩, c3, c4⟩ := c2 hn
  obtain ⟨b1, b2⟩ := a2 (by rw [e1]; exact hn)
  have e2 : (a_oub s l h).2.1 = m := by
    apply Nat.le_antisymm
    · exact b2 m (Nat.lt_succ_of_le (n_dif_sub j3.1)) j3
    · obtain ⟨j', k1, k2⟩ := onto _ b1
      have := c3 j' k1 (by rw [k2]; exact b1)
      rw [k2] at this
      exact this
  refine ⟨e2, ?_⟩
  apply Nat.eq_of_testBit_eq
  intro b
  rw [Bool.eq_iff_iff, a3 b, c4 b]
  constructor
  · rintro ⟨k1, k2⟩ j' hj' hq
    exact k2 _ (Nat.lt_succ_of_le (n_dif_sub hq.1)) hq
  · intro k1
    have all : ∀ S, a_ouQ s l h S → S.testBit b = true := fun S hS => by
      obtain ⟨j', p1, p2⟩ := onto S hS
      have := k1 j' p1 (by rw [p2]; exact hS)
      rw [p2] at this
      exact this
    exact ⟨(n_dif_0 _ _).mp j3.1 b (all m j3), fun S _ hS => all S hS⟩
section
variable {x : tX} {σ u : zS}
theorem cp_spare (h : cA x σ) (a : Int32) : z_Ci 5 zm_Walls_spare [.inr 0, .inl a] σ (fun r u => r = (to_spare x a).1 ∧ cA (to_spare x a).2 u ∧ zW σ u) := by
  have h6 := h.1.c6
  refine z_Ci_of (by decide) (Nat.le_of_ble_eq_true rfl) (fun Γ hd he => ?_)
  show z_J Γ zm_Walls_spare 0 [some (.inr 0), some (.inl a), none, none, none, none] [] σ
  refine zb_Walls_spare_0 (cc_isColumn z_c33 h.1.fc a) (by omega) (fun r u hr => ?_)
  obtain ⟨rfl, rfl⟩ := hr
  refine zb_Walls_spare_8 (fun k => ?_) (fun k => ?_)
  rotate_left
  · rw [z_tf_eq0] at k
    refine zb_Walls_spare_11 ?_
    rw [he, to_spare, if_neg (by rw [k]; decide)]
    exact ⟨_, rfl, rfl, h, zW.rf⟩
  rw [z_tf_eq0, Bool.not_eq_false] at k
  obtain ⟨c, hc, rfl⟩ := z_isn_t (by omega) k
  rw [to_spare, if_pos k, nI_clamp (by omega)] at he
  have hC := h.1.cC hc
  have h4 := hC.l4
  have hN := h.1.1.nd hc
  refine zb_Walls_spare_13 (cc_copyFrom z_c43 z_c33 (by decide) h.1) (by omega) (fun u1 hr => ?_)
  obtain ⟨R1, F1⟩ := hr
  have G1 : cX c_tO (fun _ => False) u u1 := F1.cX (by show ¬ (43 ≤ 0 ∧ 0 ≤ 52); omega) (fun q hq => Or.inl hq)
  refine zb_Walls_spare_24 ?_
  have hsp : ∀ i, i ≤ (v_p (x_v x) c).length → (∀ b, (a_spk (x_E x) (x_s x) (x_v x) c i).1 = some b → b < 12) ∧ (a_spk (x_E x) (x_s x) (x_v x) c i).2 ≤ 36 := by
    intro i
    induction i with
    | zero => intro _; exact ⟨fun b hb => absurd hb (by simp [a_spk]), Nat.zero_le _⟩
    | succ i ih =>
      intro hi
      have hm := hC.mem (show i < (v_p (x_v x) c).length by omega)
      have hn := hC.n
      rw [a_spk]
      split
      · refine ⟨fun b hb => ?_, l_bt36 h.1.1 hc _⟩
        simp only [Option.some.injEq] at hb
        omega
      · exact ih (by omega)
  refine zj_forS (b := (v_p (x_v x) c).length) (fun i => [some (.inr 0), some (.inl (nI c)), some (.inl (w_I (a_spk (x_E x) (x_s x) (x_v x) c i).1)), some (.inl (nI (a_spk (x_E x) (x_s x) (x_v x) c i).2)), some (.inl (nI i)), none])
    (fun i w => cT (x_s x) (v_y (x_v x)) w 43 ∧ cX c_tO (fun _ => False) u w) (fun i w hi hI kk => ?_) (fun w hI => ?_) 0 (Nat.zero_le _) u1 ⟨R1.cT, G1⟩
  · obtain ⟨hT, hF⟩ := hI
    have Aw := (h.low hF.tr1).1
    have hCw := Aw.1.cC hc
    refine zb_Walls_spare_31 (k1 := c) (z_ixn (by omega)) (fun q => ?_) (fun _ => ?_)
    · rw [hCw.fM] at q
      exact absurd q (nI_ge hi (by omega))
    have e1 : nI 1 <<< (nI i &&& 31) = nI (2 ^ i) := zn_shl (by omega)
    have hp : 2 ^ i < 2147483648 := Nat.lt_of_le_of_lt (Nat.pow_le_pow_right (by decide) (show i ≤ 4 by omega)) (by decide)
    refine zb_Walls_spare_45 (dc := 1) (P := fun w1 => cC (x_s x) (v_y (x_v x)) w1 43 c (l_wo (v_p (x_v x) c) (2 ^ i) (v_p (x_v x) c).length) ∧ z_fr (fun q => q = 43 + 6 ∨ q = 43 + 7) w w1) (by rw [e1]; exact cc_copyWithout z_c43 z_c33 (by decide) hT hCw hp) (by omega) (fun w1 hr => ?_)
    obtain ⟨hC1, F1⟩ := hr
    rw [l_wo_bt hN, l_bci_one hi] at hC1
    have G1 : cX (fun q => q = 49 ∨ q = 50) (fun _ => False) w w1 := F1.cX (by omega) (fun q hq => hq)
    have T1 := hT.keepX G1 (by omega)
    have X1 : cX c_tO (fun _ => False) u w1 := hF.tr (G1.mono (by unfold c_tO; omega) (fun _ h => h))
    refine zb_Walls_spare_61 (lc_heightOf z_c43 hC1) (by omega) (fun r w2 hr => ?_)
    obtain ⟨rfl, rfl⟩ := hr
    have A2 := (h.low X1.tr1).1
    have hor2 := A2.2.2.1.oR
    refine zb_Walls_spare_69 hor2 (lc_holdsUp z_c43 hor2 hC1 A2.2.2.1.2) (by omega) (fun r w3 hr => ?_)
    obtain ⟨rfl, F3⟩ := hr
    have G3 := z_frR hor2 F3
    have T3 := T1.keepX G3 (by omega)
    have X3 : cX c_tO (fun _ => False) u w3 := X1.tr (G3.mono (by unfold c_tO; omega) (fun _ h => h))
    have k2 := kk w3 ⟨T3, X3⟩
    have A3 := (h.low X3.tr1).1
    obtain ⟨b1, b2⟩ := hsp i (by omega)
    have h36 := l_bt36 h.1.1 hc (2 ^ (v_p (x_v x) c).getD i 0)
    rw [a_spk] at k2
    have skip : ¬ (l_ho (x_E x) (x_s x) (v_y (x_v x)) c (l_bt (v_p (x_v x) c) (2 ^ (v_p (x_v x) c).getD i 0)) = true ∧ ((a_spk (x_E x) (x_s x) (x_v x) c i).1 = none ∨ (a_spk (x_E x) (x_s x) (x_v x) c i).2 < l_h (s_t (x_s x)) (l_bt (v_p (x_v x) c) (2 ^ (v_p (x_v x) c).getD i 0)))) → z_J Γ zm_Walls_spare 111 [some (.inr 0), some (.inl (nI c)), some (.inl (w_I (a_spk (x_E x) (x_s x) (x_v x) c i).1)), some (.inl (nI (a_spk (x_E x) (x_s x) (x_v x) c i).2)), some (.inl (nI i)), none] [] w3 := fun z => by
      refine zb_Walls_spare_111 ?_
      rw [if_neg z] at k2
      rw [nI_add]
      exact k2
    have take : (l_ho (x_E x) (x_s x) (v_y (x_v x)) c (l_bt (v_p (x_v x) c) (2 ^ (v_p (x_v x) c).getD i 0)) = true ∧ ((a_spk (x_E x) (x_s x) (x_v x) c i).1 = none ∨ (a_spk (x_E x) (x_s x) (x_v x) c i).2 < l_h (s_t (x_s x)) (l_bt (v_p (x_v x) c) (2 ^ (v_p (x_v x) c).getD i 0)))) → z_J Γ zm_Walls_spare 97 [some (.inr 0), some (.inl (nI c)), none, none, some (.inl (nI i)), some (.inl (nI (l_h (s_t (x_s x)) (l_bt (v_p (x_v x) c) (2 ^ (v_p (x_v x) c).getD i 0)))))] [] w3 := fun z => by
      refine zb_Walls_spare_97 (lc_bookAt z_c33 (A3.1.cC hc) hi) (by omega) (fun r w4 hr => ?_)
      obtain ⟨rfl, rfl⟩ := hr
      refine zb_Walls_spare_107 (zb_Walls_spare_111 ?_)
      rw [if_pos z] at k2
      rw [nI_add]
      exact k2
    refine zb_Walls_spare_83 (fun q => ?_) (fun q => ?_)
    · rw [z_tf_eq0] at q
      exact skip (fun z => by rw [q] at z; exact absurd z.1 (by decide))
    · rw [z_tf_eq0, Bool.not_eq_false] at q
      refine zb_Walls_spare_86 (fun q2 => ?_) (fun q2 => ?_)
      · rw [w_I_some b1 (by omega)] at q2
        exact take ⟨q, Or.inl q2⟩
      · rw [w_I_some b1 (by omega)] at q2
        refine zb_Walls_spare_91 (fun q3 => ?_) (fun q3 => ?_)
        · rw [zn_le (by omega) (by omega)] at q3
          exact skip (fun z => z.2.elim q2 (fun z => by omega))
        · rw [zn_le (by omega) (by omega)] at q3
          exact take ⟨q, Or.inr (by omega)⟩
  · obtain ⟨hT, hF⟩ := hI
    have Aw := (h.low hF.tr1).1
    obtain ⟨b1, b2⟩ := hsp _ (Nat.le_refl _)
    refine zb_Walls_spare_31 (k1 := c) (z_ixn (by omega)) (fun _ => ?_) (fun q => ?_)
    rotate_left
    · rw [(Aw.1.cC hc).fM] at q
      exact absurd (Int32.le_refl _) q
    refine zb_Walls_spare_117 (fun q => ?_) (fun q => ?_)
    · rw [w_I_some b1 (by omega)] at q
      refine zb_Walls_spare_125 (cc_tell _ _) (by omega) (fun u2 h2 => ?_)
      refine zb_Walls_spare_130 ?_
      rw [he, if_neg q]
      exact ⟨_, rfl, rfl, h.row ((hF.mono (by unfold c_tO c_qO c_sO; omega) (fun _ h => h.elim)).tr (h2.2.mono (fun _ h => Or.inr h) (fun _ h => h))) h2.1⟩
    · rw [w_I_some b1 (by omega)] at q
      refine zb_Walls_spare_122 ?_
      rw [he, if_pos q]
      exact ⟨_, rfl, rfl, h.low hF.tr1⟩
theorem cp_out (h : cA x σ) (a : Int32) : z_Ci 3 zm_Walls_out [.inr 0, .inl a] σ (fun r u => r = (to_out x a).1 ∧ cA (to_out x a).2 u ∧ zW σ u) := by
  have h6 := h.1.c6
  refine z_Ci_of (by decide) (Nat.le_of_ble_eq_true rfl) (fun Γ hd he => ?_)
  show z_J Γ zm_Walls_out 0 [some (.inr 0), some (.inl a), none, none, none, none, none] [] σ
  refine zb_Walls_out_0 (cc_isColumn z_c33 h.1.fc a) (by omega) (fun r u hr => ?_)
  obtain ⟨rfl, rfl⟩ := hr
  refine zb_Walls_out_8 (fun k => ?_) (fun k => ?_)
  rotate_left
  · rw [z_tf_eq0] at k
    refine zb_Walls_out_11 ?_
    rw [he, to_out, if_neg (by rw [k]; decide)]
    exact ⟨_, rfl, rfl, h, zW.rf⟩
  rw [z_tf_eq0, Bool.not_eq_false] at k
  obtain ⟨c, hc, rfl⟩ := z_isn_t (by omega) k
  rw [to_out, if_pos k, nI_clamp (by omega)] at he
  have hC := h.1.cC hc
  have hn := h.1.n
  have h4 := hC.l4
  have hN := h.1.1.nd hc
  have hl : ∀ b, b ∈ v_p (x_v x) c → b < s_n (x_s x) := fun b hb => ((h.1.1.mm hc b).mp hb).1
  obtain ⟨s1, s2⟩ := h.2.2.2.2.2.1 c hc
  have e0 : (0 : Int32) = nI 0 := rfl
  cases hse : x_e x c with
  | none =>
    rw [hse] at he
    refine zb_Walls_out_13 (k1 := c) (z_ixn (by omega)) (fun q => absurd (s1 hse) q) (fun _ => ?_)
    refine zb_Walls_out_23 ?_
    rw [he]
    exact ⟨_, rfl, rfl, h, zW.rf⟩
  | some t =>
    rw [hse] at he
    obtain ⟨t1, t2⟩ := s2 t hse
    refine zb_Walls_out_13 (k1 := c) (z_ixn (by omega)) (fun _ => ?_) (fun q => ?_)
    rotate_left
    · rw [t2] at q
      exact absurd q (zn_neg1 (by omega))
    have hp4 : 2 ^ (v_p (x_v x) c).length ≤ 16 := Nat.pow_le_pow_right (n := 2) (by decide) h4
    have hlt : ∀ m, l_bci (v_p (x_v x) c) m (v_p (x_v x) c).length < 4096 := fun m => Nat.lt_of_le_of_lt (n_dif_sub (l_bci_sub hl m)) (l_bits_12 hn)
    refine zb_Walls_out_26 ?_
    refine zj_forM (fun kk L w => ∃ i n m cm, kk = 2 ^ (v_p (x_v x) c).length - i ∧ i ≤ 2 ^ (v_p (x_v x) c).length ∧ n ≤ i ∧ L = [some (.inr 0), some (.inl (nI c)), some (.inl (nI n)), some (.inl (if n = 0 then -1 else nI m)), some (.inl (if n = 0 then nI 0 else nI cm)), some (.inl (nI i)), none] ∧ m < 4096 ∧ c_ouI (x_s x) (v_p (x_v x) c) t i n m cm ∧ w = u) (fun kk L w hI kn => ?_) (2 ^ (v_p (x_v x) c).length - 0) _ u ⟨0, 0, 0, 0, rfl, Nat.zero_le _, by omega, rfl, by omega, ⟨rfl, fun z => absurd rfl z⟩, rfl⟩
    obtain ⟨i, n, m, cm, rfl, hi, hni, rfl, hm, hO, rfl⟩ := hI
    refine zb_Walls_out_36 (k1 := c) (z_ixn (by omega)) (fun q => ?_) (fun q => ?_)
    · rw [hC.fM, zn_shl (by omega), zn_le (by omega) (by omega)] at q
      have ei : i = 2 ^ (v_p (x_v x) c).length := by omega
      subst ei
      obtain ⟨g1, g2⟩ := c_ou_end hN hl hO
      refine zb_Walls_out_127 (cc_tellTwo _ _ _) (by omega) (fun u2 h2 => ?_)
      refine zb_Walls_out_134 ?_
      rw [he]
      have er : ([if n = 0 then -1 else nI m, if n = 0 then nI 0 else nI cm] : List Int32) = [if (a_oub (x_s x) (v_p (x_v x) c) t).1 = 0 then -1 else nI (a_oub (x_s x) (v_p (x_v x) c) t).2.1, if (a_oub (x_s x) (v_p (x_v x) c) t).1 = 0 then nI 0 else nI (a_oub (x_s x) (v_p (x_v x) c) t).2.2] := by
        rw [g1]
        by_cases z : n = 0
        · simp [z]
        · rw [(g2 z).1, (g2 z).2]
      rw [er] at h2
      exact ⟨_, rfl, congrArg nI g1.symm, h.row (h2.2.mono (fun _ h => Or.inr h) (fun _ h => h)) h2.1⟩
    rw [hC.fM, zn_shl (by omega), zn_le (by omega) (by omega)] at q
    have h36 : a_hw (x_s x) (x_v x) c i ≤ 36 := by
      have := l_hwi_le hC (m := i) (v_p (x_v x) c).length (Nat.le_refl _)
      unfold a_hw
      omega
    have hQ : a_ouQ (x_s x) (v_p (x_v x) c) t (l_bci (v_p (x_v x) c) i (v_p (x_v x) c).length) ↔ a_hw (x_s x) (x_v x) c i = t := by
      unfold a_ouQ a_hw
      rw [l_bci_sub hl i, l_hwi_bt hN]
      simp
    obtain ⟨c1, c2⟩ := hO
    have next : ∀ n' m' cm', n' ≤ i + 1 → m' < 4096 → c_ouI (x_s x) (v_p (x_v x) c) t (i + 1) n' m' cm' → z_J Γ zm_Walls_out 121 [some (.inr 0), some (.inl (nI c)), some (.inl (nI n')), some (.inl (if n' = 0 then -1 else nI m')), some (.inl (if n' = 0 then nI 0 else nI cm')), some (.inl (nI i)), none] [] w := by
      intro n' m' cm' a1 a2 a3
      refine zb_Walls_out_121 ?_
      rw [nI_add]
      exact kn _ _ w (show 2 ^ (v_p (x_v x) c).length - (i + 1) < 2 ^ (v_p (x_v x) c).length - i by omega) ⟨i + 1, n', m', cm', rfl, by omega, a1, rfl, a2, a3, rfl⟩
    refine zb_Walls_out_52 (lc_heightWithout z_c33 hC (by omega)) (by omega) (fun r w1 hr => ?_)
    obtain ⟨rfl, rfl⟩ := hr
    refine zb_Walls_out_62 (k1 := c) (z_ixn (by omega)) (fun q2 => ?_) (fun q2 => ?_)
    rotate_left
    · rw [t2, zn_eq (show a_hw (x_s x) (x_v x) c i < 2147483648 by omega) (by omega)] at q2
      refine zb_Walls_out_71 (next n m cm (by omega) hm ?_)
      have hq' : ¬ a_ouQ (x_s x) (v_p (x_v x) c) t (l_bci (v_p (x_v x) c) i (v_p (x_v x) c).length) := fun z => q2 (hQ.mp z)
      refine ⟨?_, fun z => ?_⟩
      · rw [List.range_succ, List.filter_append, List.length_append, ← c1]
        simp [hq']
      · obtain ⟨⟨j, j1, j2, j3⟩, g1, g2⟩ := c2 z
        refine ⟨⟨j, by omega, j2, j3⟩, fun j' hj' hq => ?_, fun b => ?_⟩
        · by_cases e : j' = i
          · subst e; exact absurd hq hq'
          · exact g1 j' (by omega) hq
        · rw [g2 b]
          constructor
          · intro z2 j' hj' hq
            by_cases e : j' = i
            · subst e; exact absurd hq hq'
            · exact z2 j' (by omega) hq
          · intro z2 j' hj' hq
            exact z2 j' (by omega) hq
    rw [t2, zn_eq (show a_hw (x_s x) (x_v x) c i < 2147483648 by omega) (by omega)] at q2
    have hq' := hQ.mpr q2
    refine zb_Walls_out_74 (lc_bitsChosen z_c33 hC (by omega)) (by omega) (fun r w2 hr => ?_)
    obtain ⟨rfl, rfl⟩ := hr
    have hbi := hlt i
    have cnt : n + 1 = ((List.range (i + 1)).filter (fun j => decide (a_ouQ (x_s x) (v_p (x_v x) c) t (l_bci (v_p (x_v x) c) j (v_p (x_v x) c).length)))).length := by
      rw [List.range_succ, List.filter_append, List.length_append, ← c1]
      simp [hq']
    have go : ∀ (m' cm' : Nat), m' < 4096 → c_ouI (x_s x) (v_p (x_v x) c) t (i + 1) (n + 1) m' cm' → z_J Γ zm_Walls_out 116 [some (.inr 0), some (.inl (nI c)), some (.inl (nI n)), some (.inl (nI m')), none, some (.inl (nI i)), none] [.inl (nI cm')] w2 := by
      intro m' cm' a1 a2
      refine zb_Walls_out_116 ?_
      rw [nI_add]
      have := next (n + 1) m' cm' (by omega) a1 a2
      rw [if_neg (Nat.succ_ne_zero n), if_neg (Nat.succ_ne_zero n)] at this
      exact this
    refine zb_Walls_out_84 (fun q3 => ?_) (fun q3 => ?_)
    · rw [e0, zn_eq (by omega) (by omega)] at q3
      rw [if_neg q3, if_neg q3]
      obtain ⟨⟨j, j1, j2, j3⟩, g1, g2⟩ := c2 q3
      refine zb_Walls_out_95 (by omega) ?_
      rw [zn_min (by omega) (by omega)]
      refine zb_Walls_out_101 (fun _ => ?_) (fun z => ?_)
      rotate_left
      · rw [e0, zn_eq (by omega) (by omega)] at z
        exact absurd z q3
      refine zb_Walls_out_111 ?_
      rw [zn_and]
      refine go _ _ (by split <;> omega) ⟨cnt, fun _ => ⟨?_, fun j' hj' hq => ?_, fun b => ?_⟩⟩
      · by_cases z : l_bci (v_p (x_v x) c) i (v_p (x_v x) c).length < m
        · rw [if_pos z]
          exact ⟨i, by omega, rfl, hq'⟩
        · rw [if_neg z]
          exact ⟨j, by omega, j2, j3⟩
      · by_cases e : j' = i
        · subst e
          split <;> omega
        · have := g1 j' (by omega) hq
          split <;> omega
      · rw [Nat.testBit_and, Bool.and_eq_true, g2 b]
        constructor
        · rintro ⟨z1, z2⟩ j' hj' hq
          by_cases e : j' = i
          · subst e; exact z2
          · exact z1 j' (by omega) hq
        · intro z
          exact ⟨fun j' hj' hq => z j' (by omega) hq, z i (by omega) hq'⟩
    · rw [e0, zn_eq (by omega) (by omega)] at q3
      refine zb_Walls_out_90 ?_
      refine zb_Walls_out_101 (fun z => ?_) (fun _ => ?_)
      · rw [e0, zn_eq (by omega) (by omega)] at z
        exact absurd q3 z
      refine zb_Walls_out_106 ?_
      have only : ∀ j', j' < i + 1 → a_ouQ (x_s x) (v_p (x_v x) c) t (l_bci (v_p (x_v x) c) j' (v_p (x_v x) c).length) → j' = i := by
        intro j' hj' hq
        by_cases e : j' = i
        · exact e
        · exfalso
          rw [q3] at c1
          have hm' : j' ∈ (List.range i).filter (fun j => decide (a_ouQ (x_s x) (v_p (x_v x) c) t (l_bci (v_p (x_v x) c) j (v_p (x_v x) c).length))) := List.mem_filter.mpr ⟨List.mem_range.mpr (by omega), decide_eq_true hq⟩
          rw [List.eq_nil_of_length_eq_zero c1.symm] at hm'
          exact absurd hm' (by simp)
      refine go _ _ hbi ⟨cnt, fun _ => ⟨⟨i, by omega, rfl, hq'⟩, fun j' hj' hq => ?_, fun b => ?_⟩⟩
      · rw [only j' hj' hq]
        exact Nat.le_refl _
      · constructor
        · intro z j' hj' hq
          rw [only j' hj' hq]
          exact z
        · intro z
          exact z i (by omega) hq'
end
