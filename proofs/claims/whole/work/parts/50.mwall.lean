/-! walls told as texts -/
def wl_st (s : aS) (v : aV) (X : Nat → Nat) : Nat → Nat × aV
  | 0 => (1, a_pl v (s_n s))
  | i + 1 => if X i = 45 then wl_st s v X i else if X i = 47 then ((wl_st s v X i).1 + 1, a_nc (wl_st s v X i).2 (wl_st s v X i).1) else ((wl_st s v X i).1, a_put (wl_st s v X i).2 (X i - 97) ((wl_st s v X i).1 - 1))
def wl_be (X : Nat → Nat) (i : Nat) : Bool := decide (i = 0) || decide (X (i - 1) = 47)
def wl_ok (s : aS) (v : aV) (X : Nat → Nat) (i : Nat) : Bool := if X i = 45 then wl_be X i else if X i = 47 then !(wl_be X i) && decide ((wl_st s v X i).1 < 6) else (wl_be X i || decide (X (i - 1) ≠ 45)) && decide (97 ≤ X i ∧ X i - 97 < s_n s) && decide (v_w (wl_st s v X i).2 (X i - 97) = 0) && decide ((v_p (wl_st s v X i).2 ((wl_st s v X i).1 - 1)).length ≠ 4)
abbrev wl_b (x : tX) : Option Nat := sc_b (wl_ok (x_s x) (x_v x) (x_X x)) (decide (x_L x ≠ 0 ∧ x_X x (x_L x - 1) ≠ 47)) (x_L x)
def wl_ho (E : (Nat → Int32) → Int32) (s : aS) (w : aV) (k : Nat) : Bool := (List.range k).all (fun c => l_ho E s (v_y w) c (v_p w c))
def to_wall (x : tX) : Int32 × tX := match wl_b x with
  | some p => (-1 - nI p, x_t0 x)
  | none => if wl_ho (x_E x) (x_s x) (wl_st (x_s x) (x_v x) (x_X x) (x_L x)).2 (wl_st (x_s x) (x_v x) (x_X x) (x_L x)).1 = true then (nI (wl_st (x_s x) (x_v x) (x_X x) (x_L x)).1, (s_cl (x_s x) (wl_st (x_s x) (x_v x) (x_X x) (x_L x)).1, (wl_st (x_s x) (x_v x) (x_X x) (x_L x)).2, [], (x_K x, x_T x), (0, x_X x), x_r x, fun _ => none, fun _ => none, x_m x + 1)) else (-200, x_t0 x)
section
variable {s : aS} {v w : aV}
theorem aI_pl (h : aI s v) : aI (s_cl s 1) (a_pl v (s_n s)) := by
  obtain ⟨h1, h2, h3, h5, h6, h7, h8, h10, h11⟩ := id h
  have hw : ∀ b, v_w (a_pl v (s_n s)) b = 0 := fun b => by
    show (if b < s_n s then 0 else v_w v b) = 0
    split
    · rfl
    · exact h3 b (by omega)
  refine ⟨⟨h1.1, Nat.le_refl _, by show 1 ≤ 6; omega, h1.2.2.2⟩, fun b => by rw [hw b]; omega, fun b _ => hw b, fun c hc => ?_, fun b _ hb => ?_, fun b _ hb => ?_, h8, h10, h11⟩
  · have hc0 : c < s_c s := Nat.lt_of_lt_of_le hc h1.2.1
    have e : v_p (a_pl v (s_n s)) c = [] := by
      show (v_p v c).filter (fun b => decide (s_n s ≤ b)) = []
      rw [List.filter_eq_nil_iff]
      intro b hb
      have := ((h.mm hc0 b).mp hb).1
      simp
      omega
    rw [e]
    refine ⟨List.nodup_nil, by simp, fun b => ?_⟩
    rw [hw b]
    simp
  · rw [hw b] at hb; omega
  · rw [hw b] at hb; omega
theorem aI_nc {k : Nat} (h : aI (s_cl s k) w) (hk : k < 6) : aI (s_cl s (k + 1)) (a_nc w k) := by
  obtain ⟨h1, h2, h3, h5, h6, h7, h8, h10, h11⟩ := id h
  refine ⟨⟨h1.1, by show 1 ≤ k + 1; omega, by show k + 1 ≤ 6; omega, h1.2.2.2⟩, h2, h3, fun c hc => ?_, fun b hb hw => ?_, h7, h8, h10, h11⟩
  · show (a_upl (v_p w) k [] c).Nodup ∧ (a_upl (v_p w) k [] c).length ≤ 4 ∧ ∀ b, b ∈ a_upl (v_p w) k [] c ↔ _
    have hc' : c < k + 1 := hc
    by_cases e : c = k
    · rw [show a_upl (v_p w) k [] c = [] from if_pos e]
      refine ⟨List.nodup_nil, by simp, fun b => ?_⟩
      constructor
      · intro q; exact absurd q (by simp)
      · rintro ⟨q1, q2, q3⟩
        have : v_h w b < k := h6 b q1 q2
        have q3' : v_h w b = c := q3
        omega
    · rw [show a_upl (v_p w) k [] c = v_p w c from if_neg e]
      exact h5 c (by show c < k; omega)
  · have : v_h w b < k := h6 b hb hw
    show v_h w b < k + 1
    omega
theorem mI_of {f : Nat → Int32} (hI : aI s v) (hV : mV s v f) {c : Nat} (hc : c < s_c s) : mI s f c (v_p v c) := by
  have h6 : s_c s ≤ 6 := hI.1.2.2.1
  refine ⟨fun b hb => ((hI.mm hc b).mp hb).1, fun b hb => ?_⟩
  have h3 := hI.2.1 b
  rw [hI.mm hc b, hV.1 b hb, zn_eq (by omega) (by omega)]
  constructor
  · rintro ⟨h1, h2⟩
    have hh := hI.2.2.2.2.1 b hb h1
    rw [hV.2.1 b hb (Or.inl h1), zn_eq (by omega) (by omega)] at h2
    exact ⟨hb, h1, h2⟩
  · rintro ⟨-, h1, h2⟩
    refine ⟨h1, ?_⟩
    rw [hV.2.1 b hb (Or.inl h1), h2]
theorem mC_of {f : Nat → Int32} (hI : aI s v) (hV : mV s v f) {c : Nat} (hc : c < s_c s) : mC s f c (v_p v c) := by
  refine ⟨hI.nd hc, hI.l4 hc, mI_of hI hV hc, fun b hb => ?_⟩
  obtain ⟨h1, h2, h3⟩ := (hI.mm hc b).mp hb
  rw [hV.2.2.1 b h1 h2, h3]
/-- what has been read of a wall -/
def wR (s : aS) (k : Nat) (w : aV) (m : Nat) (τ : zS) : Prop := aI (s_cl s k) w ∧ (∀ b, v_w w b = 0 ∨ v_w w b = 1) ∧ m < 4096 ∧ (∀ b, m.testBit b = decide (v_w w b = 1)) ∧ ∀ b, b < s_n s → v_w w b = 1 → τ.1 71 b = nI (v_h w b) ∧ τ.1 72 b = nI ((v_p w (v_h w b)).idxOf b)
theorem wR.ini {τ : zS} (h : aI s v) : wR s 1 (a_pl v (s_n s)) 0 τ := by
  have hw : ∀ b, v_w (a_pl v (s_n s)) b = 0 := fun b => by
    show (if b < s_n s then 0 else v_w v b) = 0
    split
    · rfl
    · exact h.2.2.1 b (by omega)
  refine ⟨aI_pl h, fun b => Or.inl (hw b), by decide, fun b => ?_, fun b _ hb => ?_⟩
  · rw [hw b, Nat.zero_testBit]; rfl
  · rw [hw b] at hb; omega
theorem wR.nc {k m : Nat} {τ : zS} (h : wR s k w m τ) (hk : k < 6) : wR s (k + 1) (a_nc w k) m τ := by
  obtain ⟨h1, h2, h3, h4, h5⟩ := h
  refine ⟨aI_nc h1 hk, h2, h3, h4, fun b hb hw => ?_⟩
  obtain ⟨q1, q2⟩ := h5 b hb hw
  have : v_h w b < k := h1.2.2.2.2.1 b hb hw
  refine ⟨q1, ?_⟩
  show _ = nI ((a_upl (v_p w) k [] (v_h w b)).idxOf b)
  rw [show a_upl (v_p w) k [] (v_h w b) = v_p w (v_h w b) from if_neg (by omega)]
  exact q2
theorem wR.put {k m b : Nat} {τ : zS} (h : wR s k w m τ) (hb : b < s_n s) (hw : v_w w b = 0) (hk : 1 ≤ k) (h4 : (v_p w (k - 1)).length < 4) : wR s k (a_put w b (k - 1)) (m ||| 2 ^ b) (z_pI (z_pI τ 71 b (nI (k - 1))) 72 b (nI (v_p w (k - 1)).length)) := by
  obtain ⟨g1, g2, g3, g4, g5⟩ := h
  have hn : s_n s ≤ 12 := g1.1.1
  have hc : k - 1 < s_c (s_cl s k) := by show k - 1 < k; omega
  have hbn : ∀ c, c < k → b ∉ v_p w c := fun c hc' q => by have := ((g1.mm (show c < s_c (s_cl s k) from hc') b).mp q).2.1; omega
  refine ⟨aI_put g1 hb (by omega) hc h4, fun b' => ?_, ?_, fun b' => ?_, fun b' hb' hq => ?_⟩
  · show a_up (v_w w) b 1 b' = 0 ∨ a_up (v_w w) b 1 b' = 1
    by_cases e : b' = b
    · rw [e, a_up_s]; exact Or.inr rfl
    · rw [a_up_n e]; exact g2 b'
  · have h2 : 2 ^ b < 2 ^ 12 := Nat.pow_lt_pow_right (by decide) (by omega)
    exact Nat.or_lt_two_pow (n := 12) g3 h2
  · rw [Nat.testBit_or, g4 b', Nat.testBit_two_pow]
    show _ = decide (a_up (v_w w) b 1 b' = 1)
    by_cases e : b' = b
    · rw [e, a_up_s]; simp
    · rw [a_up_n e]
      have : ¬ b = b' := fun z => e z.symm
      simp [this]
  · change a_up (v_w w) b 1 b' = 1 at hq
    show _ = nI (a_up (v_h w) b (k - 1) b') ∧ _ = nI ((a_upl (v_p w) (k - 1) (v_p w (k - 1) ++ [b]) (a_up (v_h w) b (k - 1) b')).idxOf b')
    by_cases e : b' = b
    · subst e
      rw [a_up_s, z_pI_ne (show 71 ≠ 72 by decide), z_pI_at, z_pI_at, show a_upl (v_p w) (k - 1) (v_p w (k - 1) ++ [b']) (k - 1) = v_p w (k - 1) ++ [b'] from if_pos rfl, List.idxOf_append, if_neg (hbn _ (by omega))]
      exact ⟨rfl, by simp⟩
    · rw [a_up_n e] at hq
      rw [a_up_n e, z_pI_ne (show 71 ≠ 72 by decide), z_pI_ne2 e, z_pI_ne2 e, z_pI_ne (show 72 ≠ 71 by decide)]
      obtain ⟨q1, q2⟩ := g5 b' hb' hq
      refine ⟨q1, ?_⟩
      rw [q2]
      have hh : v_h w b' < k := g1.2.2.2.2.1 b' hb' hq
      by_cases e2 : v_h w b' = k - 1
      · have hm : b' ∈ v_p w (k - 1) := (g1.mm hc b').mpr ⟨hb', hq, e2⟩
        rw [e2, show a_upl (v_p w) (k - 1) (v_p w (k - 1) ++ [b]) (k - 1) = v_p w (k - 1) ++ [b] from if_pos rfl, List.idxOf_append, if_pos hm]
      · rw [show a_upl (v_p w) (k - 1) (v_p w (k - 1) ++ [b]) (v_h w b') = v_p w (v_h w b') from if_neg e2]
theorem wl_y (X : Nat → Nat) : ∀ i, v_y (wl_st s v X i).2 = v_y v ∧ v_f (wl_st s v X i).2 = v_f v
  | 0 => ⟨rfl, rfl⟩
  | i + 1 => by
    have ih := wl_y X i
    rw [wl_st]
    split
    · exact ih
    · split
      · exact ih
      · exact ih
end
section
variable {x : tX} {σ τ u : zS}
/-- a place in a wall's text, all before it fits -/
def wP (x : tX) (i k m : Nat) (τ : zS) : Prop := i ≤ x_L x ∧ (∀ j, j < i → wl_ok (x_s x) (x_v x) (x_X x) j = true) ∧ (wl_st (x_s x) (x_v x) (x_X x) i).1 = k ∧ 1 ≤ k ∧ k ≤ 6 ∧ wR (x_s x) k (wl_st (x_s x) (x_v x) (x_X x) i).2 m τ
theorem mc_readColumn {L : Nat} {qa : Bool} {e : Nat → Int32} (hn : s_n (x_s x) ≤ 12) (hL80 : x_L x ≤ 80) {i n m : Nat} (hC : rd_C (x_L x) (x_X x) qa e τ) (hr12 : τ.2 63 12 = 68) (hf : τ.1 63 1 = nI (s_n (x_s x))) (hP : wP x i (n + 1) m τ) (hbe : wl_be (x_X x) i = true) (hem : v_p (wl_st (x_s x) (x_v x) (x_X x) i).2 n = []) (hnd : i < x_L x → x_X x i ≠ 45) : z_Ci 3 zm_Model_readColumn [.inr 63, .inl (nI n), .inl (nI m)] (p_s τ (i, none)) (fun r u => ∃ τ' q' m', r = nI m' ∧ u = p_s τ' q' ∧ zT (fun o => o = 71 ∨ o = 72) τ τ' ∧ ((∃ a, q' = (a, some a) ∧ a ≤ 80 ∧ wl_b x = some a) ∨ (∃ i', q' = (i', none) ∧ i < i' ∧ wP x i' (n + 1) m' τ' ∧ x_X x (i' - 1) ≠ 47 ∧ (i' < x_L x → x_X x i' ≠ 47 → wl_ok (x_s x) (x_v x) (x_X x) i' = false)))) := by
  have e0 : (0 : Int32) = nI 0 := rfl
  refine z_Ci_of (by decide) (Nat.le_of_ble_eq_true rfl) (fun Γ hd he => ?_)
  show z_J Γ zm_Model_readColumn 0 [some (.inr 63), some (.inl (nI n)), some (.inl (nI m)), none, none, none] [] (p_s τ (i, none))
  refine zb_Model_readColumn_0 ?_
  refine zj_forM (I := fun M Lc u => ∃ k τ' m', M = 10 - k ∧ k ≤ 4 ∧ Lc = [some (.inr 63), some (.inl (nI n)), none, some (.inl (nI m')), some (.inl (nI k)), none] ∧ u = p_s τ' (i + k, none) ∧ zT (fun o => o = 71 ∨ o = 72) τ τ' ∧ wP x (i + k) (n + 1) m' τ' ∧ (v_p (wl_st (x_s x) (x_v x) (x_X x) (i + k)).2 n).length = k ∧ (0 < k → x_X x (i + k - 1) ≠ 47 ∧ x_X x (i + k - 1) ≠ 45)) (fun M Lc u hI kk => ?_) 10 _ _ ⟨0, τ, m, rfl, by omega, rfl, rfl, zT.rf, hP, by rw [Nat.add_zero, hem]; rfl, fun h => absurd h (by omega)⟩
  obtain ⟨k, τ', m', hM, hk4, rfl, rfl, hT, hW, hlen, hprev⟩ := hI
  obtain ⟨w1, w2, w3, w4, w5, w6⟩ := id hW
  have hC' := hC.kT hT (by decide) (by decide) (by rw [hr12]; decide)
  have hT256 := fun j (hj : j < x_L x) => hC'.T256 hj
  have hf' : τ'.1 63 1 = nI (s_n (x_s x)) := by rw [hT.1 63 (by decide)]; exact hf
  have hq : d_ok (x_L x) (i + k, none) := ⟨w1, fun p hp => by cases hp⟩
  have done : 0 < k → (i + k < x_L x → x_X x (i + k) ≠ 47 → wl_ok (x_s x) (x_v x) (x_X x) (i + k) = false) → z_J Γ zm_Model_readColumn 115 [none, none, none, some (.inl (nI m')), none, none] [] (p_s τ' (i + k, none)) := fun h1 h2 => by
    refine zb_Model_readColumn_115 ?_
    rw [he]
    exact ⟨_, rfl, τ', (i + k, none), m', rfl, rfl, hT, Or.inr ⟨i + k, rfl, by omega, hW, (hprev h1).1, h2⟩⟩
  refine zb_Model_readColumn_5 (mn_fine (by intro p' h'; simp at h')) (by omega) (fun r u hr => ?_)
  obtain ⟨rfl, rfl⟩ := hr
  refine zb_Model_readColumn_9 (fun z => absurd z (by simp [z_tf]; decide)) (fun _ => ?_)
  -- a book's letter is looked at
  have go : (k = 0 ∨ (i + k < x_L x ∧ 97 ≤ x_X x (i + k) ∧ x_X x (i + k) < 123)) → z_J Γ zm_Model_readColumn 31 [some (.inr 63), some (.inl (nI n)), none, some (.inl (nI m')), some (.inl (nI k)), none] [] (p_s τ' (i + k, none)) := by
    intro hgo
    refine zb_Model_readColumn_31 (mc_here hC' hq) (by omega) (fun r u hr => ?_)
    obtain ⟨rfl, rfl⟩ := hr
    -- the fault
    have flt : (i + k < x_L x → ¬ (97 ≤ x_X x (i + k) ∧ x_X x (i + k) - 97 < s_n (x_s x) ∧ v_w (wl_st (x_s x) (x_v x) (x_X x) (i + k)).2 (x_X x (i + k) - 97) = 0 ∧ k ≠ 4)) → z_J Γ zm_Model_readColumn 64 [some (.inr 63), some (.inl (nI n)), none, some (.inl (nI m')), some (.inl (nI k)), none] [] (p_s τ' (i + k, none)) := by
      intro hbad
      have hsc : wl_b x = some (i + k) := by
        by_cases hlt : i + k < x_L x
        · refine sc_b_at w2 hlt ?_
          unfold wl_ok
          by_cases c45 : x_X x (i + k) = 45
          · exfalso
            rcases hgo with z | z
            · subst z
              exact hnd hlt c45
            · omega
          · rw [if_neg c45]
            by_cases c47 : x_X x (i + k) = 47
            · rw [if_pos c47]
              rcases hgo with z | z
              · subst z
                rw [Nat.add_zero, hbe]
                rfl
              · omega
            · rw [if_neg c47, w3]
              have := hbad hlt
              by_cases p1 : 97 ≤ x_X x (i + k) ∧ x_X x (i + k) - 97 < s_n (x_s x)
              · by_cases p2 : v_w (wl_st (x_s x) (x_v x) (x_X x) (i + k)).2 (x_X x (i + k) - 97) = 0
                · have p3 : k = 4 := by
                    by_cases p3 : k = 4
                    · exact p3
                    · exact absurd ⟨p1.1, p1.2, p2, p3⟩ this
                  have p4 : ¬ (v_p (wl_st (x_s x) (x_v x) (x_X x) (i + k)).2 (n + 1 - 1)).length ≠ 4 := by
                    rw [Nat.add_sub_cancel, hlen]
                    exact fun z => z p3
                  simp only [p4, decide_false, Bool.and_false]
                · simp only [p2, decide_false, Bool.and_false, Bool.false_and]
              · simp only [p1, decide_false, Bool.and_false, Bool.false_and]
        · have eL : x_L x = i + k := by omega
          have hk0 : k = 0 := by
            rcases hgo with z | z
            · exact z
            · omega
          subst hk0
          show sc_b _ _ _ = _
          rw [sc_b_end (fun j hj => w2 j (by omega)), if_neg (by
            rw [decide_eq_true_eq]
            rintro ⟨z1, z2⟩
            unfold wl_be at hbe
            rw [Bool.or_eq_true, decide_eq_true_eq, decide_eq_true_eq] at hbe
            rcases hbe with z | z
            · omega
            · rw [eL, Nat.add_zero] at z2
              exact z2 z), eL]
      refine zb_Model_readColumn_64 (dc := 1) (P := fun u => u = p_s τ' (i + k, some (i + k))) (by rw [p_s_at]; exact mn_fault (by intro p' h'; simp at h')) (by omega) (fun u hu => ?_)
      subst hu
      refine zb_Model_readColumn_72 (zb_Model_readColumn_112 ?_)
      refine zb_Model_readColumn_5 (mn_fine (by intro p' h'; simp at h'; omega)) (by omega) (fun r u hr => ?_)
      obtain ⟨rfl, rfl⟩ := hr
      refine zb_Model_readColumn_9 (fun _ => ?_) (fun z => absurd (by simp [z_tf]; decide) z)
      refine zb_Model_readColumn_115 ?_
      rw [he]
      exact ⟨_, rfl, τ', (i + k, some (i + k)), m', rfl, rfl, hT, Or.inl ⟨i + k, rfl, by omega, hsc⟩⟩
    refine zb_Model_readColumn_35 (fun z => ?_) (fun z => ?_)
    · rw [zn_eq (by omega) (by omega)] at z
      exact flt (fun _ p => p.2.2.2 z)
    rw [zn_eq (by omega) (by omega)] at z
    refine zb_Model_readColumn_46 (mc_isBook (s := x_s x) hn (by rw [p_s_k _ _ (by decide) (by decide)]; exact hf') _) (by omega) (fun r u hr => ?_)
    obtain ⟨rfl, rfl⟩ := hr
    refine zb_Model_readColumn_52 (fun z2 => ?_) (fun z2 => ?_)
    · rw [z_tf_eq0] at z2
      refine flt (fun hlt p => ?_)
      rw [show d_he (x_L x) (x_X x) (i + k, none).1 = nI (x_X x (i + k)) from if_pos hlt, pk_sub p.1, z_isn_n (by omega) p.2.1] at z2
      exact absurd z2 (by decide)
    rw [z_tf_eq0, Bool.not_eq_false] at z2
    have hlt : i + k < x_L x := by
      rcases Nat.lt_or_ge (i + k) (x_L x) with q | q
      · exact q
      · rw [show d_he (x_L x) (x_X x) (i + k, none).1 = -1 from if_neg (by show ¬ (i + k < x_L x); omega)] at z2
        have : z_isn (-1 - nI 97) (s_n (x_s x)) = false := by
          unfold z_isn
          have : decide ((0 : Int32) ≤ -1 - nI 97) = false := by decide
          rw [this]
          rfl
        rw [this] at z2
        exact absurd z2 (by decide)
    have hXb := hT256 _ hlt
    rw [show d_he (x_L x) (x_X x) (i + k, none).1 = nI (x_X x (i + k)) from if_pos hlt] at z2 ⊢
    have h97 : 97 ≤ x_X x (i + k) := by
      rcases Nat.lt_or_ge (x_X x (i + k)) 97 with q | q
      · have key : ∀ j, j < 97 → decide ((0 : Int32) ≤ nI j - nI 97) = false := by decide +kernel
        unfold z_isn at z2
        rw [key _ q, Bool.false_and] at z2
        exact absurd z2 (by decide)
      · exact q
    rw [pk_sub h97] at z2 ⊢
    obtain ⟨b, hb, eb⟩ := z_isn_t (by omega) z2
    rw [zn_eq (by omega) (by omega)] at eb
    rw [eb]
    obtain ⟨g1, g2, g3, g4, g5⟩ := id w6
    refine zb_Model_readColumn_55 (mc_has m' b (by omega) (by omega) _) (by omega) (fun r u hr => ?_)
    obtain ⟨rfl, rfl⟩ := hr
    refine zb_Model_readColumn_61 (fun z3 => ?_) (fun z3 => ?_)
    rotate_left
    · rw [z_tf_eq0, g4 b, Bool.not_eq_false, decide_eq_true_eq] at z3
      refine flt (fun _ p => ?_)
      rw [eb] at p
      omega
    rw [z_tf_eq0, g4 b, decide_eq_false_iff_not] at z3
    have hw0 : v_w (wl_st (x_s x) (x_v x) (x_X x) (i + k)).2 b = 0 := by
      rcases g2 b with q | q
      · exact q
      · exact absurd q z3
    refine zb_Model_readColumn_75 (k1 := b) (k2 := b) (z_ixn (by omega)) (z_ixn (by omega)) (zb_Model_readColumn_112 ?_)
    rw [p_s_at1, p_s_pI _ _ (by decide), p_s_pI _ _ (by decide), zn_shl (by omega), zn_or, nI_add]
    have hput := w6.put hb hw0 (by omega) (by rw [Nat.add_sub_cancel, hlen]; omega)
    rw [Nat.add_sub_cancel, hlen] at hput
    have c45 : ¬ x_X x (i + k) = 45 := by omega
    have c47 : ¬ x_X x (i + k) = 47 := by omega
    have est : wl_st (x_s x) (x_v x) (x_X x) (i + k + 1) = (n + 1, a_put (wl_st (x_s x) (x_v x) (x_X x) (i + k)).2 b n) := by
      rw [wl_st, if_neg c45, if_neg c47, w3, Nat.add_sub_cancel, eb]
    have hok : wl_ok (x_s x) (x_v x) (x_X x) (i + k) = true := by
      unfold wl_ok
      rw [if_neg c45, if_neg c47, w3, Nat.add_sub_cancel, hlen, eb, hw0]
      have p1 : 97 ≤ x_X x (i + k) ∧ b < s_n (x_s x) := ⟨h97, hb⟩
      have p2 : (wl_be (x_X x) (i + k) || decide (x_X x (i + k - 1) ≠ 45)) = true := by
        by_cases hk0 : k = 0
        · subst hk0
          rw [Nat.add_zero, hbe]
          rfl
        · have := (hprev (by omega)).2
          simp [this]
      simp only [p1, p2, decide_true, Bool.and_true, and_self, ne_eq, z, not_false_eq_true]
    refine kk (10 - (k + 1)) _ _ (by omega) ⟨k + 1, z_pI (z_pI τ' 71 b (nI n)) 72 b (nI k), m' ||| 2 ^ b, rfl, by omega, rfl, rfl, (hT.pI (Or.inl rfl)).pI (Or.inr rfl), ⟨by omega, fun j hj => ?_, by rw [← Nat.add_assoc, est], by omega, w5, by rw [← Nat.add_assoc, est]; exact hput⟩, ?_, fun _ => ?_⟩
    · by_cases e' : j = i + k
      · rw [e']; exact hok
      · exact w2 j (by omega)
    · rw [← Nat.add_assoc, est]
      show (a_upl (v_p (wl_st (x_s x) (x_v x) (x_X x) (i + k)).2) n _ n).length = k + 1
      rw [show a_upl (v_p (wl_st (x_s x) (x_v x) (x_X x) (i + k)).2) n (v_p (wl_st (x_s x) (x_v x) (x_X x) (i + k)).2 n ++ [b]) n = v_p (wl_st (x_s x) (x_v x) (x_X x) (i + k)).2 n ++ [b] from if_pos rfl]
      simp [hlen]
    · rw [show i + (k + 1) - 1 = i + k by omega]
      exact ⟨c47, c45⟩
  refine zb_Model_readColumn_12 (fun z => ?_) (fun z => ?_)
  · rw [e0, zn_eq (by omega) (by omega)] at z
    exact go (Or.inl z)
  rw [e0, zn_eq (by omega) (by omega)] at z
  refine zb_Model_readColumn_17 (mc_here hC' hq) (by omega) (fun r u hr => ?_)
  obtain ⟨rfl, rfl⟩ := hr
  refine zb_Model_readColumn_21 (mc_in _ _ _ _) (by omega) (fun r u hr => ?_)
  obtain ⟨rfl, rfl⟩ := hr
  have hin := d_he_in hT256 (a := i + k) (f := 97) (m := 26) (by omega) (by omega)
  have e122 : nI (97 + 26 - 1) = nI 122 := rfl
  rw [e122] at hin
  rw [hin]
  refine zb_Model_readColumn_28 (fun z2 => ?_) (fun z2 => ?_)
  · rw [z_tf_eq0, decide_eq_false_iff_not] at z2
    refine done (by omega) (fun hlt c47 => ?_)
    unfold wl_ok
    by_cases c45 : x_X x (i + k) = 45
    · rw [if_pos c45]
      unfold wl_be
      have := (hprev (by omega)).1
      have h2 : ¬ i + k = 0 := by omega
      rw [decide_eq_false h2, decide_eq_false this]
      rfl
    · rw [if_neg c45, if_neg c47]
      have : ¬ (97 ≤ x_X x (i + k) ∧ x_X x (i + k) - 97 < s_n (x_s x)) := fun p => z2 ⟨hlt, p.1, by omega⟩
      simp only [this, decide_false, Bool.and_false, Bool.false_and]
  · rw [z_tf_eq0, decide_eq_false_iff_not, Decidable.not_not] at z2
    exact go (Or.inr ⟨z2.1, z2.2.1, by omega⟩)
end
