/-! the model's rows as they change -/
theorem z_a53 {a : Nat} (h : z_kd a = (11, 53)) : a = 64 ∨ a = 77 ∨ a = 78 := by
  have key : ∀ a, a < 89 → z_kd a = (11, 53) → a = 64 ∨ a = 77 ∨ a = 78 := by decide +kernel
  exact key a (z_lt h (by decide)) h
theorem l_idx_er {b b' : Nat} : ∀ {l : List Nat}, b ∈ l → b' ∈ l → b' ≠ b → (l.erase b).idxOf b' = if l.idxOf b < l.idxOf b' then l.idxOf b' - 1 else l.idxOf b'
  | [], h, _, _ => absurd h (by simp)
  | x :: t, h, h', hne => by
    by_cases e : x = b
    · subst e
      have e1 : (x :: t).erase x = t := by simp
      have e2 : (x :: t).idxOf x = 0 := by simp
      have e3 : (x :: t).idxOf b' = t.idxOf b' + 1 := by
        rw [List.idxOf_cons]
        have : (x == b') = false := by simp; exact fun q => hne q.symm
        simp [this]
      rw [e1, e2, e3, if_pos (by omega)]
      omega
    · have e1 : (x :: t).erase b = x :: t.erase b := by
        rw [List.erase_cons]
        simp [e]
      have e2 : (x :: t).idxOf b = t.idxOf b + 1 := by
        rw [List.idxOf_cons, beq_eq_false_iff_ne.mpr e]
        rfl
      have ht : b ∈ t := by
        rcases List.mem_cons.mp h with q | q
        · exact absurd q.symm e
        · exact q
      by_cases e' : x = b'
      · subst e'
        rw [e1, e2]
        simp
      · have ht' : b' ∈ t := by
          rcases List.mem_cons.mp h' with q | q
          · exact absurd q.symm e'
          · exact q
        have e3 : (x :: t).idxOf b' = t.idxOf b' + 1 := by
          rw [List.idxOf_cons, beq_eq_false_iff_ne.mpr e']
          rfl
        have e4 : (x :: t.erase b).idxOf b' = (t.erase b).idxOf b' + 1 := by
          rw [List.idxOf_cons, beq_eq_false_iff_ne.mpr e']
          rfl
        rw [e1, e2, e3, e4, l_idx_er ht ht' hne]
        by_cases q : t.idxOf b < t.idxOf b'
        · rw [if_pos q, if_pos (by omega)]
          omega
        · rw [if_neg q, if_neg (by omega)]
section
variable {s : aS} {v w : aV} {σ u : zS} {a : Nat} {f g : Nat → Int32}
theorem mV.put (hI : aI s v) (h : mV s v f) {b c : Nat} (hb : b < s_n s) (hw : v_w v b ≠ 1) (hc : c < s_c s) (h1 : g b = nI 1) (h2 : g (12 + b) = nI c) (h3 : g (24 + b) = nI (v_p v c).length) (ho : ∀ k, k ≠ b → k ≠ 12 + b → k ≠ 24 + b → g k = f k) : mV s (a_put v b c) g := by
  have hn : s_n s ≤ 12 := hI.1.1
  have hbn : ∀ {c' : Nat}, c' < s_c s → b ∉ v_p v c' := fun hc' q => hw ((hI.mm hc' b).mp q).2.1
  refine ⟨fun b' hb' => ?_, fun b' hb' hq => ?_, fun b' hb' hq => ?_, fun b' hb' hq => ?_, fun r hr => ?_, ?_⟩
  · show _ = nI (a_up (v_w v) b 1 b')
    by_cases e : b' = b
    · subst e; rw [a_up_s, h1]
    · rw [a_up_n e, ho _ e (by omega) (by omega)]; exact h.1 b' hb'
  · show _ = nI (a_up (v_h v) b c b')
    by_cases e : b' = b
    · subst e; rw [a_up_s, h2]
    · change a_up (v_w v) b 1 b' = 1 ∨ a_up (v_w v) b 1 b' = 2 at hq
      rw [a_up_n e] at hq
      rw [a_up_n e, ho _ (by omega) (by omega) (by omega)]; exact h.2.1 b' hb' hq
  · show _ = nI ((a_upl (v_p v) c (v_p v c ++ [b]) (a_up (v_h v) b c b')).idxOf b')
    by_cases e : b' = b
    · subst e
      rw [a_up_s, show a_upl (v_p v) c (v_p v c ++ [b']) c = v_p v c ++ [b'] from if_pos rfl, List.idxOf_append, if_neg (hbn hc), h3]
      simp
    · change a_up (v_w v) b 1 b' = 1 at hq
      rw [a_up_n e] at hq
      rw [a_up_n e, ho _ (by omega) (by omega) (by omega), h.2.2.1 b' hb' hq]
      by_cases e2 : v_h v b' = c
      · have hm : b' ∈ v_p v c := (hI.mm hc b').mpr ⟨hb', hq, e2⟩
        rw [e2, show a_upl (v_p v) c (v_p v c ++ [b]) c = v_p v c ++ [b] from if_pos rfl, List.idxOf_append, if_pos hm]
      · rw [show a_upl (v_p v) c (v_p v c ++ [b]) (v_h v b') = v_p v (v_h v b') from if_neg e2]
  · change a_up (v_w v) b 1 b' = 2 at hq
    by_cases e : b' = b
    · subst e; rw [a_up_s] at hq; omega
    · rw [a_up_n e] at hq
      rw [ho _ (by omega) (by omega) (by omega)]; exact h.2.2.2.1 b' hb' hq
  · rw [ho _ (by omega) (by omega) (by omega)]; exact h.2.2.2.2.1 r hr
  · rw [ho _ (by omega) (by omega) (by omega)]; exact h.2.2.2.2.2
theorem mV.lift (hI : aI s v) (h : mV s v f) {b t : Nat} (hb : b < s_n s) (ht : t = 0 ∨ t = 3) (h1 : g b = nI t) (ho : ∀ k, k ≠ b → (k < 24 ∨ 36 ≤ k) → g k = f k) (hp : ∀ b', b' < s_n s → b' ≠ b → v_w v b' = 1 → g (24 + b') = nI (((v_p v (v_h v b')).erase b).idxOf b')) : mV s (a_lift v b t) g := by
  have hn : s_n s ≤ 12 := hI.1.1
  refine ⟨fun b' hb' => ?_, fun b' hb' hq => ?_, fun b' hb' hq => ?_, fun b' hb' hq => ?_, fun r hr => ?_, ?_⟩
  · show _ = nI (a_up (v_w v) b t b')
    by_cases e : b' = b
    · subst e; rw [a_up_s, h1]
    · rw [a_up_n e, ho _ e (by omega)]; exact h.1 b' hb'
  · change a_up (v_w v) b t b' = 1 ∨ a_up (v_w v) b t b' = 2 at hq
    by_cases e : b' = b
    · subst e; rw [a_up_s] at hq; omega
    · rw [a_up_n e] at hq
      rw [ho _ (by omega) (by omega)]; exact h.2.1 b' hb' hq
  · change a_up (v_w v) b t b' = 1 at hq
    by_cases e : b' = b
    · subst e; rw [a_up_s] at hq; omega
    · rw [a_up_n e] at hq
      exact hp b' hb' e hq
  · change a_up (v_w v) b t b' = 2 at hq
    by_cases e : b' = b
    · subst e; rw [a_up_s] at hq; omega
    · rw [a_up_n e] at hq
      rw [ho _ (by omega) (by omega)]; exact h.2.2.2.1 b' hb' hq
  · rw [ho _ (by omega) (by omega)]; exact h.2.2.2.2.1 r hr
  · rw [ho _ (by omega) (by omega)]; exact h.2.2.2.2.2
theorem mV.lend (hI : aI s v) (h : mV s v f) {b r d : Nat} (hb : b < s_n s) (h1 : g b = nI 2) (h2 : g (12 + b) = nI r) (h3 : g (36 + b) = nI d) (ho : ∀ k, k ≠ b → k ≠ 12 + b → k ≠ 36 + b → (k < 24 ∨ 36 ≤ k) → g k = f k) (hp : ∀ b', b' < s_n s → b' ≠ b → v_w v b' = 1 → g (24 + b') = nI (((v_p v (v_h v b')).erase b).idxOf b')) : mV s (a_lend v b r d) g := by
  have hn : s_n s ≤ 12 := hI.1.1
  refine ⟨fun b' hb' => ?_, fun b' hb' hq => ?_, fun b' hb' hq => ?_, fun b' hb' hq => ?_, fun r hr => ?_, ?_⟩
  · show _ = nI (a_up (v_w v) b 2 b')
    by_cases e : b' = b
    · subst e; rw [a_up_s, h1]
    · rw [a_up_n e, ho _ e (by omega) (by omega) (by omega)]; exact h.1 b' hb'
  · show _ = nI (a_up (v_h v) b r b')
    change a_up (v_w v) b 2 b' = 1 ∨ a_up (v_w v) b 2 b' = 2 at hq
    by_cases e : b' = b
    · subst e; rw [a_up_s, h2]
    · rw [a_up_n e] at hq
      rw [a_up_n e, ho _ (by omega) (by omega) (by omega) (by omega)]; exact h.2.1 b' hb' hq
  · change a_up (v_w v) b 2 b' = 1 at hq
    show _ = nI (((v_p v (a_up (v_h v) b r b')).erase b).idxOf b')
    by_cases e : b' = b
    · subst e; rw [a_up_s] at hq; omega
    · rw [a_up_n e] at hq
      rw [a_up_n e]
      exact hp b' hb' e hq
  · change a_up (v_w v) b 2 b' = 2 at hq
    show _ = nI (a_up (v_d v) b d b')
    by_cases e : b' = b
    · subst e; rw [a_up_s, h3]
    · rw [a_up_n e] at hq
      rw [a_up_n e, ho _ (by omega) (by omega) (by omega) (by omega)]; exact h.2.2.2.1 b' hb' hq
  · rw [ho _ (by omega) (by omega) (by omega) (by omega)]; exact h.2.2.2.2.1 r hr
  · rw [ho _ (by omega) (by omega) (by omega) (by omega)]; exact h.2.2.2.2.2
/-- a book that is in no column, or the last of one -/
def a_last (s : aS) (v : aV) (b : Nat) : Prop := ∀ c, c < s_c s → b ∈ v_p v c → (v_p v c).idxOf b + 1 = (v_p v c).length
theorem a_last0 (hI : aI s v) {b : Nat} (hw : v_w v b ≠ 1) : a_last s v b := fun _ hc q => absurd ((hI.mm hc b).mp q).2.1 hw
theorem l_last {l : List Nat} (hN : l.Nodup) (h : 0 < l.length) : l.idxOf (l.getD (l.length - 1) 0) = l.length - 1 := (l_idx hN (by omega)).mp rfl
theorem l_getD_mem {l : List Nat} {k : Nat} (h : k < l.length) : l.getD k 0 ∈ l := by
  rw [List.getD_eq_getElem?_getD, List.getElem?_eq_getElem h]
  exact List.getElem_mem h
theorem a_last_top (hI : aI s v) {c : Nat} (hc : c < s_c s) (h : 0 < (v_p v c).length) : a_last s v (a_top v c) := by
  intro c' hc' hm
  have h1 : a_top v c ∈ v_p v c := l_getD_mem (by omega)
  have e : c' = c := by
    have q1 := ((hI.mm hc _).mp h1).2.2
    have q2 := ((hI.mm hc' _).mp hm).2.2
    omega
  subst e
  rw [l_last (hI.nd hc) h]
  omega
theorem mV.lift0 (hI : aI s v) (h : mV s v f) {b t : Nat} (hb : b < s_n s) (ht : t = 0 ∨ t = 3) (hl : a_last s v b) (h1 : g b = nI t) (ho : ∀ k, k ≠ b → g k = f k) : mV s (a_lift v b t) g := by
  have hn : s_n s ≤ 12 := hI.1.1
  refine h.lift hI hb ht h1 (fun k hk _ => ho k hk) (fun b' hb' hne hq => ?_)
  rw [ho _ (by omega), h.2.2.1 b' hb' hq]
  have hc := hI.2.2.2.2.1 b' hb' hq
  have hm : b' ∈ v_p v (v_h v b') := (hI.mm hc b').mpr ⟨hb', hq, rfl⟩
  by_cases q : b ∈ v_p v (v_h v b')
  · have h2 := hl _ hc q
    have h3 : (v_p v (v_h v b')).idxOf b' < (v_p v (v_h v b')).length := List.idxOf_lt_length_iff.mpr hm
    rw [l_idx_er q hm hne, if_neg (by omega)]
  · rw [List.erase_of_not_mem q]
theorem mR.upd (h : mR s v σ a) (hF : z_fr (fun q => q = a) σ u) (ha : z_kd a = (11, 53)) (hI : aI s w) (hV : mV s w (u.1 a)) : mR s w u a := by
  have ha := z_a53 ha
  refine ⟨hI, ?_, hV⟩
  unfold mS
  rw [(hF 63 (by omega)).1, (hF 65 (by omega)).1, (hF 66 (by omega)).1, (hF 67 (by omega)).1]
  exact h.2.1
theorem mc_put {b : Nat} (ha : z_kd a = (11, 53)) (hb : b < 12) (x y z : Int32) : z_Cv 0 zm_Model_put [.inr a, .inl (nI b), .inl x, .inl y, .inl z] σ (fun u => u = z_pI (z_pI (z_pI σ a b x) a (12 + b) y) a (24 + b) z) := by
  refine z_Cv_of (by decide) (Nat.le_of_ble_eq_true rfl) (fun Γ hd he => ?_)
  show z_J Γ zm_Model_put 0 [some (.inr a), some (.inl (nI b)), some (.inl x), some (.inl y), some (.inl z)] [] σ
  refine zb_Model_put_0 ha (k1 := b) (k2 := 12 + b) (k3 := 24 + b) (z_ixn (by omega)) ⟨nI_add _ _, by omega⟩ ⟨nI_add _ _, by omega⟩ ?_
  rw [he]
  exact ⟨rfl, rfl⟩
/-- the row when b is laid on c -/
def m_put (σ : zS) (a b c n : Nat) : zS := z_pI (z_pI (z_pI σ a b (nI 1)) a (12 + b) (nI c)) a (24 + b) (nI n)
theorem m_put_fr (σ : zS) (a b c n : Nat) : z_fr (fun q => q = a) σ (m_put σ a b c n) := z_fr.pI (F := fun q => q = a) (z_fr.pI (F := fun q => q = a) (z_fr.pI (F := fun q => q = a) z_fr.rf rfl) rfl) rfl
theorem mR.put (h : mR s v σ a) (ha : z_kd a = (11, 53)) {b c : Nat} (hb : b < s_n s) (hw : v_w v b ≠ 1) (hc : c < s_c s) (h4 : (v_p v c).length < 4) : mR s (a_put v b c) (m_put σ a b c (v_p v c).length) a := by
  have hn := h.n
  refine h.upd (m_put_fr _ _ _ _ _) ha (aI_put h.1 hb hw hc h4) (mV.put h.1 h.2.2 hb hw hc ?_ ?_ ?_ (fun k k1 k2 k3 => ?_))
  · unfold m_put
    rw [z_pI_ne2 (by omega), z_pI_ne2 (by omega), z_pI_at]
  · unfold m_put
    rw [z_pI_ne2 (by omega), z_pI_at]
  · exact z_pI_at _ _ _ _
  · unfold m_put
    rw [z_pI_ne2 k3, z_pI_ne2 k2, z_pI_ne2 k1]
theorem mc_goLay (hR : mR s v σ a) (ha : z_kd a = (11, 53)) {b c : Nat} (hb : b < s_n s) (hc : c < s_c s) : z_Cv 1 zm_Model_goLay [.inr 63, .inr a, .inl (nI b), .inl (nI c)] σ (fun u => u = m_put σ a b c (v_p v c).length) := by
  have hn := hR.n
  refine z_Cv_of (by decide) (Nat.le_of_ble_eq_true rfl) (fun Γ hd he => ?_)
  show z_J Γ zm_Model_goLay 0 [some (.inr 63), some (.inr a), some (.inl (nI b)), some (.inl (nI c))] [] σ
  refine zb_Model_goLay_0 ha (mc_inColumn hR.nb ha (hR.I hc)) (by omega) (fun r u h => ?_)
  obtain ⟨rfl, rfl⟩ := h
  refine zb_Model_goLay_10 ha (mc_put ha (by omega) _ _ _) (by omega) (fun u2 h => ?_)
  subst h
  refine zb_Model_goLay_16 ?_
  rw [he]
  refine ⟨rfl, ?_⟩
  rw [zn_bcl hn (hR.1.nd hc) (fun b' hb' => ((hR.1.mm hc b').mp hb').1)]
  rfl
theorem mc_takeOut (hR : mR s v σ a) (ha : z_kd a = (11, 53)) {b : Nat} (hb : b < s_n s) : z_Cv 0 zm_Model_takeOut [.inr 63, .inr a, .inl (nI b)] σ (fun u => z_fr (fun q => q = a) σ u ∧ (∀ k, (k < 24 ∨ 36 ≤ k) → u.1 a k = σ.1 a k) ∧ ∀ b', b' < s_n s → b' ≠ b → v_w v b' = 1 → u.1 a (24 + b') = nI (((v_p v (v_h v b')).erase b).idxOf b')) := by
  have hn := hR.n
  have hw3 := hR.w3
  have h53 := z_a53 ha
  refine z_Cv_of (by decide) (Nat.le_of_ble_eq_true rfl) (fun Γ hd he => ?_)
  show z_J Γ zm_Model_takeOut 0 [some (.inr 63), some (.inr a), some (.inl (nI b)), none] [] σ
  refine zb_Model_takeOut_0 ha (k1 := b) (z_ixn (by omega)) (fun h => ?_) (fun h => ?_)
  · rw [hR.fw hb, zn_eq (by have := hw3 b; omega) (by omega)] at h
    have hcb := hR.1.2.2.2.2.1 b hb h
    have h6 := hR.c6
    have hmb : b ∈ v_p v (v_h v b) := (hR.1.mm hcb b).mpr ⟨hb, h, rfl⟩
    have hl4 := hR.1.l4 hcb
    have hib : (v_p v (v_h v b)).idxOf b < (v_p v (v_h v b)).length := List.idxOf_lt_length_iff.mpr hmb
    refine zb_Model_takeOut_8 ha ?_
    refine zj_forS (b := s_n s) (fun i => [some (.inr 63), some (.inr a), some (.inl (nI b)), some (.inl (nI i))])
      (fun i u => z_fr (fun q => q = a) σ u ∧ (∀ k, (k < 24 ∨ 36 ≤ k) → u.1 a k = σ.1 a k) ∧ (∀ b', b' < i → b' ≠ b → v_w v b' = 1 → u.1 a (24 + b') = nI (((v_p v (v_h v b')).erase b).idxOf b')) ∧ ∀ b', b' < 12 → (b' = b ∨ i ≤ b') → u.1 a (24 + b') = σ.1 a (24 + b')) (fun i u hi hI kk => ?_) (fun u hI => ?_) 0 (Nat.zero_le _) _ ⟨z_fr.rf, fun _ _ => rfl, fun _ q => absurd q (by omega), fun _ _ _ => rfl⟩
    · obtain ⟨q1, q2, q3, q4⟩ := hI
      have hf : u.1 63 1 = nI (s_n s) := by rw [(q1 63 (by omega)).1]; exact hR.2.1.1
      refine zb_Model_takeOut_10 ha (fun h2 => ?_) (fun _ => ?_)
      · rw [hf] at h2
        exact absurd h2 (nI_ge hi (by omega))
      have nx : ∀ u', z_fr (fun q => q = a) σ u' → (∀ k, (k < 24 ∨ 36 ≤ k) → u'.1 a k = σ.1 a k) → (∀ b', b' ≠ i → u'.1 a (24 + b') = u.1 a (24 + b')) → (i = b → u'.1 a (24 + i) = u.1 a (24 + i)) → (i ≠ b → v_w v i = 1 → u'.1 a (24 + i) = nI (((v_p v (v_h v i)).erase b).idxOf i)) → z_J Γ zm_Model_takeOut 70 [some (.inr 63), some (.inr a), some (.inl (nI b)), some (.inl (nI i))] [] u' := by
        intro u' p1 p2 p3 p4 p5
        refine zb_Model_takeOut_70 ha ?_
        rw [nI_add]
        refine kk u' ⟨p1, p2, fun b' hb' hne hw => ?_, fun b' hb' hq => ?_⟩
        · by_cases e : b' = i
          · subst e; exact p5 hne hw
          · rw [p3 b' e]; exact q3 b' (by omega) hne hw
        · by_cases e : b' = i
          · subst e
            rw [p4 (by omega)]
            exact q4 b' hb' (by omega)
          · rw [p3 b' e]
            exact q4 b' hb' (by omega)
      have same : (i ≠ b → v_w v i = 1 → u.1 a (24 + i) = nI (((v_p v (v_h v i)).erase b).idxOf i)) → z_J Γ zm_Model_takeOut 70 [some (.inr 63), some (.inr a), some (.inl (nI b)), some (.inl (nI i))] [] u := fun p => nx u q1 q2 (fun _ _ => rfl) (fun _ => rfl) p
      have h3i := hw3 i
      refine zb_Model_takeOut_18 ha (fun h2 => ?_) (fun h2 => ?_)
      · rw [zn_eq (by omega) (by omega)] at h2
        exact same (fun q => absurd h2 q)
      rw [zn_eq (by omega) (by omega)] at h2
      refine zb_Model_takeOut_23 ha (k1 := i) (z_ixn (by omega)) (fun h4 => ?_) (fun h4 => ?_)
      · rw [q2 _ (by omega), hR.fw hi, zn_eq (by omega) (by omega)] at h4
        exact same (fun _ q => absurd q h4)
      rw [q2 _ (by omega), hR.fw hi, zn_eq (by omega) (by omega)] at h4
      have hci := hR.1.2.2.2.2.1 i hi h4
      have hmi : i ∈ v_p v (v_h v i) := (hR.1.mm hci i).mpr ⟨hi, h4, rfl⟩
      have hli := hR.1.l4 hci
      have hii : (v_p v (v_h v i)).idxOf i < (v_p v (v_h v i)).length := List.idxOf_lt_length_iff.mpr hmi
      have old : u.1 a (24 + i) = nI ((v_p v (v_h v i)).idxOf i) := by rw [q4 i (by omega) (Or.inr (Nat.le_refl _))]; exact hR.fp hi h4
      refine zb_Model_takeOut_30 ha (k1 := 12 + i) (k2 := 12 + b) ⟨nI_add _ _, by omega⟩ ⟨nI_add _ _, by omega⟩ (fun h5 => ?_) (fun h5 => ?_)
      · rw [q2 _ (by omega), q2 _ (by omega), hR.fh hi (Or.inl h4), hR.fh hb (Or.inl h), zn_eq (by omega) (by omega)] at h5
        refine same (fun _ _ => ?_)
        rw [old, List.erase_of_not_mem (fun q => h5 ((hR.1.mm hci b).mp q).2.2.symm)]
      rw [q2 _ (by omega), q2 _ (by omega), hR.fh hi (Or.inl h4), hR.fh hb (Or.inl h), zn_eq (by omega) (by omega)] at h5
      have oldb : u.1 a (24 + b) = nI ((v_p v (v_h v i)).idxOf b) := by rw [q4 b (by omega) (Or.inl rfl), h5]; exact hR.fp hb h
      have hmb' : b ∈ v_p v (v_h v i) := by rw [h5]; exact hmb
      have hib' : (v_p v (v_h v i)).idxOf b < (v_p v (v_h v i)).length := List.idxOf_lt_length_iff.mpr hmb'
      refine zb_Model_takeOut_45 ha (k1 := 24 + i) (k2 := 24 + b) ⟨nI_add _ _, by omega⟩ ⟨nI_add _ _, by omega⟩ (fun h6 => ?_) (fun h6 => ?_)
      · rw [old, oldb, zn_le (by omega) (by omega)] at h6
        refine same (fun _ _ => ?_)
        rw [old, l_idx_er hmb' hmi h2, if_neg (by omega)]
      rw [old, oldb, zn_le (by omega) (by omega)] at h6
      refine zb_Model_takeOut_60 ha (k1 := 24 + i) (k2 := 24 + i) ⟨nI_add _ _, by omega⟩ ⟨nI_add _ _, by omega⟩ ?_
      refine nx _ (q1.pI rfl) (fun k hk => ?_) (fun b' hb' => ?_) (fun e => absurd e h2) (fun _ _ => ?_)
      · rw [z_pI_ne2 (by omega)]; exact q2 k hk
      · rw [z_pI_ne2 (by omega)]
      · rw [z_pI_at, old, l_idx_er hmb' hmi h2, if_pos (by omega), zn_pred (by omega)]
    · obtain ⟨q1, q2, q3, q4⟩ := hI
      have hf : u.1 63 1 = nI (s_n s) := by rw [(q1 63 (by omega)).1]; exact hR.2.1.1
      refine zb_Model_takeOut_10 ha (fun _ => ?_) (fun h2 => ?_)
      · refine zb_Model_takeOut_76 ?_
        rw [he]
        exact ⟨rfl, q1, q2, q3⟩
      · rw [hf] at h2
        exact absurd (Int32.le_refl _) h2
  · rw [hR.fw hb, zn_eq (by have := hw3 b; omega) (by omega)] at h
    refine zb_Model_takeOut_7 ?_
    rw [he]
    refine ⟨rfl, z_fr.rf, fun _ _ => rfl, fun b' hb' hne hw => ?_⟩
    rw [hR.fp hb' hw, List.erase_of_not_mem (fun q => h ((hR.1.mm (hR.1.2.2.2.2.1 b' hb' hw) b).mp q).2.1)]
end
