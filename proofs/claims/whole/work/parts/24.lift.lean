def a_up (f : Nat → Nat) (b x : Nat) : Nat → Nat := fun j => if j = b then x else f j
theorem a_up_s (f : Nat → Nat) (b x : Nat) : a_up f b x b = x := if_pos rfl
theorem a_up_n {f : Nat → Nat} {b x j : Nat} (h : j ≠ b) : a_up f b x j = f j := if_neg h
def a_upl (f : Nat → List Nat) (c : Nat) (l : List Nat) : Nat → List Nat := fun j => if j = c then l else f j
def a_put (v : aV) (b c : Nat) : aV := (a_up (v_w v) b 1, a_up (v_h v) b c, v_d v, v_f v, a_upl (v_p v) c (v_p v c ++ [b]), v_y v)
def a_lift (v : aV) (b t : Nat) : aV := (a_up (v_w v) b t, v_h v, v_d v, v_f v, fun c => (v_p v c).erase b, v_y v)
def a_lend (v : aV) (b r d : Nat) : aV := (a_up (v_w v) b 2, a_up (v_h v) b r, a_up (v_d v) b d, v_f v, fun c => (v_p v c).erase b, v_y v)
section
variable {s : aS} {v : aV}
theorem aI.nd (h : aI s v) {c : Nat} (hc : c < s_c s) : (v_p v c).Nodup := (h.2.2.2.1 c hc).1
theorem aI.l4 (h : aI s v) {c : Nat} (hc : c < s_c s) : (v_p v c).length ≤ 4 := (h.2.2.2.1 c hc).2.1
theorem aI.mm (h : aI s v) {c : Nat} (hc : c < s_c s) (b : Nat) : b ∈ v_p v c ↔ (b < s_n s ∧ v_w v b = 1 ∧ v_h v b = c) := (h.2.2.2.1 c hc).2.2 b
theorem aI.lt (h : aI s v) {b : Nat} (hb : b < s_n s) (hw : v_w v b = 2) : v_h v b < s_r s := h.2.2.2.2.2.1 b hb hw
theorem aI_put (h : aI s v) {b c : Nat} (hb : b < s_n s) (hw : v_w v b ≠ 1) (hc : c < s_c s) (h4 : (v_p v c).length < 4) : aI s (a_put v b c) := by
  obtain ⟨h1, h2, h3, h5, h6, h7, h8, h10, h11⟩ := id h
  have hnm : ∀ c', c' < s_c s → b ∉ v_p v c' := fun c' hc' hm => hw ((h.mm hc' b).mp hm).2.1
  refine ⟨h1, fun b' => ?_, fun b' hb' => ?_, fun c' hc' => ?_, fun b' hb' hw' => ?_, fun b' hb' hw' => ?_, h8, h10, h11⟩
  · show a_up (v_w v) b 1 b' ≤ 3
    unfold a_up
    split
    · decide
    · exact h2 b'
  · show a_up (v_w v) b 1 b' = 0
    rw [a_up_n (by omega)]
    exact h3 b' hb'
  · show (a_upl (v_p v) c (v_p v c ++ [b]) c').Nodup ∧ (a_upl (v_p v) c (v_p v c ++ [b]) c').length ≤ 4 ∧ ∀ b', b' ∈ a_upl (v_p v) c (v_p v c ++ [b]) c' ↔ (b' < s_n s ∧ a_up (v_w v) b 1 b' = 1 ∧ a_up (v_h v) b c b' = c')
    by_cases e : c' = c
    · subst e
      have e1 : a_upl (v_p v) c' (v_p v c' ++ [b]) c' = v_p v c' ++ [b] := if_pos rfl
      rw [e1]
      refine ⟨?_, by simp; omega, fun b' => ?_⟩
      · rw [List.nodup_append]
        refine ⟨h.nd hc', by simp, fun x hx y hy e => ?_⟩
        simp at hy
        subst hy
        subst e
        exact hnm _ hc' hx
      · rw [List.mem_append, h.mm hc']
        by_cases eb : b' = b
        · subst eb
          simp [a_up, hb]
        · simp [a_up, eb]
    · have e1 : a_upl (v_p v) c (v_p v c ++ [b]) c' = v_p v c' := if_neg e
      rw [e1]
      refine ⟨h.nd hc', h.l4 hc', fun b' => ?_⟩
      by_cases eb : b' = b
      · subst eb
        have := hnm c' hc'
        have e2 : ¬ c = c' := fun q => e q.symm
        simp [a_up, this, e2]
      · rw [h.mm hc', a_up_n eb, a_up_n eb]
  · show a_up (v_h v) b c b' < s_c s
    by_cases eb : b' = b
    · subst eb
      rw [a_up_s]
      exact hc
    · rw [a_up_n eb]
      have hw' : a_up (v_w v) b 1 b' = 1 := hw'
      rw [a_up_n eb] at hw'
      exact h6 b' hb' hw'
  · have hw' : a_up (v_w v) b 1 b' = 2 := hw'
    show a_up (v_h v) b c b' < s_r s
    by_cases eb : b' = b
    · subst eb
      rw [a_up_s] at hw'
      omega
    · rw [a_up_n eb] at hw' ⊢
      exact h7 b' hb' hw'
theorem a_er_mem (h : aI s v) {b c : Nat} (hc : c < s_c s) (b' : Nat) : b' ∈ (v_p v c).erase b ↔ b' ≠ b ∧ b' ∈ v_p v c := (h.nd hc).mem_erase_iff
theorem aI_er (h : aI s v) {b : Nat} (w : Nat) (hw1 : w ≠ 1) {c : Nat} (hc : c < s_c s) : ((v_p v c).erase b).Nodup ∧ ((v_p v c).erase b).length ≤ 4 ∧ ∀ b', b' ∈ (v_p v c).erase b ↔ (b' < s_n s ∧ a_up (v_w v) b w b' = 1 ∧ v_h v b' = c) := by
  refine ⟨(h.nd hc).erase b, Nat.le_trans List.length_erase_le (h.l4 hc), fun b' => ?_⟩
  rw [a_er_mem h hc, h.mm hc]
  by_cases eb : b' = b
  · subst eb
    simp [a_up, hw1]
  · simp [a_up, eb]
theorem aI_lift (h : aI s v) {b t : Nat} (hb : b < s_n s) (ht : t = 0 ∨ t = 3) : aI s (a_lift v b t) := by
  obtain ⟨h1, h2, h3, h5, h6, h7, h8, h10, h11⟩ := id h
  refine ⟨h1, fun b' => ?_, fun b' hb' => ?_, fun c' hc' => aI_er h t (by omega) hc', fun b' hb' hw' => ?_, fun b' hb' hw' => ?_, h8, h10, h11⟩
  · show a_up (v_w v) b t b' ≤ 3
    unfold a_up
    split
    · omega
    · exact h2 b'
  · show a_up (v_w v) b t b' = 0
    rw [a_up_n (by omega)]
    exact h3 b' hb'
  · have hw' : a_up (v_w v) b t b' = 1 := hw'
    by_cases eb : b' = b
    · subst eb
      rw [a_up_s] at hw'
      omega
    · rw [a_up_n eb] at hw'
      exact h6 b' hb' hw'
  · have hw' : a_up (v_w v) b t b' = 2 := hw'
    by_cases eb : b' = b
    · subst eb
      rw [a_up_s] at hw'
      omega
    · rw [a_up_n eb] at hw'
      exact h7 b' hb' hw'
theorem aI_lend (h : aI s v) {b r d : Nat} (hb : b < s_n s) (hr : r < s_r s) : aI s (a_lend v b r d) := by
  obtain ⟨h1, h2, h3, h5, h6, h7, h8, h10, h11⟩ := id h
  refine ⟨h1, fun b' => ?_, fun b' hb' => ?_, fun c' hc' => ?_, fun b' hb' hw' => ?_, fun b' hb' hw' => ?_, h8, h10, h11⟩
  · show a_up (v_w v) b 2 b' ≤ 3
    unfold a_up
    split
    · omega
    · exact h2 b'
  · show a_up (v_w v) b 2 b' = 0
    rw [a_up_n (by omega)]
    exact h3 b' hb'
  · obtain ⟨q1, q2, q3⟩ := aI_er h (b := b) 2 (by omega) hc'
    refine ⟨q1, q2, fun b' => ?_⟩
    show b' ∈ (v_p v c').erase b ↔ (b' < s_n s ∧ a_up (v_w v) b 2 b' = 1 ∧ a_up (v_h v) b r b' = c')
    rw [q3 b']
    by_cases eb : b' = b
    · subst eb
      simp [a_up]
    · simp [a_up, eb]
  · have hw' : a_up (v_w v) b 2 b' = 1 := hw'
    show a_up (v_h v) b r b' < s_c s
    by_cases eb : b' = b
    · subst eb
      rw [a_up_s] at hw'
      omega
    · rw [a_up_n eb] at hw' ⊢
      exact h6 b' hb' hw'
  · have hw' : a_up (v_w v) b 2 b' = 2 := hw'
    show a_up (v_h v) b r b' < s_r s
    by_cases eb : b' = b
    · subst eb
      rw [a_up_s]
      exact hr
    · rw [a_up_n eb] at hw' ⊢
      exact h7 b' hb' hw'
end
theorem l_er_getD {l : List Nat} {b : Nat} (j : Nat) : (l.erase b).getD j 0 = if j < l.idxOf b then l.getD j 0 else l.getD (j + 1) 0 := by
  rw [List.erase_eq_eraseIdx_of_idxOf rfl, List.getD_eq_getElem?_getD, List.getElem?_eraseIdx]
  split <;> rw [List.getD_eq_getElem?_getD]
section
variable {s : aS} {v : aV} {σ : zS} {o : Nat}
theorem cc_placeOf0 (ho : z_oC o) {b w : Nat} (hb : b < 12) (hf : σ.1 (o + 3) b = nI w) (hw : w ≠ 1) (hw2 : w < 2147483648) : z_Ci 1 zm_City_placeOf [.inr o, .inl (nI b)] σ (z_is (-1) σ) := by
  refine z_Ci_of (by decide) (Nat.le_of_ble_eq_true rfl) (fun Γ hd he => ?_)
  show z_J Γ zm_City_placeOf 0 [some (.inr o), some (.inl (nI b)), none, none] [] σ
  refine zb_City_placeOf_0 ho (z_ixn hb) (fun h => ?_) (fun _ => ?_)
  · rw [hf, zn_eq hw2 (by omega)] at h
    exact absurd h hw
  · refine zb_City_placeOf_10 ?_
    rw [he]
    exact ⟨_, rfl, rfl, rfl⟩
theorem l_idx {l : List Nat} (hn : l.Nodup) {i : Nat} (hi : i < l.length) {b : Nat} : l.getD i 0 = b ↔ (l.idxOf b = i) := by
  have e : l.getD i 0 = l[i] := by rw [List.getD_eq_getElem?_getD, List.getElem?_eq_getElem hi]; rfl
  rw [e]
  constructor
  · intro h
    subst h
    exact hn.idxOf_getElem i hi
  · intro h
    subst h
    exact List.getElem_idxOf hi
theorem cc_placeOf (ho : z_oC o) (hR : cR s v σ o) {b : Nat} (hb : b < s_n s) (hw : v_w v b = 1) : z_Ci 1 zm_City_placeOf [.inr o, .inl (nI b)] σ (z_is (nI ((v_p v (v_h v b)).idxOf b)) σ) := by
  refine z_Ci_of (by decide) (Nat.le_of_ble_eq_true rfl) (fun Γ hd he => ?_)
  show z_J Γ zm_City_placeOf 0 [some (.inr o), some (.inl (nI b)), none, none] [] σ
  have hn := hR.n
  have h6 := hR.c6
  have hc := hR.1.2.2.2.2.1 b hb hw
  have hcol := hR.col hc
  have hm : b ∈ v_p v (v_h v b) := (hcol.2.2 b).mpr ⟨hb, hw, rfl⟩
  have hlt : (v_p v (v_h v b)).idxOf b < (v_p v (v_h v b)).length := List.idxOf_lt_length_of_mem hm
  have h4 := hcol.2.1
  refine zb_City_placeOf_0 ho (z_ixn (by omega)) (fun _ => ?_) (fun h => ?_)
  · refine zb_City_placeOf_12 ho (z_ixn (by omega)) ?_
    rw [hR.fH hb, if_pos (Or.inl hw)]
    refine zj_for (b := (v_p v (v_h v b)).idxOf b) (fun i => [some (.inr o), some (.inl (nI b)), some (.inl (nI (v_h v b))), some (.inl (nI i))]) (fun _ => σ) (fun i hi k => ?_) ?_ 0 (Nat.zero_le _)
    · refine zb_City_placeOf_21 ho (z_ixn (by omega)) (fun h => ?_) (fun _ => ?_)
      · rw [hR.fM hc] at h
        exact absurd h (nI_ge (by omega) (by omega))
      refine zb_City_placeOf_31 ho (cc_bookAt ho hR hc (by omega)) (by omega) (fun r σ1 h => ?_)
      obtain ⟨rfl, rfl⟩ := h
      have hmm := hR.mem hc (k := i) (by omega)
      refine zb_City_placeOf_37 ho (fun _ => ?_) (fun h => ?_)
      · refine zb_City_placeOf_43 ho ?_
        rw [nI_add]
        exact k
      · rw [zn_eq (by omega) (by omega), l_idx hcol.1 (by omega)] at h
        omega
    · refine zb_City_placeOf_21 ho (z_ixn (by omega)) (fun h => ?_) (fun _ => ?_)
      · rw [hR.fM hc] at h
        exact absurd h (nI_ge hlt (by omega))
      refine zb_City_placeOf_31 ho (cc_bookAt ho hR hc hlt) (by omega) (fun r σ1 h => ?_)
      obtain ⟨rfl, rfl⟩ := h
      refine zb_City_placeOf_37 ho (fun h => ?_) (fun _ => ?_)
      · exact absurd (congrArg nI ((l_idx hcol.1 hlt).mpr rfl)) h
      · refine zb_City_placeOf_41 ?_
        rw [he]
        exact ⟨_, rfl, rfl, rfl⟩
  · rw [hR.fW (by omega), hw] at h
    exact absurd rfl h
/-- what lift leaves: the columns without the book, then its three numbers -/
def cL (s : aS) (v : aV) (o b t : Nat) (σ u : zS) : Prop := ∃ σ', u = z_pI (z_pI (z_pI σ' (o + 3) b (nI t)) (o + 4) b (-1)) (o + 5) b (-1) ∧ z_fr (fun q => q = o + 6 ∨ q = o + 7) σ σ' ∧ (∀ c, c < s_c s → σ'.1 (o + 6) c = nI ((v_p v c).erase b).length) ∧ ∀ c, c < s_c s → ∀ k, k < ((v_p v c).erase b).length → σ'.1 (o + 7) (c * 4 + k) = nI (((v_p v c).erase b).getD k 0)
theorem cc_lift0 (ho : z_oC o) {b w t : Nat} (hb : b < 12) (hf : σ.1 (o + 3) b = nI w) (hw : w ≠ 1) (hw2 : w < 2147483648) : z_Cv 2 zm_City_lift [.inr o, .inl (nI b), .inl (nI t)] σ (fun u => u = z_pI (z_pI (z_pI σ (o + 3) b (nI t)) (o + 4) b (-1)) (o + 5) b (-1)) := by
  refine z_Cv_of (by decide) (Nat.le_of_ble_eq_true rfl) (fun Γ hd he => ?_)
  show z_J Γ zm_City_lift 0 [some (.inr o), some (.inl (nI b)), some (.inl (nI t)), none, none, none] [] σ
  refine zb_City_lift_0 ho (cc_placeOf0 ho hb hf hw hw2) (by omega) (fun r σ1 h => ?_)
  obtain ⟨rfl, rfl⟩ := h
  refine zb_City_lift_5 ho (fun _ => ?_) (fun h => absurd rfl h)
  refine zb_City_lift_77 ho (z_ixn hb) (z_ixn hb) (z_ixn hb) ?_
  rw [he]
  exact ⟨rfl, rfl⟩
theorem cc_lift (ho : z_oC o) (hR : cR s v σ o) {b t : Nat} (hb : b < s_n s) : z_Cv 2 zm_City_lift [.inr o, .inl (nI b), .inl (nI t)] σ (cL s v o b t σ) := by
  have hn := hR.n
  have h6 := hR.c6
  by_cases hw : v_w v b = 1
  · refine z_Cv_of (by decide) (Nat.le_of_ble_eq_true rfl) (fun Γ hd he => ?_)
    show z_J Γ zm_City_lift 0 [some (.inr o), some (.inl (nI b)), some (.inl (nI t)), none, none, none] [] σ
    have hc := hR.1.2.2.2.2.1 b hb hw
    have hcol := hR.col hc
    have hm : b ∈ v_p v (v_h v b) := (hcol.2.2 b).mpr ⟨hb, hw, rfl⟩
    have hlt : (v_p v (v_h v b)).idxOf b < (v_p v (v_h v b)).length := List.idxOf_lt_length_of_mem hm
    have h4 := hcol.2.1
    have hH : σ.1 (o + 4) b = nI (v_h v b) := by rw [hR.fH hb, if_pos (Or.inl hw)]
    generalize hcc : v_h v b = c at *
    generalize hkk : (v_p v c).idxOf b = k at *
    refine zb_City_lift_0 ho (by have := cc_placeOf ho hR hb hw; rw [hcc, hkk] at this; exact this) (by omega) (fun r σ1 h => ?_)
    obtain ⟨rfl, rfl⟩ := h
    refine zb_City_lift_5 ho (fun h => absurd h (zn_neg1 (by omega))) (fun _ => ?_)
    refine zb_City_lift_11 ho (k1 := b) (k2 := c) (k3 := c) (z_ixn (by omega)) ⟨hH, by omega⟩ ⟨hH, by omega⟩ ?_
    rw [hH, hR.fM hc, zn_pred (by omega), pk_mul, nI_add]
    -- the loop over the places behind
    have hloop := zj_forS (Γ := Γ) (mi := zm_City_lift) (pc := 38) (S := []) (b := (v_p v c).length - 1 - k) (fun i => [some (.inr o), some (.inl (nI b)), some (.inl (nI t)), none, some (.inl (nI c)), some (.inl (nI (c * 4 + k + i)))])
      (fun i u => z_fr (fun q => q = o + 6 ∨ q = o + 7) σ1 u ∧ u.1 (o + 6) = (z_pI σ1 (o + 6) c (nI ((v_p v c).length - 1))).1 (o + 6) ∧ ∀ j, u.1 (o + 7) j = if c * 4 + k ≤ j ∧ j < c * 4 + k + i then σ1.1 (o + 7) (j + 1) else σ1.1 (o + 7) j) (fun i u hi hI kk => ?_) (fun u hI => ?_) 0 (Nat.zero_le _) (z_pI σ1 (o + 6) c (nI ((v_p v c).length - 1))) ⟨z_fr.rf.pI (Or.inl rfl), rfl, fun j => by
        rw [z_pI_ne (by omega), if_neg (by omega)]⟩
    · exact hloop
    · obtain ⟨hF, hM, hP⟩ := hI
      refine zb_City_lift_38 ho (k1 := c) (z_ixn (by omega)) (fun h => ?_) (fun _ => ?_)
      · rw [hM, z_pI_at, pk_mul, nI_add, zn_le (by omega) (by omega)] at h
        omega
      refine zb_City_lift_55 ho (k1 := c * 4 + k + i + 1) (k2 := c * 4 + k + i) ⟨nI_add _ _, by omega⟩ (z_ixn (by omega)) ?_
      rw [nI_add]
      refine kk _ ⟨hF.pI (Or.inr rfl), ?_, fun j => ?_⟩
      · rw [z_pI_ne (by omega)]
        exact hM
      · rw [z_pI_1]
        by_cases e : j = c * 4 + k + i
        · subst e
          rw [if_pos ⟨rfl, rfl⟩, hP, if_neg (by omega), if_pos (by omega)]
        · rw [if_neg (fun q => e q.2), hP]
          have : (c * 4 + k ≤ j ∧ j < c * 4 + k + i) ↔ (c * 4 + k ≤ j ∧ j < c * 4 + k + (i + 1)) := by omega
          simp only [this]
    · obtain ⟨hF, hM, hP⟩ := hI
      refine zb_City_lift_38 ho (k1 := c) (z_ixn (by omega)) (fun _ => ?_) (fun h => ?_)
      · refine zb_City_lift_77 ho (z_ixn (by omega)) (z_ixn (by omega)) (z_ixn (by omega)) ?_
        rw [he]
        have hel : ((v_p v c).erase b).length = (v_p v c).length - 1 := List.length_erase_of_mem hm
        refine ⟨rfl, u, rfl, hF, fun c' hc' => ?_, fun c' hc' k' hk' => ?_⟩
        · rw [hM]
          by_cases e : c' = c
          · subst e
            rw [z_pI_at, hel]
          · rw [z_pI_ne2 e, hR.fM hc', List.erase_of_not_mem]
            intro hm'
            exact e (by rw [← hcc]; exact (((hR.col hc').2.2 b).mp hm').2.2.symm)
        · rw [hP]
          have hl' := (hR.col hc').2.1
          have hk'' : k' < (v_p v c').length := Nat.lt_of_lt_of_le hk' List.length_erase_le
          by_cases e : c' = c
          · subst e
            rw [hel] at hk'
            rw [l_er_getD, hkk]
            by_cases q : k' < k
            · rw [if_neg (by omega), if_pos q, hR.fP hc hk'']
            · rw [if_pos (by omega), if_neg q, Nat.add_assoc, hR.fP hc (by omega)]
          · have hnm : b ∉ v_p v c' := fun hm' => e (by rw [← hcc]; exact (((hR.col hc').2.2 b).mp hm').2.2.symm)
            rw [List.erase_of_not_mem hnm, if_neg (by omega), hR.fP hc' hk'']
      · rw [hM, z_pI_at, pk_mul, nI_add, zn_le (by omega) (by omega)] at h
        omega
  · have h3 := hR.w3 b
    have hsub : ∀ u, u = z_pI (z_pI (z_pI σ (o + 3) b (nI t)) (o + 4) b (-1)) (o + 5) b (-1) → cL s v o b t σ u := by
      intro u hu
      have hnm : ∀ c, c < s_c s → b ∉ v_p v c := fun c hc hm => hw (((hR.col hc).2.2 b).mp hm).2.1
      refine ⟨σ, hu, z_fr.rf, fun c hc => ?_, fun c hc k hk => ?_⟩
      · rw [List.erase_of_not_mem (hnm c hc), hR.fM hc]
      · rw [List.erase_of_not_mem (hnm c hc)] at hk ⊢
        exact hR.fP hc hk
    exact z_Cv_mono (fun u hu => hsub u hu) (cc_lift0 ho (t := t) (show b < 12 by omega) (hR.fW (by omega)) hw (by omega))
end
