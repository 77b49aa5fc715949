/-! the program: sieges -/
/-- the program's acts as they were read -/
def gR (q : gQ) (σ : zS) : Prop := σ.1 8 2 = nI (g_acts q).length ∧ (q.2.1 = none → σ.1 8 3 = -1) ∧ (∀ a, q.2.1 = some a → σ.1 8 3 = nI a.2.length ∧ (a.2 ≠ [] → σ.1 8 4 = z_tf q.2.2)) ∧ ∀ j a, (g_acts q)[j]? = some a → σ.1 9 j = nI a.1 ∧ ∀ t, t < a.2.length → σ.1 10 (j * 3 + t) = nI (a.2.getD t 0)
theorem z_pI_01 (x : Int32) (h : x = 0 ∨ x = 1) : x = z_tf (decide (x = 1)) := by
  rcases h with rfl | rfl <;> decide
theorem cc_partOf {k n : Nat} (hk : k < 2147483648) (hn : n < 2147483648) (σ : zS) : z_Ci 0 zm_Acts_partOf [.inl (nI k), .inl (nI n)] σ (z_is (nI (g_po k n)) σ) := by
  refine z_Ci_of (by decide) (Nat.le_of_ble_eq_true rfl) (fun Γ hd he => ?_)
  show z_J Γ zm_Acts_partOf 0 [some (.inl (nI k)), some (.inl (nI n))] [] σ
  have e0 : (0 : Int32) = nI 0 := rfl
  have dflt : k ≠ 108 → k ≠ 111 → k ≠ 114 → k ≠ 115 → z_J Γ zm_Acts_partOf 116 [none, some (.inl (nI n))] [] σ := by
    intro k1 k2 k3 k4
    have eg : g_po k n = if n = 0 then 3 else 0 := by
      unfold g_po
      rw [if_neg k1, if_neg k2, if_neg k3, if_neg k4]
    rw [eg] at he
    refine zb_Acts_partOf_116 (fun p => ?_) (fun p => ?_)
    · rw [e0, zn_eq (by omega) (by omega)] at p
      refine zb_Acts_partOf_124 (zb_Acts_partOf_125 ?_)
      rw [he, if_neg p]
      exact ⟨_, rfl, rfl, rfl⟩
    · rw [e0, zn_eq (by omega) (by omega)] at p
      refine zb_Acts_partOf_120 (zb_Acts_partOf_125 ?_)
      rw [he, if_pos p]
      exact ⟨_, rfl, rfl, rfl⟩
  refine zb_Acts_partOf_0 (fun q => ?_) (fun q => ?_) (fun q => ?_) (fun q => ?_) (fun q => ?_) (fun q => ?_) (fun q => ?_) (fun q => ?_) (fun q => ?_)
  · rw [nI_toInt hk] at q
    exact dflt (by omega) (by omega) (by omega) (by omega)
  · rw [zn_eq hk (by omega)] at q
    have eg : g_po k n = if n = 0 then 1 else if n = 1 then 2 else 0 := by
      unfold g_po
      rw [if_pos q]
    rw [eg] at he
    refine zb_Acts_partOf_48 (fun p => ?_) (fun p => ?_)
    · rw [e0, zn_eq (by omega) (by omega)] at p
      rw [if_neg p] at he
      refine zb_Acts_partOf_56 (fun p2 => ?_) (fun p2 => ?_)
      · rw [zn_eq (by omega) (by omega)] at p2
        refine zb_Acts_partOf_65 (zb_Acts_partOf_66 ?_)
        rw [he, if_neg p2]
        exact ⟨_, rfl, rfl, rfl⟩
      · rw [zn_eq (by omega) (by omega)] at p2
        refine zb_Acts_partOf_61 (zb_Acts_partOf_66 ?_)
        rw [he, if_pos p2]
        exact ⟨_, rfl, rfl, rfl⟩
    · rw [e0, zn_eq (by omega) (by omega)] at p
      refine zb_Acts_partOf_52 (zb_Acts_partOf_66 ?_)
      rw [he, if_pos p]
      exact ⟨_, rfl, rfl, rfl⟩
  · rw [zn_eq hk (by omega)] at q
    exact dflt (by omega) (by omega) (by omega) (by omega)
  · rw [zn_eq hk (by omega)] at q
    exact dflt (by omega) (by omega) (by omega) (by omega)
  · rw [zn_eq hk (by omega)] at q
    have eg : g_po k n = if n = 0 then 1 else if n = 1 then 2 else if n = 2 then 3 else 0 := by
      unfold g_po
      rw [if_neg (by omega), if_pos q]
    rw [eg] at he
    refine zb_Acts_partOf_67 (fun p => ?_) (fun p => ?_)
    · rw [e0, zn_eq (by omega) (by omega)] at p
      rw [if_neg p] at he
      refine zb_Acts_partOf_75 (fun p2 => ?_) (fun p2 => ?_)
      · rw [zn_eq (by omega) (by omega)] at p2
        rw [if_neg p2] at he
        refine zb_Acts_partOf_84 (fun p3 => ?_) (fun p3 => ?_)
        · rw [zn_eq (by omega) (by omega)] at p3
          refine zb_Acts_partOf_93 (zb_Acts_partOf_94 ?_)
          rw [he, if_neg p3]
          exact ⟨_, rfl, rfl, rfl⟩
        · rw [zn_eq (by omega) (by omega)] at p3
          refine zb_Acts_partOf_89 (zb_Acts_partOf_94 ?_)
          rw [he, if_pos p3]
          exact ⟨_, rfl, rfl, rfl⟩
      · rw [zn_eq (by omega) (by omega)] at p2
        refine zb_Acts_partOf_80 (zb_Acts_partOf_94 ?_)
        rw [he, if_pos p2]
        exact ⟨_, rfl, rfl, rfl⟩
    · rw [e0, zn_eq (by omega) (by omega)] at p
      refine zb_Acts_partOf_71 (zb_Acts_partOf_94 ?_)
      rw [he, if_pos p]
      exact ⟨_, rfl, rfl, rfl⟩
  · rw [zn_eq hk (by omega)] at q
    exact dflt (by omega) (by omega) (by omega) (by omega)
  · rw [zn_eq hk (by omega)] at q
    exact dflt (by omega) (by omega) (by omega) (by omega)
  · rw [zn_eq hk (by omega)] at q
    have eg : g_po k n = if n = 0 then 1 else 0 := by
      unfold g_po
      rw [if_neg (by omega), if_neg (by omega), if_pos q]
    rw [eg] at he
    refine zb_Acts_partOf_95 (fun p => ?_) (fun p => ?_)
    · rw [e0, zn_eq (by omega) (by omega)] at p
      refine zb_Acts_partOf_103 (zb_Acts_partOf_104 ?_)
      rw [he, if_neg p]
      exact ⟨_, rfl, rfl, rfl⟩
    · rw [e0, zn_eq (by omega) (by omega)] at p
      refine zb_Acts_partOf_99 (zb_Acts_partOf_104 ?_)
      rw [he, if_pos p]
      exact ⟨_, rfl, rfl, rfl⟩
  · rw [zn_eq hk (by omega)] at q
    have eg : g_po k n = if n < 2 then 2 else 0 := by
      unfold g_po
      rw [if_neg (by omega), if_neg (by omega), if_neg (by omega), if_pos q]
    rw [eg] at he
    refine zb_Acts_partOf_105 (fun p => ?_) (fun p => ?_)
    · rw [zn_le (by omega) (by omega)] at p
      refine zb_Acts_partOf_114 (zb_Acts_partOf_115 ?_)
      rw [he, if_neg (by omega)]
      exact ⟨_, rfl, rfl, rfl⟩
    · rw [zn_le (by omega) (by omega)] at p
      refine zb_Acts_partOf_110 (zb_Acts_partOf_115 ?_)
      rw [he, if_pos (by omega)]
      exact ⟨_, rfl, rfl, rfl⟩
abbrev z_F810 (q : Nat) : Prop := 8 ≤ q ∧ q ≤ 10
section
variable {σ u : zS} {D : List gA} {a : gA} {g : Bool}
theorem gR.last (h : gR (D, some a, g) σ) : σ.1 9 D.length = nI a.1 ∧ ∀ t, t < a.2.length → σ.1 10 (D.length * 3 + t) = nI (a.2.getD t 0) := by
  refine h.2.2.2 D.length a ?_
  show (D ++ [a])[D.length]? = some a
  simp
theorem gR.len (h : gR (D, some a, g) σ) : σ.1 8 2 = nI (D.length + 1) := by
  have := h.1
  rw [this]
  show nI (D ++ [a]).length = _
  simp
/-- the newest act's parts change -/
theorem gR.upd (h : gR (D, some a, g) σ) {ps : List Nat} {g' : Bool} (h2 : u.1 8 2 = σ.1 8 2) (h3 : u.1 8 3 = nI ps.length) (h4 : u.1 8 4 = z_tf g') (h9 : u.1 9 = σ.1 9) (h10 : ∀ t, t < ps.length → u.1 10 (D.length * 3 + t) = nI (ps.getD t 0)) (hl : ∀ k, k < D.length * 3 → u.1 10 k = σ.1 10 k) (hD : ∀ b, b ∈ D → b.2.length ≤ 3) : gR (D, some (a.1, ps), g') u := by
  refine ⟨?_, fun e => absurd e (by simp), fun b hb => ?_, fun j b hb => ?_⟩
  · rw [h2, h.len]
    show _ = nI (D ++ [(a.1, ps)]).length
    simp
  · simp only [Option.some.injEq] at hb
    subst hb
    exact ⟨h3, fun _ => h4⟩
  · change (D ++ [(a.1, ps)])[j]? = some b at hb
    rw [h9]
    rcases Nat.lt_or_ge j D.length with q | q
    · rw [List.getElem?_append_left q] at hb
      have hb' : (g_acts (D, some a, g))[j]? = some b := by
        show (D ++ [a])[j]? = some b
        rw [List.getElem?_append_left q]
        exact hb
      obtain ⟨k1, k2⟩ := h.2.2.2 j b hb'
      have hm : b ∈ D := List.mem_of_getElem? hb
      have := hD b hm
      refine ⟨k1, fun t ht => ?_⟩
      rw [hl _ (by omega)]
      exact k2 t ht
    · have e : j = D.length := by
        have := (List.getElem?_eq_some_iff.mp hb).1
        simp at this
        omega
      subst e
      simp at hb
      subst hb
      exact ⟨h.last.1, h10⟩
end
section
variable {σ u : zS}
theorem cc_adds {D : List gA} {a : gA} {g : Bool} (hR : gR (D, some a, g) σ) (hD : ∀ b, b ∈ D → b.2.length ≤ 3) (h19 : D.length ≤ 19) (hl : a.2.length < 3) (y : Nat) (g' : Bool) : z_Ci 0 zm_Acts_adds [.inr 8, .inl (nI y), .inl (z_tf g')] σ (fun r u => r = nI 1 ∧ gR (D, some (a.1, a.2 ++ [y]), g') u ∧ z_fr z_F810 σ u) := by
  obtain ⟨s1, s2⟩ := hR.2.2.1 a rfl
  have hlen := hR.len
  refine z_Ci_of (by decide) (Nat.le_of_ble_eq_true rfl) (fun Γ hd he => ?_)
  show z_J Γ zm_Acts_adds 0 [some (.inr 8), some (.inl (nI y)), some (.inl (z_tf g'))] [] σ
  refine zb_Acts_adds_0 (k1 := D.length * 3 + a.2.length) ⟨?_, by omega⟩ (z_tf01 _) ?_
  · rw [hlen, s1, zn_pred (by omega), show D.length + 1 - 1 = D.length by omega, pk_mul, nI_add]
  · rw [z_pI_ne (show 8 ≠ 10 by decide), s1, nI_add, he]
    refine ⟨_, rfl, rfl, hR.upd ?_ ?_ ?_ ?_ (fun t ht => ?_) (fun k hk => ?_) hD, ?_⟩
    · rw [z_pI_ne2 (by decide), z_pI_ne2 (by decide), z_pI_ne (by decide)]
    · rw [z_pI_ne2 (by decide), z_pI_at]
      simp
    · rw [z_pI_at]
    · rw [z_pI_ne (by decide), z_pI_ne (by decide), z_pI_ne (by decide)]
    · rw [z_pI_ne (by decide), z_pI_ne (by decide), l_app_getD]
      simp only [List.length_append, List.length_cons, List.length_nil] at ht
      by_cases e : t = a.2.length
      · subst e
        rw [z_pI_at, if_neg (by omega), if_pos rfl]
      · rw [z_pI_ne2 (by omega), if_pos (by omega)]
        exact hR.last.2 t (by omega)
    · rw [z_pI_ne (by decide), z_pI_ne (by decide), z_pI_ne2 (by omega)]
    · exact z_fr.pI (z_fr.pI (z_fr.pI z_fr.rf (by show 8 ≤ 10 ∧ 10 ≤ 10; omega)) (by show 8 ≤ 8 ∧ 8 ≤ 10; omega)) (by show 8 ≤ 8 ∧ 8 ≤ 10; omega)
theorem cc_begins {q : gQ} {c : Nat} (hq : q.2.1 = none) (hR : gR q σ) (h19 : q.1.length ≤ 19) (hD : ∀ b, b ∈ q.1 → b.2.length ≤ 3) (hc : c < 256) : z_Ci 0 zm_Acts_begins [.inr 8, .inl (nI c)] σ (fun r u => r = z_tf (g_ok q c) ∧ (g_ok q c = true → gR (g_go q c) u) ∧ z_fr z_F810 σ u) := by
  obtain ⟨D, cur, g⟩ := q
  change cur = none at hq
  subst hq
  change D.length ≤ 19 at h19
  have hlen : σ.1 8 2 = nI D.length := hR.1
  refine z_Ci_of (by decide) (Nat.le_of_ble_eq_true rfl) (fun Γ hd he => ?_)
  show z_J Γ zm_Acts_begins 0 [some (.inr 8), some (.inl (nI c))] [] σ
  have eo : g_ok (D, none, g) c = decide (g_kd c) := rfl
  rw [eo] at he
  have yes : g_kd c → z_J Γ zm_Acts_begins 41 [some (.inr 8), some (.inl (nI c))] [] σ := fun hk => by
    refine zb_Acts_begins_41 (k1 := D.length) ⟨hlen, by omega⟩ ?_
    rw [z_pI_ne (show 8 ≠ 9 by decide), hlen, nI_add, he, decide_eq_true hk]
    refine ⟨_, rfl, rfl, fun _ => ⟨?_, fun e => absurd e (by simp [g_go]), fun b hb => ?_, fun j b hb => ?_⟩, ?_⟩
    · rw [z_pI_ne2 (by decide), z_pI_at]
      show _ = nI (D ++ [(c, [])]).length
      simp
    · change some (c, ([] : List Nat)) = some b at hb
      simp only [Option.some.injEq] at hb
      subst hb
      exact ⟨z_pI_at _ _ _ _, fun e => absurd rfl e⟩
    · change (D ++ [(c, [])])[j]? = some b at hb
      rw [z_pI_ne (by decide), z_pI_ne (by decide), z_pI_ne (show 10 ≠ 8 by decide), z_pI_ne (show 10 ≠ 8 by decide), z_pI_ne (show 10 ≠ 9 by decide)]
      rcases Nat.lt_or_ge j D.length with p | p
      · rw [List.getElem?_append_left p] at hb
        rw [z_pI_ne2 (by omega)]
        exact hR.2.2.2 j b hb
      · have e : j = D.length := by
          have := (List.getElem?_eq_some_iff.mp hb).1
          simp at this
          omega
        subst e
        simp at hb
        subst hb
        exact ⟨z_pI_at _ _ _ _, fun t ht => absurd ht (by simp)⟩
    · exact z_fr.pI (z_fr.pI (z_fr.pI z_fr.rf (by show 8 ≤ 9 ∧ 9 ≤ 10; omega)) (by show 8 ≤ 8 ∧ 8 ≤ 10; omega)) (by show 8 ≤ 8 ∧ 8 ≤ 10; omega)
  refine zb_Acts_begins_0 (fun p => ?_) (fun _ => ?_)
  · rw [hlen, zn_eq (by omega) (by omega)] at p
    omega
  refine zb_Acts_begins_9 (fun p => yes ?_) (fun p1 => ?_)
  · rw [zn_eq (by omega) (by omega)] at p
    exact Or.inl p
  refine zb_Acts_begins_15 (fun p => yes ?_) (fun p2 => ?_)
  · rw [zn_eq (by omega) (by omega)] at p
    exact Or.inr (Or.inl p)
  refine zb_Acts_begins_21 (fun p => yes ?_) (fun p3 => ?_)
  · rw [zn_eq (by omega) (by omega)] at p
    exact Or.inr (Or.inr (Or.inl p))
  refine zb_Acts_begins_27 (fun p => yes ?_) (fun p4 => ?_)
  · rw [zn_eq (by omega) (by omega)] at p
    exact Or.inr (Or.inr (Or.inr (Or.inl p)))
  refine zb_Acts_begins_33 (fun p => yes ?_) (fun p5 => ?_)
  · rw [zn_eq (by omega) (by omega)] at p
    exact Or.inr (Or.inr (Or.inr (Or.inr p)))
  rw [zn_eq (by omega) (by omega)] at p1 p2 p3 p4 p5
  refine zb_Acts_begins_39 ?_
  have hk : ¬ g_kd c := by
    intro z
    rcases z with z | z | z | z | z
    · exact p1 z
    · exact p2 z
    · exact p3 z
    · exact p4 z
    · exact p5 z
  rw [he, decide_eq_false hk]
  exact ⟨_, rfl, rfl, fun z => absurd z (by decide), z_fr.rf⟩
theorem cc_takes {q : gQ} {i c : Nat} (hI : gI q i) (hi : i < 60) (hR : gR q σ) (hc : c < 256) : z_Ci 2 zm_Acts_takes [.inr 8, .inl (nI c)] σ (fun r u => r = z_tf (g_ok q c) ∧ (g_ok q c = true → gR (g_go q c) u) ∧ z_fr z_F810 σ u) := by
  obtain ⟨D, cur, g⟩ := q
  have hD : ∀ b, b ∈ D → b.2.length ≤ 3 := fun b hb => (hI.1 b hb).1.2.1
  refine z_Ci_of (by decide) (Nat.le_of_ble_eq_true rfl) (fun Γ hd he => ?_)
  show z_J Γ zm_Acts_takes 0 [some (.inr 8), some (.inl (nI c))] [] σ
  cases cur with
  | none =>
    have hl : 3 * D.length ≤ i := hI.2.1 rfl
    refine zb_Acts_takes_0 (fun p => absurd (hR.2.1 rfl) p) (fun _ => ?_)
    refine zb_Acts_takes_8 (cc_begins (q := (D, none, g)) rfl hR (by show D.length ≤ 19; omega) hD hc) (by omega) (fun r u hr => ?_)
    obtain ⟨rfl, h2, h3⟩ := hr
    refine zb_Acts_takes_13 ?_ (z_tf01 _)
    rw [he]
    exact ⟨_, rfl, rfl, h2, h3⟩
  | some a =>
    obtain ⟨⟨a1, a2, a3⟩, b2, b3⟩ := hI.2.2 a rfl
    have b2' : 3 * D.length + 1 + a.2.length ≤ i := b2
    obtain ⟨s1, s2⟩ := hR.2.2.1 a rfl
    have hlen := hR.len
    have hk256 : a.1 < 256 := by
      rcases a1 with z | z | z | z | z <;> omega
    refine zb_Acts_takes_0 (fun _ => ?_) (fun p => ?_)
    rotate_left
    · rw [s1] at p
      exact absurd p (zn_neg1 (by omega))
    refine zb_Acts_takes_14 (k1 := D.length) (dc := 0) (P := z_is (nI (g_po a.1 a.2.length)) σ) ⟨by rw [hlen, zn_pred (by omega)]; congr 1, by omega⟩ (by rw [hR.last.1, s1]; exact cc_partOf (by omega) (by omega) σ) (by omega) (fun r u hr => ?_)
    obtain ⟨rfl, rfl⟩ := hr
    have hpl := g_pole a.1 a.2.length
    refine zb_Acts_takes_32 (fun p => ?_) (fun p => ?_) (fun p => ?_) (fun p => ?_)
    · rw [nI_toInt (by omega)] at p
      have p0 : g_po a.1 a.2.length = 0 := by omega
      have hne : a.2 ≠ [] := fun e => by
        rw [e] at p0
        exact g_po0 a.1 p0
      have hpos : 0 < a.2.length := List.length_pos_iff.mpr hne
      have eo : g_ok (D, some a, g) c = (decide (c = 59) || (g && decide (48 ≤ c ∧ c < 58))) := by simp [g_ok, p0]
      rw [eo] at he
      refine zb_Acts_takes_140 (fun p1 => ?_) (fun p1 => ?_)
      · rw [zn_eq (by omega) (by omega)] at p1
        rw [decide_eq_false p1, Bool.false_or] at he
        have eg : g_go (D, some a, g) c = (D, some (a.1, a.2.dropLast ++ [a.2.getD (a.2.length - 1) 0 * 10 + (c - 48)]), false) := by
          simp only [g_go, p0, p1]
          simp
        rw [eg] at he
        refine zb_Acts_takes_153 (dc := 1) (P := fun r w => r = z_tf (g && decide (48 ≤ c ∧ c < 58)) ∧ ((g && decide (48 ≤ c ∧ c < 58)) = true → gR (D, some (a.1, a.2.dropLast ++ [a.2.getD (a.2.length - 1) 0 * 10 + (c - 48)]), false) w) ∧ z_fr z_F810 u w) ?_ (by omega) (fun r w hr => ?_)
        · refine z_Ci_of (by decide) (Nat.le_of_ble_eq_true rfl) (fun Γ hd he => ?_)
          show z_J Γ zm_Acts_grows 0 [some (.inr 8), some (.inl (nI c)), none] [] u
          have no : (g && decide (48 ≤ c ∧ c < 58)) = false → z_J Γ zm_Acts_grows 14 [none, none, none] [] u := fun z => by
            refine zb_Acts_grows_14 ?_
            rw [he, z]
            exact ⟨_, rfl, rfl, fun z => absurd z (by decide), z_fr.rf⟩
          refine zb_Acts_grows_0 (fun z => no ?_) (fun z => ?_)
          · rw [s2 hne, z_tf_eq0] at z
            change g = false at z
            rw [z]
            rfl
          rw [s2 hne, z_tf_eq0, Bool.not_eq_false] at z
          change g = true at z
          refine zb_Acts_grows_7 (cc_isDigit hc _) (by omega) (fun r w hr => ?_)
          obtain ⟨rfl, rfl⟩ := hr
          refine zb_Acts_grows_11 (fun z2 => ?_) (fun z2 => no ?_)
          rotate_left
          · rw [z_tf_eq0] at z2
            rw [z2]
            simp
          rw [z_tf_eq0, Bool.not_eq_false] at z2
          have hcd := of_decide_eq_true z2
          have eix : (((w.1 8 2 - nI 1) * nI 3) + w.1 8 3) - nI 1 = nI (D.length * 3 + (a.2.length - 1)) := by
            rw [hlen, s1, zn_pred (by omega), show D.length + 1 - 1 = D.length by omega, pk_mul, nI_add, zn_pred (by omega)]
            congr 1
            omega
          refine zb_Acts_grows_16 (k1 := D.length * 3 + (a.2.length - 1)) (k2 := D.length * 3 + (a.2.length - 1)) ⟨eix, by omega⟩ ⟨eix, by omega⟩ ?_
          have h9 := b3 z hne
          rw [hR.last.2 (a.2.length - 1) (by omega), pk_mul, nI_add, pk_sub (by omega), he, z, z2]
          refine ⟨_, rfl, rfl, fun _ => hR.upd ?_ ?_ ?_ ?_ (fun t ht => ?_) (fun k hk => ?_) hD, ?_⟩
          · rw [z_pI_ne2 (by decide), z_pI_ne (by decide)]
          · rw [z_pI_ne2 (by decide), z_pI_ne (by decide), s1]
            congr 1
            simp
            omega
          · rw [z_pI_at]
            rfl
          · rw [z_pI_ne (by decide), z_pI_ne (by decide)]
          · rw [z_pI_ne (by decide), l_dl_getD hne]
            simp only [List.length_append, List.length_dropLast, List.length_cons, List.length_nil] at ht
            by_cases e : t = a.2.length - 1
            · rw [e, z_pI_at, if_neg (by omega), if_pos rfl]
              congr 1
              omega
            · rw [z_pI_ne2 (by omega), if_pos (by omega)]
              exact hR.last.2 t (by omega)
          · rw [z_pI_ne (by decide), z_pI_ne2 (by omega)]
          · exact z_fr.pI (z_fr.pI z_fr.rf (by show 8 ≤ 10 ∧ 10 ≤ 10; omega)) (by show 8 ≤ 8 ∧ 8 ≤ 10; omega)
        · obtain ⟨rfl, h2, h3⟩ := hr
          refine zb_Acts_takes_158 ?_ (z_tf01 _)
          rw [he]
          exact ⟨_, rfl, rfl, h2, h3⟩
      · rw [zn_eq (by omega) (by omega)] at p1
        rw [decide_eq_true p1, Bool.true_or] at he
        have eg : g_go (D, some a, g) c = (D ++ [a], none, g) := by simp [g_go, p0, p1]
        rw [eg] at he
        refine zb_Acts_takes_146 (dc := 0) (P := fun r w => r = nI 1 ∧ w = z_pI u 8 3 (-1)) ?_ (by omega) (fun r w hr => ?_)
        · refine z_Ci_of (by decide) (Nat.le_of_ble_eq_true rfl) (fun Γ hd he => ?_)
          show z_J Γ zm_Acts_ends 0 [some (.inr 8)] [] u
          refine zb_Acts_ends_0 ?_
          rw [he]
          exact ⟨_, rfl, rfl, rfl⟩
        · obtain ⟨rfl, rfl⟩ := hr
          refine zb_Acts_takes_150 (zb_Acts_takes_158 ?_ (Or.inr rfl))
          rw [he]
          refine ⟨_, rfl, rfl, fun _ => ⟨?_, fun _ => z_pI_at _ _ _ _, fun b hb => absurd hb (by simp), fun j b hb => ?_⟩, z_fr.pI z_fr.rf (by show 8 ≤ 8 ∧ 8 ≤ 10; omega)⟩
          · rw [z_pI_ne2 (by decide)]
            exact hR.1
          · rw [z_pI_ne (by decide), z_pI_ne (by decide)]
            exact hR.2.2.2 j b hb
    · rw [zn_eq (by omega) (by omega)] at p
      have eo : g_ok (D, some a, g) c = decide (97 ≤ c ∧ c < 109) := by simp only [g_ok, p, if_true]
      have eg : g_go (D, some a, g) c = (D, some (a.1, a.2 ++ [c - 97]), false) := by simp only [g_go, p, if_true]
      rw [eo, eg] at he
      have no : ¬ (97 ≤ c ∧ c < 109) → z_J Γ zm_Acts_takes 88 [none, none] [] u := fun z => by
        refine zb_Acts_takes_88 (zb_Acts_takes_89 ?_ (Or.inl rfl))
        rw [he, decide_eq_false z]
        exact ⟨_, rfl, rfl, fun z => absurd z (by decide), z_fr.rf⟩
      refine zb_Acts_takes_60 (fun p1 => no ?_) (fun p1 => ?_)
      · rw [zn_lt (by omega) (by omega)] at p1
        omega
      rw [zn_lt (by omega) (by omega)] at p1
      refine zb_Acts_takes_66 (fun p2 => no ?_) (fun p2 => ?_)
      · rw [zn_lt (by omega) (by omega)] at p2
        omega
      rw [zn_lt (by omega) (by omega)] at p2
      have hl3 : a.2.length < 3 := g_po3 (k := a.1) (by omega)
      refine zb_Acts_takes_72 (dc := 0) (P := fun r w => r = nI 1 ∧ gR (D, some (a.1, a.2 ++ [c - 97]), false) w ∧ z_fr z_F810 u w) (by rw [pk_sub (by omega)]; exact cc_adds hR hD (by omega) hl3 (c - 97) false) (by omega) (fun r w hr => ?_)
      obtain ⟨rfl, h2, h3⟩ := hr
      refine zb_Acts_takes_81 (fun z => absurd z (by decide)) (fun _ => ?_)
      refine zb_Acts_takes_84 (zb_Acts_takes_89 ?_ (Or.inr rfl))
      rw [he, decide_eq_true (show 97 ≤ c ∧ c < 109 by omega)]
      exact ⟨_, rfl, rfl, fun _ => h2, h3⟩
    · rw [zn_eq (by omega) (by omega)] at p
      have eo : g_ok (D, some a, g) c = decide (48 ≤ c ∧ c < 58) := by simp [g_ok, p]
      have eg : g_go (D, some a, g) c = (D, some (a.1, a.2 ++ [c - 48]), false) := by simp [g_go, p]
      rw [eo, eg] at he
      have no : ¬ (48 ≤ c ∧ c < 58) → z_J Γ zm_Acts_takes 113 [none, none] [] u := fun z => by
        refine zb_Acts_takes_113 (zb_Acts_takes_114 ?_ (Or.inl rfl))
        rw [he, decide_eq_false z]
        exact ⟨_, rfl, rfl, fun z => absurd z (by decide), z_fr.rf⟩
      refine zb_Acts_takes_90 (cc_isDigit hc _) (by omega) (fun r w hr => ?_)
      obtain ⟨rfl, rfl⟩ := hr
      refine zb_Acts_takes_94 (fun p1 => no ?_) (fun p1 => ?_)
      · rw [z_tf_eq0, decide_eq_false_iff_not] at p1
        exact p1
      rw [z_tf_eq0, Bool.not_eq_false, decide_eq_true_eq] at p1
      have hl3 : a.2.length < 3 := g_po3 (k := a.1) (by omega)
      refine zb_Acts_takes_97 (dc := 0) (P := fun r w' => r = nI 1 ∧ gR (D, some (a.1, a.2 ++ [c - 48]), false) w' ∧ z_fr z_F810 w w') (by rw [pk_sub (by omega)]; exact cc_adds hR hD (by omega) hl3 (c - 48) false) (by omega) (fun r w hr => ?_)
      obtain ⟨rfl, h2, h3⟩ := hr
      refine zb_Acts_takes_106 (fun z => absurd z (by decide)) (fun _ => ?_)
      refine zb_Acts_takes_109 (zb_Acts_takes_114 ?_ (Or.inr rfl))
      rw [he, decide_eq_true p1]
      exact ⟨_, rfl, rfl, fun _ => h2, h3⟩
    · rw [zn_eq (by omega) (by omega)] at p
      have eo : g_ok (D, some a, g) c = decide (48 ≤ c ∧ c < 58) := by simp [g_ok, p]
      have eg : g_go (D, some a, g) c = (D, some (a.1, a.2 ++ [c - 48]), true) := by simp [g_go, p]
      rw [eo, eg] at he
      have no : ¬ (48 ≤ c ∧ c < 58) → z_J Γ zm_Acts_takes 138 [none, none] [] u := fun z => by
        refine zb_Acts_takes_138 (zb_Acts_takes_139 ?_ (Or.inl rfl))
        rw [he, decide_eq_false z]
        exact ⟨_, rfl, rfl, fun z => absurd z (by decide), z_fr.rf⟩
      refine zb_Acts_takes_115 (cc_isDigit hc _) (by omega) (fun r w hr => ?_)
      obtain ⟨rfl, rfl⟩ := hr
      refine zb_Acts_takes_119 (fun p1 => no ?_) (fun p1 => ?_)
      · rw [z_tf_eq0, decide_eq_false_iff_not] at p1
        exact p1
      rw [z_tf_eq0, Bool.not_eq_false, decide_eq_true_eq] at p1
      have hl3 : a.2.length < 3 := g_po3 (k := a.1) (by omega)
      refine zb_Acts_takes_122 (dc := 0) (P := fun r w' => r = nI 1 ∧ gR (D, some (a.1, a.2 ++ [c - 48]), true) w' ∧ z_fr z_F810 w w') (by rw [pk_sub (by omega)]; exact cc_adds hR hD (by omega) hl3 (c - 48) true) (by omega) (fun r w hr => ?_)
      obtain ⟨rfl, h2, h3⟩ := hr
      refine zb_Acts_takes_131 (fun z => absurd z (by decide)) (fun _ => ?_)
      refine zb_Acts_takes_134 (zb_Acts_takes_139 ?_ (Or.inr rfl))
      rw [he, decide_eq_true p1]
      exact ⟨_, rfl, rfl, fun _ => h2, h3⟩
end
