/-! the model: laying for a height -/
/-- the books of a set, from one on -/
def b_sk (m n fr : Nat) : List Nat := ((List.range n).drop fr).filter (fun b => m.testBit b)
theorem b_sk_n (m n : Nat) : b_sk m n n = [] := by
  unfold b_sk
  rw [List.drop_of_length_le (by simp)]
  rfl
theorem b_sk_s {m n fr : Nat} (h : fr < n) : b_sk m n fr = if m.testBit fr = true then fr :: b_sk m n (fr + 1) else b_sk m n (fr + 1) := by
  unfold b_sk
  rw [List.drop_eq_getElem_cons (by simpa using h), List.filter_cons]
  simp
/-- numbers of a way, one behind the other -/
def b_fa : bW → List Nat
  | [] => []
  | x :: t => x.1 :: x.2 :: b_fa t
theorem b_fa_len : ∀ t : bW, (b_fa t).length = 2 * t.length
  | [] => rfl
  | x :: t => by
    rw [b_fa, List.length_cons, List.length_cons, b_fa_len t, List.length_cons]
    omega
def b_co (acc : Nat × List Nat) (k : Nat) (ln : List Nat) (o : Option bW) : Nat × List Nat := match o with
  | none => acc
  | some t => if k + t.length < acc.1 then (k + t.length, ln ++ b_fa t) else acc
theorem b_co_step (acc : Nat × List Nat) (k b c : Nat) (ln : List Nat) (o o' : Option bW) : b_co (b_co acc k ln o) (k + 1) (ln ++ [b, c]) o' = b_co acc k ln (b_bet o (o'.map (List.cons (b, c)))) := by
  cases o' with
  | none => rfl
  | some t' =>
    have e1 : ln ++ [b, c] ++ b_fa t' = ln ++ b_fa ((b, c) :: t') := by simp [b_fa]
    cases o with
    | none =>
      show (if k + 1 + t'.length < acc.1 then (k + 1 + t'.length, ln ++ [b, c] ++ b_fa t') else acc) = (if k + ((b, c) :: t').length < acc.1 then (k + ((b, c) :: t').length, ln ++ b_fa ((b, c) :: t')) else acc)
      rw [e1, List.length_cons, show k + 1 + t'.length = k + (t'.length + 1) by omega]
    | some t =>
      show (if k + 1 + t'.length < (if k + t.length < acc.1 then (k + t.length, ln ++ b_fa t) else acc).1 then (k + 1 + t'.length, ln ++ [b, c] ++ b_fa t') else (if k + t.length < acc.1 then (k + t.length, ln ++ b_fa t) else acc)) = b_co acc k ln (if ((b, c) :: t').length < t.length then some ((b, c) :: t') else some t)
      rw [e1, List.length_cons, show k + 1 + t'.length = k + (t'.length + 1) by omega]
      by_cases q : k + t.length < acc.1
      · rw [if_pos q]
        by_cases q2 : t'.length + 1 < t.length
        · rw [if_pos q2, if_pos (by show k + (t'.length + 1) < k + t.length; omega)]
          show _ = (if k + ((b, c) :: t').length < acc.1 then _ else acc)
          rw [List.length_cons, if_pos (by omega)]
        · rw [if_neg q2, if_neg (by show ¬ k + (t'.length + 1) < k + t.length; omega)]
          show _ = (if k + t.length < acc.1 then _ else acc)
          rw [if_pos q]
      · rw [if_neg q]
        by_cases q2 : t'.length + 1 < t.length
        · rw [if_pos q2]
          show _ = (if k + ((b, c) :: t').length < acc.1 then _ else acc)
          rw [List.length_cons]
        · rw [if_neg q2, if_neg (by omega)]
          show _ = (if k + t.length < acc.1 then _ else acc)
          rw [if_neg q]
/-- the greatest least height that can be come to -/
def b_lh (s : aS) (P : bP) : Nat := a_lhi s (fun _ => 0, fun _ => 0, fun _ => 0, fun _ => 0, P, 0) (s_c s)
theorem b_lh_v (s : aS) (v : aV) : a_lh s v = b_lh s (v_p v) := by
  show a_lhi s v (s_c s) = a_lhi s _ (s_c s)
  have : ∀ c, a_lhi s v c = a_lhi s (fun _ => 0, fun _ => 0, fun _ => 0, fun _ => 0, v_p v, 0) c := by
    intro c
    induction c with
    | zero => rfl
    | succ c ih => rw [a_lhi, a_lhi, ih]
  exact this _
def b_mx (E : (Nat → Int32) → Int32) (s : aS) (dy : Nat) : Nat → bP → List Nat → Nat → Nat
  | 0, P, _, a => max a (b_lh s P)
  | n + 1, P, bs, a => (b_ch (s_c s) bs).foldl (fun a x => if b_al E s dy P x.1 x.2.1 = true then b_mx E s dy n (b_ly P x.1 x.2.1) x.2.2 a else a) (max a (b_lh s P))
section
variable {s : aS} {dy th K : Nat} {T : Nat → Nat} {x5 : Int32} {α : Type}
def bMl (ln : List Nat) (σ : zS) : Prop := ∀ i, i < ln.length → σ.1 80 i = nI (ln.getD i 0)
/-- what may change -/
abbrev bO (q : Nat) : Prop := q = 74 ∨ q = 75 ∨ q = 80 ∨ q = 81
def mbC (s : aS) (dy th K : Nat) (T : Nat → Nat) (x5 : Int32) (Mm : α → zS → Prop) (f : bP → List Nat → Nat → List Nat → α → α) (D n : Nat) : Prop := ∀ fr k ln acc w τ, mR s w τ 78 → mRr K T τ → v_y w = dy → fr ≤ s_n s → (∀ b, fr ≤ b → b < s_n s → th.testBit b = true → v_w w b ≠ 1) → (b_sk th (s_n s) fr).length ≤ n → ln.length = 2 * k → k + n ≤ 6 → bMl ln τ → Mm acc τ → z_Cv D zm_Model_goBuild [.inr 63, .inr 78, .inl (nI th), .inl (nI fr), .inl (nI k), .inl x5] τ (fun u => Mm (f (v_p w) (b_sk th (s_n s) fr) k ln acc) u ∧ mX bO m_sK τ u ∧ bMl ln u)
def bLp (s : aS) (dy : Nat) (E : (Nat → Int32) → Int32) (f : bP → List Nat → Nat → List Nat → α → α) (P : bP) (k : Nat) (ln : List Nat) (acc : α) (x : Nat × Nat × List Nat) : α := if b_al E s dy P x.1 x.2.1 = true then f (b_ly P x.1 x.2.1) x.2.2 (k + 1) (ln ++ [x.1, x.2.1]) acc else acc
theorem bMl.app {ln : List Nat} {σ : zS} {b c k : Nat} (h : bMl ln σ) (hk : ln.length = 2 * k) : bMl (ln ++ [b, c]) (z_pI (z_pI σ 80 (2 * k) (nI b)) 80 (2 * k + 1) (nI c)) := by
  intro i hi
  simp only [List.length_append, List.length_cons, List.length_nil] at hi
  rcases Nat.lt_trichotomy i (2 * k) with q | q | q
  · rw [z_pI_ne2 (by omega), z_pI_ne2 (by omega), h i (by omega)]
    simp only [List.getD_eq_getElem?_getD]
    rw [List.getElem?_append_left (by omega)]
  · subst q
    rw [z_pI_ne2 (by omega), z_pI_at]
    simp only [List.getD_eq_getElem?_getD]
    rw [List.getElem?_append_right (by omega), hk]
    simp
  · have e : i = 2 * k + 1 := by omega
    subst e
    rw [z_pI_at]
    simp only [List.getD_eq_getElem?_getD]
    rw [List.getElem?_append_right (by omega), hk]
    simp
theorem mb_loop {Mm : α → zS → Prop} (hMm : ∀ acc σ u, u.1 81 = σ.1 81 → u.1 63 35 = σ.1 63 35 → u.1 63 36 = σ.1 63 36 → Mm acc σ → Mm acc u) {f : bP → List Nat → Nat → List Nat → α → α} {D N : Nat} (hD : 345 ≤ D) (hch : ∀ n, N = n + 1 → mbC s dy th K T x5 Mm f D n) {fr k : Nat} {ln : List Nat} {acc : α} {w : aV} {τ : zS} (hth : th < 4096) (hR : mR s w τ 78) (hM : mRr K T τ) (hy : v_y w = dy) (hfr : fr ≤ s_n s) (hw : ∀ b, fr ≤ b → b < s_n s → th.testBit b = true → v_w w b ≠ 1) (hl : (b_sk th (s_n s) fr).length ≤ N) (hln : ln.length = 2 * k) (hk : k + N ≤ 6) (hbl : bMl ln τ) (hm : Mm acc τ) {Γ : zG} (hd : D < z_dep Γ) (he : ∀ u, Mm ((b_ch (s_c s) (b_sk th (s_n s) fr)).foldl (bLp s dy (tE K T) f (v_p w) k ln) acc) u → mX bO m_sK τ u → bMl ln u → z_end Γ none u) : z_J Γ zm_Model_goBuild 91 [some (.inr 63), some (.inr 78), some (.inl (nI th)), some (.inl (nI fr)), some (.inl (nI k)), some (.inl x5), none, none, none, none, none, none] [] τ := by
  have hn := hR.n
  have h6 := hR.c6
  refine zb_Model_goBuild_91 rfl ?_
  refine zj_forM (fun m Ls u => ∃ b acc', m = s_n s - b ∧ fr ≤ b ∧ b ≤ s_n s ∧ Ls = [some (.inr 63), some (.inr 78), some (.inl (nI th)), none, some (.inl (nI k)), some (.inl x5), none, some (.inl (nI b)), none, none, none, none] ∧ (b_sk th (s_n s) b).length ≤ N ∧ (b_ch (s_c s) (b_sk th (s_n s) b)).foldl (bLp s dy (tE K T) f (v_p w) k ln) acc' = (b_ch (s_c s) (b_sk th (s_n s) fr)).foldl (bLp s dy (tE K T) f (v_p w) k ln) acc ∧ Mm acc' u ∧ mX bO m_sK τ u ∧ bMl ln u) (fun m Ls u hI kk => ?_) (s_n s - fr) _ τ ⟨fr, acc, rfl, Nat.le_refl _, hfr, rfl, hl, rfl, hm, mX.rf, hbl⟩
  obtain ⟨b, acc', rfl, hb1, hb2, rfl, hbl1, hfold, hMu, hFu, hLu⟩ := hI
  have Ru := hR.keepX hFu (by unfold m_sK; omega) (by unfold bO; omega) (by unfold bO; omega) (by decide)
  refine zb_Model_goBuild_94 rfl (fun z => ?_) (fun z => ?_)
  · rw [Ru.2.1.1, zn_le (by omega) (by omega)] at z
    have e : b = s_n s := by omega
    subst e
    refine zb_Model_goBuild_239 ?_
    rw [b_sk_n] at hfold
    exact he u (by rw [← hfold]; exact hMu) hFu hLu
  rw [Ru.2.1.1, zn_le (by omega) (by omega)] at z
  have hbn : b < s_n s := by omega
  have esk := b_sk_s (m := th) (n := s_n s) hbn
  refine zb_Model_goBuild_103 rfl (mc_has th b (by omega) (by omega) u) (by omega) (fun r u' hr => ?_)
  obtain ⟨rfl, rfl⟩ := hr
  refine zb_Model_goBuild_109 rfl (fun z2 => ?_) (fun z2 => ?_)
  rotate_left
  · rw [z_tf_eq0] at z2
    refine zb_Model_goBuild_112 rfl (zb_Model_goBuild_233 rfl ?_)
    rw [nI_add]
    rw [esk, if_neg (by rw [z2]; decide)] at hfold hbl1
    exact kk _ _ u' (show s_n s - (b + 1) < s_n s - b by omega) ⟨b + 1, acc', rfl, by omega, by omega, rfl, hbl1, hfold, hMu, hFu, hLu⟩
  rw [z_tf_eq0, Bool.not_eq_false] at z2
  rw [esk, if_pos z2] at hfold hbl1
  rw [b_rm_0] at hfold
  simp only [List.length_cons] at hbl1
  obtain ⟨n, hNn⟩ : ∃ n, N = n + 1 := ⟨N - 1, by omega⟩
  have hch := hch n hNn
  refine zb_Model_goBuild_115 rfl ?_
  refine zj_forM (fun m Ls u => ∃ c acc', m = s_c s - c ∧ c ≤ s_c s ∧ Ls = [some (.inr 63), some (.inr 78), some (.inl (nI th)), none, some (.inl (nI k)), some (.inl x5), none, some (.inl (nI b)), some (.inl (nI c)), none, none, none] ∧ (b_rm (s_c s) b (b_sk th (s_n s) (b + 1)) c).foldl (bLp s dy (tE K T) f (v_p w) k ln) acc' = (b_ch (s_c s) (b_sk th (s_n s) fr)).foldl (bLp s dy (tE K T) f (v_p w) k ln) acc ∧ Mm acc' u ∧ mX bO m_sK τ u ∧ bMl ln u) (fun m Ls u hI kk2 => ?_) (s_c s - 0) _ u' ⟨0, acc', rfl, Nat.zero_le _, rfl, hfold, hMu, hFu, hLu⟩
  obtain ⟨c, acc2, rfl, hc1, rfl, hfold2, hMu2, hFu2, hLu2⟩ := hI
  have Ru2 := hR.keepX hFu2 (by unfold m_sK; omega) (by unfold bO; omega) (by unfold bO; omega) (by decide)
  have Uu2 : mRr K T u := hM.keepX hFu2 (by unfold bO; omega) (by unfold m_sK; omega)
  refine zb_Model_goBuild_118 rfl (fun z3 => ?_) (fun z3 => ?_)
  · rw [Ru2.2.1.2.1, zn_le (by omega) (by omega)] at z3
    have e : c = s_c s := by omega
    subst e
    rw [b_rm_n] at hfold2
    refine zb_Model_goBuild_233 rfl ?_
    rw [nI_add]
    exact kk _ _ u (show s_n s - (b + 1) < s_n s - b by omega) ⟨b + 1, acc2, rfl, by omega, by omega, rfl, by omega, hfold2, hMu2, hFu2, hLu2⟩
  rw [Ru2.2.1.2.1, zn_le (by omega) (by omega)] at z3
  have hcc : c < s_c s := by omega
  rw [b_rm_s hcc, List.foldl_cons] at hfold2
  refine zb_Model_goBuild_127 rfl (mc_refusesTop Uu2.1 (by rw [Uu2.2]; decide) Ru2 (by decide) (by decide) hbn hcc) (by omega) (fun r u3 hr => ?_)
  obtain ⟨rfl, F3⟩ := hr
  have F3' : mX bO m_sK u u3 := F3.X (by unfold bO; omega) (by unfold m_sK; omega)
  have hFu3 := hFu2.tr F3'
  have Mu3 : Mm acc2 u3 := hMm acc2 u u3 (F3.1 81 (by decide) (by decide) (by decide)).1 (F3.2.1 35 (by omega) (by decide)) (F3.2.1 36 (by omega) (by decide)) hMu2
  have Lu3 : bMl ln u3 := by
    unfold bMl
    rw [(F3.1 80 (by decide) (by decide) (by decide)).1]
    exact hLu2
  have next : ∀ acc3 u4, (b_rm (s_c s) b (b_sk th (s_n s) (b + 1)) (c + 1)).foldl (bLp s dy (tE K T) f (v_p w) k ln) acc3 = (b_ch (s_c s) (b_sk th (s_n s) fr)).foldl (bLp s dy (tE K T) f (v_p w) k ln) acc → Mm acc3 u4 → mX bO m_sK τ u4 → bMl ln u4 → z_J Γ zm_Model_goBuild 227 [some (.inr 63), some (.inr 78), some (.inl (nI th)), none, some (.inl (nI k)), some (.inl x5), none, some (.inl (nI b)), some (.inl (nI c)), none, none, none] [] u4 := by
    intro acc3 u4 a1 a2 a3 a4
    refine zb_Model_goBuild_227 rfl ?_
    rw [nI_add]
    exact kk2 _ _ u4 (show s_c s - (c + 1) < s_c s - c by omega) ⟨c + 1, acc3, rfl, by omega, rfl, a1, a2, a3, a4⟩
  by_cases ha : b_al (tE K T) s dy (v_p w) b c = true
  · have ha' := ha
    unfold b_al at ha'
    rw [Bool.and_eq_true, decide_eq_true_eq] at ha'
    have et : a_top0 (tE K T) s w b c = nI 0 := by
      unfold a_top0
      rw [if_neg ha'.1, hy, if_pos ha'.2]
    rw [et]
    refine zb_Model_goBuild_136 rfl (fun _ => ?_) (fun z4 => absurd (by decide) z4)
    have e1 : bLp s dy (tE K T) f (v_p w) k ln acc2 (b, c, b_sk th (s_n s) (b + 1)) = f (b_ly (v_p w) b c) (b_sk th (s_n s) (b + 1)) (k + 1) (ln ++ [b, c]) acc2 := if_pos ha
    rw [e1] at hfold2
    have Ru3 := hR.keepX hFu3 (by unfold m_sK; omega) (by unfold bO; omega) (by unfold bO; omega) (by decide)
    have Uu3 : mRr K T u3 := hM.keepX hFu3 (by unfold bO; omega) (by unfold m_sK; omega)
    have hw1 : v_w w b ≠ 1 := hw b hb1 hbn z2
    have h4 : (v_p w c).length < 4 := by
      have := hR.1.l4 hcc
      omega
    refine zb_Model_goBuild_142 rfl (k1 := b) (k2 := 12 + b) (k3 := 24 + b) (z_ixn (by omega)) ⟨nI_add _ _, by omega⟩ ⟨nI_add _ _, by omega⟩ (mc_goLay Ru3 (by decide) hbn hcc) (by omega) (fun u4 h4' => ?_)
    subst h4'
    have Rp := Ru3.put (by decide) hbn hw1 hcc h4
    have Fp := m_put_fr u3 78 b c (v_p w c).length
    have Up : mRr K T (m_put u3 78 b c (v_p w c).length) := Uu3.keepX (K := fun _ => False) (Fp.X (by decide) (fun _ h => h)) (by decide) id
    obtain ⟨ρ, hρ⟩ : ∃ z, z = z_pI (z_pI (m_put u3 78 b c (v_p w c).length) 80 (2 * k) (nI b)) 80 (2 * k + 1) (nI c) := ⟨_, rfl⟩
    have Fρ : z_fr (fun q => q = 78 ∨ q = 80) u3 ρ := by
      rw [hρ]
      exact z_fr.pI (z_fr.pI (Fp.mono (fun _ h => Or.inl h)) (Or.inr rfl)) (Or.inr rfl)
    have Rρ : mR s (a_put w b c) ρ 78 := by
      rw [hρ]
      exact Rp.keepX (R := fun q => q = 80) (K := fun _ => False) (mX.pR (mX.pR mX.rf rfl (by decide)) rfl (by decide)) ⟨id, id, id⟩ (by decide) (by decide) (by decide)
    have Uρ : mRr K T ρ := Uu3.keepX (K := fun _ => False) (Fρ.X (by decide) (fun _ h => h)) (by decide) id
    have Mρ : Mm acc2 ρ := hMm acc2 u3 ρ (Fρ 81 (by decide)).1 (by rw [(Fρ 63 (by decide)).1]) (by rw [(Fρ 63 (by decide)).1]) Mu3
    have Lρ : bMl (ln ++ [b, c]) ρ := by
      rw [hρ]
      refine bMl.app ?_ hln
      unfold bMl
      rw [(Fp 80 (by decide)).1]
      exact Lu3
    have hrec := hch (b + 1) (k + 1) (ln ++ [b, c]) acc2 (a_put w b c) ρ Rρ Uρ hy (by omega) (fun b' h1 h2 h3 => by
      show a_up (v_w w) b 1 b' ≠ 1
      rw [a_up_n (by omega)]
      exact hw b' (by omega) h2 h3) (by omega) (by simp [hln]; omega) (by omega) Lρ Mρ
    refine zb_Model_goBuild_175 rfl (k1 := 2 * k) (k2 := 2 * k + 1) ⟨pk_mul _ _, by omega⟩ ⟨by rw [pk_mul, nI_add], by omega⟩ (dc := D) (P := fun u => Mm (f (b_ly (v_p w) b c) (b_sk th (s_n s) (b + 1)) (k + 1) (ln ++ [b, c]) acc2) u ∧ mX bO m_sK ρ u ∧ bMl (ln ++ [b, c]) u) (by rw [nI_add, nI_add, ← hρ]; exact hrec) hd (fun u5 h5 => ?_)
    obtain ⟨M5, F5, L5⟩ := h5
    refine zb_Model_goBuild_215 rfl (mc_put (by decide) (by omega) _ _ _) (by omega) (fun u6 h6' => ?_)
    -- the row is as it was
    have hX : mX bO m_sK u3 u6 := by
      rw [h6']
      refine ⟨fun q h1 h2 => ?_, fun k' hk' => ?_, fun k' hk' => ?_⟩
      · by_cases e : q = 78
        · subst e
          have f78 : u5.1 78 = ρ.1 78 := (F5.1 78 (by decide) (by unfold bO; omega)).1
          have g78 : ρ.1 78 = (m_put u3 78 b c (v_p w c).length).1 78 := by rw [hρ, z_pI_ne (by decide), z_pI_ne (by decide)]
          refine ⟨?_, by rw [z_pI_2, z_pI_2, z_pI_2, (F5.1 78 (by decide) (by unfold bO; omega)).2, hρ]; rfl⟩
          funext j
          rw [z_pI_1, z_pI_1, z_pI_1, f78, g78]
          by_cases j1 : j = 24 + b
          · rw [if_pos ⟨rfl, j1⟩, j1]
          · rw [if_neg (fun z => j1 z.2)]
            by_cases j2 : j = 12 + b
            · rw [if_pos ⟨rfl, j2⟩, j2]
            · rw [if_neg (fun z => j2 z.2)]
              by_cases j3 : j = b
              · rw [if_pos ⟨rfl, j3⟩, j3]
              · rw [if_neg (fun z => j3 z.2)]
                show (z_pI (z_pI (z_pI u3 78 b (nI 1)) 78 (12 + b) (nI c)) 78 (24 + b) (nI (v_p w c).length)).1 78 j = _
                rw [z_pI_ne2 j1, z_pI_ne2 j2, z_pI_ne2 j3]
        · have e80 : q ≠ 80 := fun z => h2 (by rw [z]; unfold bO; omega)
          rw [z_pI_ne e, z_pI_ne e, z_pI_ne e, z_pI_2, z_pI_2, z_pI_2]
          obtain ⟨g1, g2⟩ := F5.1 q h1 h2
          obtain ⟨g3, g4⟩ := Fρ q (fun z => z.elim e e80)
          exact ⟨by rw [g1, g3], by rw [g2, g4]⟩
      · rw [z_pI_ne (by decide), z_pI_ne (by decide), z_pI_ne (by decide), F5.2.1 k' hk', (Fρ 63 (by decide)).1]
      · rw [z_pI_2, z_pI_2, z_pI_2, F5.2.2 k' hk', (Fρ 63 (by decide)).2]
    refine next _ u6 hfold2 ?_ (hFu3.tr hX) ?_
    · refine hMm _ u5 u6 ?_ ?_ ?_ M5
      · rw [h6', z_pI_ne (by decide), z_pI_ne (by decide), z_pI_ne (by decide)]
      · rw [h6', z_pI_ne (by decide), z_pI_ne (by decide), z_pI_ne (by decide)]
      · rw [h6', z_pI_ne (by decide), z_pI_ne (by decide), z_pI_ne (by decide)]
    · intro i hi
      have := L5 i (by simp; omega)
      rw [h6', z_pI_ne (by decide), z_pI_ne (by decide), z_pI_ne (by decide), this]
      simp only [List.getD_eq_getElem?_getD]
      rw [List.getElem?_append_left hi]
  · have et : ¬ 0 ≤ a_top0 (tE K T) s w b c := by
      unfold a_top0
      by_cases q4 : (v_p w c).length = 4
      · rw [if_pos q4]; decide
      · rw [if_neg q4]
        have : ¬ l_ho (tE K T) s (v_y w) c (v_p w c ++ [b]) = true := fun z => ha (by
          unfold b_al
          rw [decide_eq_true q4, ← hy, z]
          rfl)
        rw [if_neg this]; decide
    refine zb_Model_goBuild_136 rfl (fun z4 => absurd z4 et) (fun _ => ?_)
    have e1 : bLp s dy (tE K T) f (v_p w) k ln acc2 (b, c, b_sk th (s_n s) (b + 1)) = acc2 := if_neg ha
    rw [e1] at hfold2
    exact zb_Model_goBuild_139 rfl (next _ u3 hfold2 Mu3 hFu3 Lu3)
end
