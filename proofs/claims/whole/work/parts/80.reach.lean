/-! the program: the mason reaches a height by so many -/
def bM7 (ln : List Nat) (σ : zS) : Prop := ∀ i, i < ln.length → σ.1 27 i = nI (ln.getD i 0)
theorem bM7.app {ln : List Nat} {σ : zS} {b c k : Nat} (h : bM7 ln σ) (hk : ln.length = 2 * k) : bM7 (ln ++ [b, c]) (z_pI (z_pI σ 27 (2 * k) (nI b)) 27 (2 * k + 1) (nI c)) := by
  intro i hi
  simp only [List.length_append, List.length_cons, List.length_nil] at hi
  rcases Nat.lt_trichotomy i (2 * k) with q | q | q
  · rw [z_pI_ne2 (by omega), z_pI_ne2 (by omega), h i (by omega)]
    simp only [List.getD_eq_getElem?_getD]
    rw [List.getElem?_append_left (by omega)]
  · subst q
    rw [z_pI_ne2 (by omega), z_pI_at]
    simp only [List.getD_eq_getElem?_getD]
    rw [List.getElem?_append_right (by omega), hk]
    simp
  · have e : i = 2 * k + 1 := by omega
    subst e
    rw [z_pI_at]
    simp only [List.getD_eq_getElem?_getD]
    rw [List.getElem?_append_right (by omega), hk]
    simp
theorem bM7.pre {ln l : List Nat} {σ : zS} (h : bM7 (ln ++ l) σ) : bM7 ln σ := by
  intro i hi
  have := h i (by simp; omega)
  rw [this]
  simp only [List.getD_eq_getElem?_getD]
  rw [List.getElem?_append_left hi]
abbrev bRO (q : Nat) : Prop := q = 27 ∨ (43 ≤ q ∧ q ≤ 52) ∨ q = 55 ∨ q = 60
def b_hit (o : Option bW) (m : Nat) : Option bW := match o with
  | some t => if t.length = m then some t else none
  | none => none
theorem b_hit_n {o : Option bW} {m : Nat} (h : ∀ t, o = some t → t.length ≠ m) : b_hit o m = none := by
  cases o with
  | none => rfl
  | some t => exact if_neg (h t rfl)
def bPost (s : aS) (w : aV) (ln : List Nat) (o : Option bW) (r : Int32) (u : zS) : Prop := match o with
  | none => r = nI 0 ∧ cR s w u 43 ∧ bM7 ln u
  | some t => r = nI 1 ∧ (∃ w', cR s w' u 43 ∧ v_p w' = b_fl (v_p w) t) ∧ bM7 (ln ++ b_fa t) u
section
variable {E : (Nat → Int32) → Int32} {s : aS} {dy h tk r : Nat} {bs : List Nat}
def crC (E : (Nat → Int32) → Int32) (s : aS) (dy h tk : Nat) (bs : List Nat) (r D N : Nat) : Prop := ∀ i k m ln w τ, cR s w τ 43 → rR E τ r → bMs s h tk bs τ → v_y w = dy → i ≤ bs.length → (bs.drop i).length ≤ N → (∀ b, b ∈ bs.drop i → v_w w b = 0) → b_NS E s dy h (v_p w) (bs.drop i) m → ln.length = 2 * k → k + m ≤ 6 → bM7 ln τ → z_Ci D zm_Mason_reaches [.inr 26, .inr 43, .inr r, .inl (nI i), .inl (nI k), .inl (nI (k + m))] τ (fun x u => bPost s w ln (b_hit (b_bst E s dy h N (v_p w) (bs.drop i)) m) x u ∧ cX bRO (fun _ => False) τ u)
theorem bMs.keepX {σ u : zS} {R K : Nat → Prop} (hM : bMs s h tk bs σ) (hF : cX R K σ u) (h1 : ¬ R 26 ∧ ¬ R 28 ∧ ¬ R 29) : bMs s h tk bs u := by
  unfold bMs
  rw [(hF.1 26 (by decide) h1.1).1, (hF.1 28 (by decide) h1.2.1).1, (hF.1 29 (by decide) h1.2.2).1]
  exact hM
theorem rR.keepX {σ u : zS} {R K : Nat → Prop} (h : rR E σ r) (hr : z_oR r) (hF : cX R K σ u) (h1 : ¬ R 53 ∧ ¬ R 54 ∧ ¬ R 58 ∧ ¬ R 59) : rR E u r := by
  rcases hr with e | e
  · subst e
    exact h.keep (hF.1 53 (by decide) h1.1).1 (hF.1 54 (by decide) h1.2.1).1
  · subst e
    exact h.keep (hF.1 58 (by decide) h1.2.2.1).1 (hF.1 59 (by decide) h1.2.2.2).1
theorem l_dropc {l : List Nat} {j : Nat} (hj : j < l.length) : l.drop j = l.getD j 0 :: l.drop (j + 1) := by
  rw [List.drop_eq_getElem_cons hj]
  congr 1
  simp only [List.getD_eq_getElem?_getD]
  rw [List.getElem?_eq_getElem hj]
  rfl
theorem b_cd_ok {P : bP} {n : Nat} {x : Nat × Nat × List Nat} {t : bW} (h1 : b_cd E s dy P (b_bst E s dy h n) x = some t) : ∃ t', t = (x.1, x.2.1) :: t' ∧ b_al E s dy P x.1 x.2.1 = true ∧ b_bst E s dy h n (b_ly P x.1 x.2.1) x.2.2 = some t' ∧ b_va E s dy (b_ly P x.1 x.2.1) x.2.2 t' ∧ b_gd s h (b_fl (b_ly P x.1 x.2.1) t') = true := by
  unfold b_cd at h1
  split at h1
  · rename_i q
    cases hb : b_bst E s dy h n (b_ly P x.1 x.2.1) x.2.2 with
    | none => rw [hb] at h1; exact absurd h1 (by simp)
    | some t' =>
      rw [hb] at h1
      simp only [Option.map_some, Option.some.injEq] at h1
      obtain ⟨g1, g2⟩ := b_bst_ok _ _ _ _ hb
      exact ⟨t', h1.symm, q, rfl, g1, g2⟩
  · exact absurd h1 (by simp)
theorem cr_1 (hr : z_oR r) (hS : bSt s tk bs) (h99 : h ≤ 99) (N : Nat) (hch : ∀ n, N = n + 1 → crC E s dy h tk bs r (4 + N) n) : crC E s dy h tk bs r (5 + N) N := by
  intro i k m ln w τ hR hE hM hy hi hN hw hNS hln hk hbl
  have hl6 := hS.1
  have hn := hR.n
  have hc6 := hR.c6
  refine z_Ci_of (by decide) (Nat.le_of_ble_eq_true rfl) (fun Γ hd he => ?_)
  show z_J Γ zm_Mason_reaches 0 [some (.inr 26), some (.inr 43), some (.inr r), some (.inl (nI i)), some (.inl (nI k)), some (.inl (nI (k + m))), none, none] [] τ
  refine zb_Mason_reaches_0 hr (dc := 3) (P := fun x u => ∃ q : Bool, x = z_tf q ∧ u = τ ∧ (q = true → m = 0 → b_gd s h (v_p w) = true) ∧ ∀ t, b_va E s dy (v_p w) (bs.drop i) t → b_gd s h (b_fl (v_p w) t) = true → t.length = m → q = true) (by rw [pk_sub (by omega), Nat.add_sub_cancel_left]; exact cc_canReach hR hM hS h99 hi (by omega)) (by omega) (fun x u hx => ?_)
  obtain ⟨q, rfl, rfl, q1, q2⟩ := hx
  refine zb_Mason_reaches_11 hr (fun z => ?_) (fun z => ?_)
  rotate_left
  · rw [z_tf_eq0] at z
    refine zb_Mason_reaches_14 ?_
    rw [he]
    refine ⟨_, rfl, ?_, cX.rf⟩
    rw [b_hit_n (fun t ht hm => ?_)]
    · exact ⟨rfl, hR, hbl⟩
    · obtain ⟨g1, g2⟩ := b_bst_ok _ _ _ _ ht
      have := q2 t g1 g2 hm
      rw [z] at this
      exact absurd this (by decide)
  rw [z_tf_eq0, Bool.not_eq_false] at z
  refine zb_Mason_reaches_16 hr (fun z2 => ?_) (fun z2 => ?_)
  rotate_left
  · rw [zn_eq (by omega) (by omega)] at z2
    have hm0 : m = 0 := by omega
    subst hm0
    have hg := q1 z rfl
    have ea : b_bst E s dy h N (v_p w) (bs.drop i) = some [] := by
      cases N with
      | zero => exact if_pos hg
      | succ n => exact if_pos hg
    refine zb_Mason_reaches_23 ?_
    rw [he, ea]
    refine ⟨_, rfl, ?_, cX.rf⟩
    show nI 1 = nI 1 ∧ (∃ w', cR s w' u 43 ∧ v_p w' = b_fl (v_p w) []) ∧ bM7 (ln ++ []) u
    rw [List.append_nil]
    exact ⟨rfl, ⟨w, hR, rfl⟩, hbl⟩
  rw [zn_eq (by omega) (by omega)] at z2
  obtain ⟨m', rfl⟩ : ∃ m', m = m' + 1 := ⟨m - 1, by omega⟩
  have ng : ¬ b_gd s h (v_p w) = true := fun hg => by
    have := hNS [] trivial hg
    simp at this
  have eA : b_bst E s dy h N (v_p w) (bs.drop i) = (b_ch (s_c s) (bs.drop i)).foldl (fun o x => b_bet o (b_cd E s dy (v_p w) (b_bst E s dy h (N - 1)) x)) none := by
    cases N with
    | zero =>
      rw [List.eq_nil_of_length_eq_zero (show (bs.drop i).length = 0 by omega)]
      exact if_neg ng
    | succ n => exact if_neg ng
  rw [eA] at he
  have hmin0 : ∀ x, x ∈ b_ch (s_c s) (bs.drop i) → ∀ t, b_cd E s dy (v_p w) (b_bst E s dy h (N - 1)) x = some t → m' + 1 ≤ t.length := by
    intro x hx t ht
    obtain ⟨hx1, pre, hx2⟩ := b_ch_mem.mp hx
    obtain ⟨t', e1, e2, e3, e4, e5⟩ := b_cd_ok ht
    rw [e1]
    exact hNS _ ⟨pre, x.2.2, hx2, hx1, e2, e4⟩ e5
  generalize hA : (b_ch (s_c s) (bs.drop i)).foldl (fun o x => b_bet o (b_cd E s dy (v_p w) (b_bst E s dy h (N - 1)) x)) none = A at he
  refine zb_Mason_reaches_25 hr ?_
  refine zj_forM (fun mm Ls u' => ∃ j o, mm = bs.length - j ∧ i ≤ j ∧ j ≤ bs.length ∧ Ls = [some (.inr 26), some (.inr 43), some (.inr r), none, some (.inl (nI k)), some (.inl (nI (k + (m' + 1)))), some (.inl (nI j)), none] ∧ (b_ch (s_c s) (bs.drop j)).foldl (fun o x => b_bet o (b_cd E s dy (v_p w) (b_bst E s dy h (N - 1)) x)) o = A ∧ (∀ t, o = some t → m' + 1 < t.length) ∧ (∀ x, x ∈ b_ch (s_c s) (bs.drop j) → ∀ t, b_cd E s dy (v_p w) (b_bst E s dy h (N - 1)) x = some t → m' + 1 ≤ t.length) ∧ cR s w u' 43 ∧ bM7 ln u' ∧ cX bRO (fun _ => False) u u') (fun mm Ls u' hI kk => ?_) (bs.length - i) _ u ⟨i, none, rfl, Nat.le_refl _, hi, rfl, hA, fun t ht => absurd ht (by simp), hmin0, hR, hbl, cX.rf⟩
  obtain ⟨j, o, rfl, j1, j2, rfl, hfold, ho, hmin, Ru, Lu, Fu⟩ := hI
  have Mu := hM.keepX Fu (by unfold bRO; omega)
  refine zb_Mason_reaches_28 hr (fun z3 => ?_) (fun z3 => ?_)
  · rw [Mu.1, zn_le (by omega) (by omega)] at z3
    have e : j = bs.length := by omega
    subst e
    rw [List.drop_length] at hfold
    have hfold' : o = A := hfold
    refine zb_Mason_reaches_156 ?_
    rw [he, ← hfold', b_hit_n (fun t ht hm => by have := ho t ht; omega)]
    exact ⟨_, rfl, ⟨rfl, Ru, Lu⟩, Fu⟩
  rw [Mu.1, zn_le (by omega) (by omega)] at z3
  have hj : j < bs.length := by omega
  have ed := l_dropc hj
  have hbj := hS.2.2.2.2 _ (l_getD_mem hj)
  rw [ed, b_rm_0] at hfold hmin
  obtain ⟨N', hNN⟩ : ∃ N', N = N' + 1 := ⟨N - 1, by
    have : (bs.drop i).length = bs.length - i := by simp
    omega⟩
  have hch := hch N' hNN
  have eN : N - 1 = N' := by omega
  rw [eN] at hfold hmin
  have epre : bs.drop i = (bs.drop i).take (j - i) ++ bs.getD j 0 :: bs.drop (j + 1) := by
    rw [← ed]
    have : bs.drop j = (bs.drop i).drop (j - i) := by rw [List.drop_drop]; congr 1; omega
    rw [this, List.take_append_drop]
  have hwb : v_w w (bs.getD j 0) = 0 := hw _ (by rw [epre]; simp)
  have hnd2 : ∀ b', b' ∈ bs.drop (j + 1) → b' ≠ bs.getD j 0 ∧ v_w w b' = 0 := by
    intro b' hb'
    constructor
    · have hN2 := hS.2.2.2.1.sublist (List.drop_sublist j bs)
      rw [ed, List.nodup_cons] at hN2
      intro e
      rw [e] at hb'
      exact hN2.1 hb'
    · exact hw b' (by rw [epre]; simp [hb'])
  refine zb_Mason_reaches_37 hr ?_
  refine zj_forM (fun mm Ls u' => ∃ c o, mm = s_c s - c ∧ c ≤ s_c s ∧ Ls = [some (.inr 26), some (.inr 43), some (.inr r), none, some (.inl (nI k)), some (.inl (nI (k + (m' + 1)))), some (.inl (nI j)), some (.inl (nI c))] ∧ (b_rm (s_c s) (bs.getD j 0) (bs.drop (j + 1)) c).foldl (fun o x => b_bet o (b_cd E s dy (v_p w) (b_bst E s dy h N') x)) o = A ∧ (∀ t, o = some t → m' + 1 < t.length) ∧ (∀ x, x ∈ b_rm (s_c s) (bs.getD j 0) (bs.drop (j + 1)) c → ∀ t, b_cd E s dy (v_p w) (b_bst E s dy h N') x = some t → m' + 1 ≤ t.length) ∧ cR s w u' 43 ∧ bM7 ln u' ∧ cX bRO (fun _ => False) u u') (fun mm Ls u' hI kk2 => ?_) (s_c s - 0) _ u' ⟨0, o, rfl, Nat.zero_le _, rfl, hfold, ho, hmin, Ru, Lu, Fu⟩
  clear Ru Lu Fu Mu hfold ho hmin
  obtain ⟨c, o, rfl, hc1, rfl, hfold, ho, hmin, Ru, Lu, Fu⟩ := hI
  have Mu := hM.keepX Fu (by unfold bRO; omega)
  have Eu := hE.keepX hr Fu (by unfold bRO; omega)
  refine zb_Mason_reaches_40 hr (fun z4 => ?_) (fun z4 => ?_)
  · rw [Ru.fc, zn_le (by omega) (by omega)] at z4
    have e : c = s_c s := by omega
    subst e
    rw [b_rm_n] at hfold hmin
    refine zb_Mason_reaches_150 hr ?_
    rw [nI_add]
    exact kk _ _ u' (show bs.length - (j + 1) < bs.length - j by omega) ⟨j + 1, o, rfl, by omega, by omega, rfl, by rw [eN]; exact hfold, ho, by rw [eN]; exact hmin, Ru, Lu, Fu⟩
  rw [Ru.fc, zn_le (by omega) (by omega)] at z4
  have hc : c < s_c s := by omega
  rw [b_rm_s hc, List.foldl_cons] at hfold
  rw [b_rm_s hc] at hmin
  have hmin2 : ∀ x, x ∈ b_rm (s_c s) (bs.getD j 0) (bs.drop (j + 1)) (c + 1) → ∀ t, b_cd E s dy (v_p w) (b_bst E s dy h N') x = some t → m' + 1 ≤ t.length := fun x hx => hmin x (List.mem_cons_of_mem _ hx)
  have next : ∀ u2, (∀ t, b_cd E s dy (v_p w) (b_bst E s dy h N') (bs.getD j 0, c, bs.drop (j + 1)) = some t → m' + 1 < t.length) → cR s w u2 43 → bM7 ln u2 → cX bRO (fun _ => False) u u2 → z_J Γ zm_Mason_reaches 144 [some (.inr 26), some (.inr 43), some (.inr r), none, some (.inl (nI k)), some (.inl (nI (k + (m' + 1)))), some (.inl (nI j)), some (.inl (nI c))] [] u2 := by
    intro u2 a1 a2 a3 a4
    refine zb_Mason_reaches_144 hr ?_
    rw [nI_add]
    refine kk2 _ _ u2 (show s_c s - (c + 1) < s_c s - c by omega) ⟨c + 1, _, rfl, by omega, rfl, hfold, fun t ht => ?_, hmin2, a2, a3, a4⟩
    rcases (b_bet_c o (b_cd E s dy (v_p w) (b_bst E s dy h N') (bs.getD j 0, c, bs.drop (j + 1)))).1 with q | q
    · rw [q] at ht; exact ho t ht
    · rw [q] at ht; exact a1 t ht
  have h36 : a_h s w c ≤ 36 := Ru.1.h36 hc
  refine zb_Mason_reaches_49 hr (cc_heightOf z_c43 Ru hc) (by omega) (fun x u2 hx => ?_)
  obtain ⟨rfl, rfl⟩ := hx
  refine zb_Mason_reaches_55 hr (fun z5 => ?_) (fun z5 => ?_)
  · rw [Mu.2.1, zn_le (by omega) (by omega)] at z5
    refine next u2 (fun t ht => ?_) Ru Lu Fu
    obtain ⟨t', e1, e2, e3, e4, e5⟩ := b_cd_ok ht
    have := hNS.high epre z5 e4 e5
    rw [e1, List.length_cons]
    omega
  have e28 : u2.1 28 j = nI (bs.getD j 0) := Mu.2.2.2.1 j hj
  refine zb_Mason_reaches_62 hr (k1 := j) (dc := 4) (P := fun z u => z = (a_lay E s w (nI (bs.getD j 0)) (nI c)).1 ∧ cR s (a_lay E s w (nI (bs.getD j 0)) (nI c)).2 u 43 ∧ z_fr (fun q => z_F37 43 q ∨ q = r + 2) u2 u) (z_ixn (by omega)) (by rw [e28]; exact cc_layOn z_c43 hr Ru Eu _ _) (by omega) (fun x u3 hx => ?_)
  rw [a_lay_nn hn hc6 hbj.1 hc, if_neg (fun q => q hwb), hy] at hx
  obtain ⟨rfl, R3, F3⟩ := hx
  have F3' : cX bRO (fun _ => False) u2 u3 := F3.cX (by rcases hr with e | e <;> (subst e; intro q; rcases q with q | q <;> (first | omega | (have q' : 43 + 3 ≤ 0 ∧ 0 ≤ 43 + 7 := q; omega)))) (fun q hq => by
    rcases hq with hq | hq
    · have hq' : 43 + 3 ≤ q ∧ q ≤ 43 + 7 := hq
      unfold bRO; omega
    · unfold bRO; rcases hr with e | e <;> omega)
  have Fu3 := Fu.tr F3'
  have L3 : bM7 ln u3 := by
    have e27 : u3.1 27 = u2.1 27 := (F3 27 (by rcases hr with e | e <;> (subst e; intro q; rcases q with q | q <;> (first | omega | (have q' : 43 + 3 ≤ 27 ∧ 27 ≤ 43 + 7 := q; omega))))).1
    unfold bM7
    rw [e27]
    exact Lu
  by_cases ha : b_al E s dy (v_p w) (bs.getD j 0) c = true
  rotate_left
  · have hno : ∀ t, b_cd E s dy (v_p w) (b_bst E s dy h N') (bs.getD j 0, c, bs.drop (j + 1)) = some t → m' + 1 < t.length := fun t ht => by
      obtain ⟨t', e1, e2, -⟩ := b_cd_ok ht
      exact absurd e2 ha
    by_cases q4 : (v_p w c).length = 4
    · rw [if_pos q4] at R3 ⊢
      refine zb_Mason_reaches_76 hr (fun z6 => absurd z6 zn_neg.2.2.1) (fun _ => zb_Mason_reaches_79 hr (next u3 hno R3 L3 Fu3))
    · have q5 : ¬ l_ho E s dy c (v_p w c ++ [bs.getD j 0]) = true := fun z => ha (by
        unfold b_al
        rw [decide_eq_true q4, z]
        rfl)
      rw [if_neg q4, if_neg q5] at R3 ⊢
      refine zb_Mason_reaches_76 hr (fun z6 => absurd z6 zn_neg.2.2.2) (fun _ => zb_Mason_reaches_79 hr (next u3 hno R3 L3 Fu3))
  have ha' := ha
  unfold b_al at ha'
  rw [Bool.and_eq_true, decide_eq_true_eq] at ha'
  rw [if_neg ha'.1, if_pos ha'.2] at R3 ⊢
  have hh9 := (hR.1.2.2.2.2.2.2.2.1 _ hbj.1).2.1
  have hlh : l_h (s_t s) (v_p w c ++ [bs.getD j 0]) ≤ 45 := by
    rw [l_h_app]
    have : l_h (s_t s) (v_p w c) ≤ 36 := h36
    omega
  refine zb_Mason_reaches_76 hr (fun _ => ?_) (fun z6 => absurd (by show (0 : Int32) ≤ nI _; rw [show (0 : Int32) = nI 0 from rfl, zn_le (by omega) (by omega)]; omega) z6)
  have M3 := hM.keepX Fu3 (by unfold bRO; omega)
  have e28' : u3.1 28 j = nI (bs.getD j 0) := M3.2.2.2.1 j hj
  obtain ⟨ρ, hρ⟩ : ∃ z, z = z_pI (z_pI u3 27 (2 * k) (nI (bs.getD j 0))) 27 (2 * k + 1) (nI c) := ⟨_, rfl⟩
  have Fρ : cX (fun q => q = 27) (fun _ => False) u3 ρ := by
    rw [hρ]
    exact cX.pR (cX.pR cX.rf rfl (by decide)) rfl (by decide)
  have Fρu : cX bRO (fun _ => False) u ρ := Fu3.tr (Fρ.mono (fun _ q => Or.inl q) (fun _ q => q))
  have hrec := hch (j + 1) (k + 1) m' (ln ++ [bs.getD j 0, c]) (a_put w (bs.getD j 0) c) ρ (R3.cX43 Fρ (by omega)) (hE.keepX hr Fρu (by unfold bRO; omega)) (hM.keepX Fρu (by unfold bRO; omega)) hy (by omega) (by
    have e1 : (bs.drop i).length = bs.length - i := by simp
    have e2 : (bs.drop (j + 1)).length = bs.length - (j + 1) := by simp
    omega) (fun b' hb' => by
      show a_up (v_w w) (bs.getD j 0) 1 b' = 0
      rw [a_up_n (hnd2 b' hb').1]
      exact (hnd2 b' hb').2) (hNS.child epre hc ha) (by simp [hln]; omega) (by omega) (by rw [hρ]; exact bM7.app L3 hln)
  refine zb_Mason_reaches_82 hr (k1 := j) (k2 := 2 * k) (k3 := 2 * k + 1) (dc := 4 + N) (P := fun x u => bPost s (a_put w (bs.getD j 0) c) (ln ++ [bs.getD j 0, c]) (b_hit (b_bst E s dy h N' (b_ly (v_p w) (bs.getD j 0) c) (bs.drop (j + 1))) m') x u ∧ cX bRO (fun _ => False) ρ u) (z_ixn (by omega)) ⟨pk_mul _ _, by omega⟩ ⟨by rw [pk_mul, nI_add], by omega⟩ (by rw [nI_add, nI_add, e28', ← hρ, show k + (m' + 1) = k + 1 + m' by omega]; exact hrec) (by omega) (fun x u4 hx => ?_)
  obtain ⟨p4, F4⟩ := hx
  have Fu4 := Fρu.tr F4
  cases hq : b_bst E s dy h N' (b_ly (v_p w) (bs.getD j 0) c) (bs.drop (j + 1)) with
  | none =>
    rw [hq] at p4
    obtain ⟨rfl, R4, L4⟩ := p4
    refine zb_Mason_reaches_127 hr (fun _ => ?_) (fun z7 => absurd rfl z7)
    have e28'' : u4.1 28 j = nI (bs.getD j 0) := (hM.keepX Fu4 (by unfold bRO; omega)).2.2.2.1 j hj
    refine zb_Mason_reaches_132 hr (k1 := j) (dc := 2) (P := cL s (a_put w (bs.getD j 0) c) 43 (bs.getD j 0) 0 u4) (z_ixn (by omega)) (by rw [e28'']; exact cc_lift z_c43 R4 hbj.1) (by omega) (fun u5 h5 => ?_)
    have R5 := h5.R R4 hbj.1 (Or.inl rfl)
    have hae := aE_lift_put hR.1 (c := c) hbj.1 (Or.inl hwb)
    rw [hwb] at hae
    refine next u5 (fun t ht => ?_) (R5.eqv hae) (fun i' hi' => ?_) (Fu4.tr (h5.fr.cX (by show ¬ (43 + 3 ≤ 0 ∧ _); omega) (fun q hq => by have hq' : 43 + 3 ≤ q ∧ q ≤ 43 + 7 := hq; unfold bRO; omega)))
    · obtain ⟨t', e1, e2, e3, -⟩ := b_cd_ok ht
      rw [hq] at e3
      exact absurd e3 (by simp)
    · rw [(h5.fr 27 (by show ¬ (43 + 3 ≤ 27 ∧ _); omega)).1]
      exact L4.pre i' hi'
  | some t' =>
    rw [hq] at p4
    obtain ⟨g1, g2⟩ := b_bst_ok _ _ _ _ hq
    have hge := hNS.child epre hc ha t' g1 g2
    by_cases hm' : t'.length = m'
    · have p4' : bPost s (a_put w (bs.getD j 0) c) (ln ++ [bs.getD j 0, c]) (if t'.length = m' then some t' else none) x u4 := p4
      rw [if_pos hm'] at p4'
      obtain ⟨rfl, ⟨w', R4, hw'⟩, L4⟩ := p4'
      refine zb_Mason_reaches_127 hr (fun z7 => absurd z7 (by decide)) (fun _ => ?_)
      refine zb_Mason_reaches_130 ?_
      have ecd : b_cd E s dy (v_p w) (b_bst E s dy h N') (bs.getD j 0, c, bs.drop (j + 1)) = some ((bs.getD j 0, c) :: t') := by
        unfold b_cd
        rw [if_pos ha, hq]
        rfl
      have ebet : b_bet o (some ((bs.getD j 0, c) :: t')) = some ((bs.getD j 0, c) :: t') := by
        cases o with
        | none => rfl
        | some t0 =>
          have := ho t0 rfl
          exact if_pos (by rw [List.length_cons]; omega)
      rw [ecd, ebet, b_F4 _ (fun x hx t ht => by have := hmin2 x hx t ht; rw [List.length_cons]; omega)] at hfold
      rw [he, ← hfold]
      refine ⟨_, rfl, ?_, Fu4⟩
      show bPost s w ln (if ((bs.getD j 0, c) :: t').length = m' + 1 then some ((bs.getD j 0, c) :: t') else none) _ u4
      rw [if_pos (by rw [List.length_cons, hm'])]
      refine ⟨rfl, ⟨w', R4, hw'⟩, ?_⟩
      have : ln ++ b_fa ((bs.getD j 0, c) :: t') = ln ++ [bs.getD j 0, c] ++ b_fa t' := by simp [b_fa]
      rw [this]
      exact L4
    · have p4' : bPost s (a_put w (bs.getD j 0) c) (ln ++ [bs.getD j 0, c]) (if t'.length = m' then some t' else none) x u4 := p4
      rw [if_neg hm'] at p4'
      obtain ⟨rfl, R4, L4⟩ := p4'
      refine zb_Mason_reaches_127 hr (fun _ => ?_) (fun z7 => absurd rfl z7)
      have e28'' : u4.1 28 j = nI (bs.getD j 0) := (hM.keepX Fu4 (by unfold bRO; omega)).2.2.2.1 j hj
      refine zb_Mason_reaches_132 hr (k1 := j) (dc := 2) (P := cL s (a_put w (bs.getD j 0) c) 43 (bs.getD j 0) 0 u4) (z_ixn (by omega)) (by rw [e28'']; exact cc_lift z_c43 R4 hbj.1) (by omega) (fun u5 h5 => ?_)
      have R5 := h5.R R4 hbj.1 (Or.inl rfl)
      have hae := aE_lift_put hR.1 (c := c) hbj.1 (Or.inl hwb)
      rw [hwb] at hae
      refine next u5 (fun t ht => ?_) (R5.eqv hae) (fun i' hi' => ?_) (Fu4.tr (h5.fr.cX (by show ¬ (43 + 3 ≤ 0 ∧ _); omega) (fun q hq => by have hq' : 43 + 3 ≤ q ∧ q ≤ 43 + 7 := hq; unfold bRO; omega)))
      · obtain ⟨t2, e1, e2, e3, -⟩ := b_cd_ok ht
        rw [hq] at e3
        simp only [Option.some.injEq] at e3
        rw [e1, ← e3, List.length_cons]
        omega
      · rw [(h5.fr 27 (by show ¬ (43 + 3 ≤ 27 ∧ _); omega)).1]
        exact L4.pre i' hi'
theorem cr_N (hr : z_oR r) (hS : bSt s tk bs) (h99 : h ≤ 99) : ∀ N, crC E s dy h tk bs r (5 + N) N
  | 0 => cr_1 hr hS h99 0 (fun n e => absurd e (by omega))
  | N + 1 => cr_1 hr hS h99 (N + 1) (fun n e => by
    obtain rfl : N = n := by omega
    rw [show 4 + (N + 1) = 5 + N by omega]
    exact cr_N hr hS h99 N)
end
