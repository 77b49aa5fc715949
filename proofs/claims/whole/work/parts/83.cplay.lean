/-! the program: playing by turns -/
def p_b1 (o : Option (Nat × Nat)) : Nat := match o with
  | none => 100
  | some q => q.1
def p_k (o : Option (Nat × Nat)) : Int32 := match o with
  | none => nI 0
  | some _ => nI 1
/-- what an enemy's turn with a bound may answer -/
def pLo (en : Option Nat) (v y : Nat) : Prop := (∀ e, en = some e → v ≤ e → y ≤ e) ∧ ((∀ e, en = some e → e < v) → y = v)
def pHi (en v y : Nat) : Prop := (v < en → y = v) ∧ (en ≤ v → en ≤ y)
theorem p_en_s (g : aV → Nat) (w : aV) {c : Nat} (q : ¬ (v_p w c).length = 0) : p_b1 (p_en g w (c + 1)) = (if g (a_lift w (a_top w c) 3) < p_b1 (p_en g w c) ∨ p_en g w c = none then g (a_lift w (a_top w c) 3) else p_b1 (p_en g w c)) ∧ p_t (p_en g w (c + 1)) = (if g (a_lift w (a_top w c) 3) < p_b1 (p_en g w c) ∨ p_en g w c = none then nI c else p_t (p_en g w c)) ∧ p_k (p_en g w (c + 1)) = nI 1 := by
  rw [p_en, if_neg q]
  cases ho : p_en g w c with
  | none => exact ⟨by rw [if_pos (Or.inr rfl)]; rfl, by rw [if_pos (Or.inr rfl)]; rfl, rfl⟩
  | some o =>
    show p_b1 (if g (a_lift w (a_top w c) 3) < o.1 then some (g (a_lift w (a_top w c) 3), c) else some o) = _ ∧ p_t (if g (a_lift w (a_top w c) 3) < o.1 then some (g (a_lift w (a_top w c) 3), c) else some o) = _ ∧ p_k (if g (a_lift w (a_top w c) 3) < o.1 then some (g (a_lift w (a_top w c) 3), c) else some o) = _
    by_cases z : g (a_lift w (a_top w c) 3) < o.1
    · have z' : g (a_lift w (a_top w c) 3) < p_b1 (some o) ∨ some o = none := Or.inl z
      rw [if_pos z, if_pos z', if_pos z']
      exact ⟨rfl, rfl, rfl⟩
    · have z' : ¬ (g (a_lift w (a_top w c) 3) < p_b1 (some o) ∨ some o = none) := by
        rintro (a | a)
        · exact z a
        · exact absurd a (by simp)
      rw [if_neg z, if_neg z', if_neg z']
      exact ⟨rfl, rfl, rfl⟩
theorem p_en_mono {g : aV → Nat} {w : aV} {c : Nat} {q : Nat × Nat} (h : p_en g w c = some q) : ∀ d, ∃ q', p_en g w (c + d) = some q' ∧ q'.1 ≤ q.1
  | 0 => ⟨q, h, Nat.le_refl _⟩
  | d + 1 => by
    obtain ⟨q', e1, e2⟩ := p_en_mono h d
    rw [← Nat.add_assoc, p_en]
    split
    · exact ⟨q', e1, e2⟩
    · rw [e1]
      show ∃ q'', (if g (a_lift w (a_top w (c + d)) 3) < q'.1 then some (g (a_lift w (a_top w (c + d)) 3), c + d) else some q') = some q'' ∧ q''.1 ≤ q.1
      split
      · exact ⟨_, rfl, by show g _ ≤ q.1; omega⟩
      · exact ⟨q', rfl, e2⟩
section
variable {E : (Nat → Int32) → Int32} {s : aS} {r : Nat}
theorem p_b1_100 {g : aV → Nat} (hg : ∀ w, g w ≤ 99) (w : aV) (c : Nat) : p_b1 (p_en g w c) ≤ 100 := by
  cases ho : p_en g w c with
  | none => exact Nat.le_refl _
  | some q => have := (p_en_99 hg c q ho).1; show q.1 ≤ 100; omega
theorem p_cc_mono {g : aV → Nat} {w : aV} {b a c : Nat} : ∀ d, p_cc E s g w b a c ≤ p_cc E s g w b a (c + d)
  | 0 => Nat.le_refl _
  | d + 1 => by
    have h : p_cc E s g w b a c ≤ p_cc E s g w b a (c + d) := p_cc_mono d
    rw [← Nat.add_assoc, p_cc]
    split <;> omega
theorem p_ci_mono {g : aV → Nat} {w : aV} {a b : Nat} : ∀ d, p_ci E s g w a b ≤ p_ci E s g w a (b + d)
  | 0 => Nat.le_refl _
  | d + 1 => by
    have h1 : p_ci E s g w a b ≤ p_ci E s g w a (b + d) := p_ci_mono d
    have h2 := p_cc_mono (E := E) (s := s) (g := g) (w := w) (b := b + d) (a := p_ci E s g w a (b + d)) (c := 0) (s_c s)
    rw [Nat.zero_add] at h2
    rw [← Nat.add_assoc, p_ci]
    exact Nat.le_trans h1 h2
theorem p_cc_no {g : aV → Nat} {w : aV} {b a : Nat} (h : v_w w b ≠ 0) : ∀ c, p_cc E s g w b a c = a
  | 0 => rfl
  | c + 1 => by
    rw [p_cc, if_neg (by unfold p_ok; simp [h]), p_cc_no h c]
theorem l_er_last {l : List Nat} (hN : l.Nodup) (h : ¬ l.length = 0) : l.erase (l.getD (l.length - 1) 0) ++ [l.getD (l.length - 1) 0] = l := by
  rcases List.eq_nil_or_concat l with e | ⟨m, x, e⟩
  · subst e
    exact absurd rfl h
  · rw [List.concat_eq_append] at e
    subst e
    have e1 : (m ++ [x]).getD ((m ++ [x]).length - 1) 0 = x := by
      simp only [List.getD_eq_getElem?_getD, List.length_append, List.length_singleton, Nat.add_sub_cancel]
      rw [List.getElem?_append_right (Nat.le_refl _)]
      simp
    rw [e1]
    have hx : x ∉ m := by
      intro hx
      rw [List.nodup_append] at hN
      exact hN.2.2 x hx x (by simp) rfl
    rw [List.erase_append_right _ hx]
    simp
/-- the book shot is laid back -/
theorem aE_put_lift {w : aV} (hI : aI s w) {c : Nat} (hc : c < s_c s) (h : ¬ (v_p w c).length = 0) : aE s (a_put (a_lift w (a_top w c) 3) (a_top w c) c) w := by
  have hmem : a_top w c ∈ v_p w c := l_getD_mem (by omega)
  have hm := (hI.mm hc _).mp hmem
  have hN := hI.nd hc
  refine ⟨fun b => ?_, fun b hb hq => ?_, fun _ _ _ => rfl, fun c' hc' => ?_, rfl, rfl⟩
  · show a_up (a_up (v_w w) (a_top w c) 3) (a_top w c) 1 b = v_w w b
    by_cases e : b = a_top w c
    · rw [e, a_up_s, hm.2.1]
    · rw [a_up_n e, a_up_n e]
  · show a_up (v_h w) (a_top w c) c b = v_h w b
    by_cases e : b = a_top w c
    · rw [e, a_up_s, hm.2.2]
    · rw [a_up_n e]
  · show a_upl (fun c' => (v_p w c').erase (a_top w c)) c ((v_p w c).erase (a_top w c) ++ [a_top w c]) c' = v_p w c'
    unfold a_upl
    by_cases e : c' = c
    · rw [if_pos e, e]
      exact l_er_last hN h
    · rw [if_neg e]
      exact List.erase_of_not_mem (fun z => e (by rw [← ((hI.mm hc' _).mp z).2.2, hm.2.2]))
theorem a_lh_hi {w : aV} {b c : Nat} (h : a_lh s w < a_h s w c) : a_lh s (a_put w b c) ≤ a_lh s w := by
  rcases Nat.lt_or_ge (a_lh s w) (a_lh s (a_put w b c)) with q | q
  · exfalso
    have h99 : a_lh s (a_put w b c) ≤ 99 := a_lhi_le _ _ _
    have h1 := (b_lhi_ge (s := s) (v := a_put w b c) h99 (s_c s)).mp (Nat.le_refl _)
    have h2 := (b_lhi_ge (s := s) (v := w) (h := a_lh s w + 1) (by omega) (s_c s)).mpr (fun c' hc' => by
      by_cases e : c' = c
      · rw [e]; exact h
      · have h3 := h1 c' hc'
        have h4 : a_h s (a_put w b c) c' = a_h s w c' := by
          show l_h (s_t s) (a_upl (v_p w) c _ c') = l_h (s_t s) (v_p w c')
          unfold a_upl
          rw [if_neg e]
        omega)
    have h2' : a_lh s w + 1 ≤ a_lh s w := h2
    omega
  · exact q
def dE (E : (Nat → Int32) → Int32) (s : aS) (r n : Nat) : Prop := ∀ w τ (en : Option Nat), cR s w τ 43 → rR E τ r → (∀ e, en = some e → e ≤ 99) → z_Ci (5 + n) zm_Duel_afterEnemy [.inr 30, .inr 43, .inr r, .inl (nI n), .inl (w_I en)] τ (fun x u => (∃ y, x = nI y ∧ y ≤ 100 ∧ pLo en (p_v E s n true w) y) ∧ cR s w u 43 ∧ cX c_tO (fun _ => False) τ u)
def dC (E : (Nat → Int32) → Int32) (s : aS) (r n : Nat) : Prop := ∀ w τ en, cR s w τ 43 → rR E τ r → en ≤ 100 → z_Ci (5 + n) zm_Duel_afterCity [.inr 30, .inr 43, .inr r, .inl (nI n), .inl (nI en)] τ (fun x u => (∃ y, x = nI y ∧ y ≤ 100 ∧ pHi en (p_v E s n false w) y) ∧ cR s w u 43 ∧ cX c_tO (fun _ => False) τ u)
theorem d_fr37 {σ u : zS} (h : z_fr (z_F37 43) σ u) : cX c_tO (fun _ => False) σ u := h.cX (by show ¬ (43 + 3 ≤ 0 ∧ _); omega) (fun q hq => by have hq' : 43 + 3 ≤ q ∧ q ≤ 43 + 7 := hq; unfold c_tO; omega)
theorem d_frL (hr : z_oR r) {σ u : zS} (F3 : z_fr (fun q => z_F37 43 q ∨ q = r + 2) σ u) : cX c_tO (fun _ => False) σ u := F3.cX (by rcases hr with e | e <;> (subst e; intro q; rcases q with q | q <;> (first | omega | (have q' : 43 + 3 ≤ 0 ∧ 0 ≤ 43 + 7 := q; omega)))) (fun q hq => by
    rcases hq with hq | hq
    · have hq' : 43 + 3 ≤ q ∧ q ≤ 43 + 7 := hq
      unfold c_tO; omega
    · unfold c_tO; rcases hr with e | e <;> omega)
theorem d_keep {E : (Nat → Int32) → Int32} (hr : z_oR r) {σ u : zS} (h : rR E σ r) (hF : cX c_tO (fun _ => False) σ u) : rR E u r := h.keepX hr hF (by unfold c_tO; omega)
/-- a column's top is shot, the city's turn is asked, the book is laid back -/
theorem d_E0 (hr : z_oR r) {w : aV} {τ : zS} (en : Option Nat) (hR : cR s w τ 43) : z_Ci 5 zm_Duel_afterEnemy [.inr 30, .inr 43, .inr r, .inl (nI 0), .inl (w_I en)] τ (fun x u => (∃ y, x = nI y ∧ y ≤ 100 ∧ pLo en (p_v E s 0 true w) y) ∧ cR s w u 43 ∧ cX c_tO (fun _ => False) τ u) := by
  refine z_Ci_of (by decide) (Nat.le_of_ble_eq_true rfl) (fun Γ hd he => ?_)
  show z_J Γ zm_Duel_afterEnemy 0 [some (.inr 30), some (.inr 43), some (.inr r), some (.inl (nI 0)), some (.inl (w_I en)), none, none, none, none] [] τ
  refine zb_Duel_afterEnemy_0 hr (fun z => absurd rfl z) (fun _ => ?_)
  refine zb_Duel_afterEnemy_4 (cc_leastHeight z_c43 hR) (by omega) (fun x u hx => ?_)
  obtain ⟨rfl, rfl⟩ := hx
  refine zb_Duel_afterEnemy_8 ?_
  rw [he]
  have h99 : a_lh s w ≤ 99 := a_lhi_le _ _ _
  exact ⟨_, rfl, ⟨a_lh s w, rfl, by omega, fun e _ h => h, fun _ => rfl⟩, hR, cX.rf⟩
theorem d_C0 (hr : z_oR r) {w : aV} {τ : zS} (en : Nat) (hR : cR s w τ 43) : z_Ci 5 zm_Duel_afterCity [.inr 30, .inr 43, .inr r, .inl (nI 0), .inl (nI en)] τ (fun x u => (∃ y, x = nI y ∧ y ≤ 100 ∧ pHi en (p_v E s 0 false w) y) ∧ cR s w u 43 ∧ cX c_tO (fun _ => False) τ u) := by
  refine z_Ci_of (by decide) (Nat.le_of_ble_eq_true rfl) (fun Γ hd he => ?_)
  show z_J Γ zm_Duel_afterCity 0 [some (.inr 30), some (.inr 43), some (.inr r), some (.inl (nI 0)), some (.inl (nI en)), none, none, none, none] [] τ
  refine zb_Duel_afterCity_0 hr (fun z => absurd rfl z) (fun _ => ?_)
  refine zb_Duel_afterCity_4 (cc_leastHeight z_c43 hR) (by omega) (fun x u hx => ?_)
  obtain ⟨rfl, rfl⟩ := hx
  refine zb_Duel_afterCity_8 ?_
  rw [he]
  have h99 : a_lh s w ≤ 99 := a_lhi_le _ _ _
  exact ⟨_, rfl, ⟨a_lh s w, rfl, by omega, fun _ => rfl, fun h => h⟩, hR, cX.rf⟩
theorem d_E1 (hr : z_oR r) {n : Nat} (hn4 : n < 4) (hch : dC E s r n) : dE E s r (n + 1) := by
  intro w τ en hR hE hen
  have h6 := hR.c6
  have hn := hR.n
  have hg99 := p_v_99 (E := E) (s := s) n false
  have hv99 := p_v_99 (E := E) (s := s) (n + 1) true w
  refine z_Ci_of (by decide) (Nat.le_of_ble_eq_true rfl) (fun Γ hd he => ?_)
  show z_J Γ zm_Duel_afterEnemy 0 [some (.inr 30), some (.inr 43), some (.inr r), some (.inl (nI (n + 1))), some (.inl (w_I en)), none, none, none, none] [] τ
  refine zb_Duel_afterEnemy_0 hr (fun _ => ?_) (fun z => absurd z (by rw [show (0 : Int32) = nI 0 from rfl, zn_eq (by omega) (by omega)]; omega))
  refine zb_Duel_afterEnemy_9 hr ?_
  have last : ∀ c u, c ≤ s_c s → (c = s_c s ∨ ∃ e, en = some e ∧ p_b1 (p_en (p_v E s n false) w c) ≤ e) → cR s w u 43 → cX c_tO (fun _ => False) τ u → z_J Γ zm_Duel_afterEnemy 94 [some (.inr 30), some (.inr 43), some (.inr r), some (.inl (nI (n + 1))), none, some (.inl (nI (p_b1 (p_en (p_v E s n false) w c)))), some (.inl (p_k (p_en (p_v E s n false) w c))), none, none] [] u := by
    intro c u hc hend Ru Fu
    cases ho : p_en (p_v E s n false) w c with
    | none =>
      have ec : c = s_c s := by
        rcases hend with q | ⟨e, q1, q2⟩
        · exact q
        · rw [ho] at q2
          have := hen e q1
          have q2' : 100 ≤ e := q2
          omega
      rw [ec] at ho
      have ev : p_v E s (n + 1) true w = p_v E s n false w := by rw [p_v, ho]
      refine zb_Duel_afterEnemy_94 hr (fun _ => ?_) (fun z => absurd rfl z)
      refine zb_Duel_afterEnemy_104 hr (dc := 5 + n) (P := fun x u' => (∃ y, x = nI y ∧ y ≤ 100 ∧ pHi 100 (p_v E s n false w) y) ∧ cR s w u' 43 ∧ cX c_tO (fun _ => False) u u') (by rw [zn_pred (by omega), Nat.add_sub_cancel]; exact hch w u 100 Ru (d_keep hr hE Fu) (by omega)) (by omega) (fun x u2 hx => ?_)
      obtain ⟨⟨y, rfl, y1, y2⟩, R2, F2⟩ := hx
      refine zb_Duel_afterEnemy_115 ?_
      rw [he, ev]
      have := hg99 w
      have ey := y2.1 (by omega)
      exact ⟨_, rfl, ⟨y, rfl, y1, fun e _ h => by omega, fun _ => ey⟩, R2, Fu.tr F2⟩
    | some q =>
      refine zb_Duel_afterEnemy_94 hr (fun z => absurd (show nI 1 = 0 from z) (by decide)) (fun _ => ?_)
      refine zb_Duel_afterEnemy_99 (zb_Duel_afterEnemy_115 ?_)
      have hq := (p_en_99 hg99 c q ho).1
      obtain ⟨d, hd2⟩ : ∃ d, s_c s = c + d := ⟨s_c s - c, by omega⟩
      obtain ⟨q', e1, e2⟩ := p_en_mono ho d
      have ev : p_v E s (n + 1) true w = q'.1 := by rw [p_v, hd2, e1]
      rw [he, ev]
      refine ⟨_, rfl, ⟨q.1, rfl, by omega, ?_⟩, Ru, Fu⟩
      rcases hend with z | ⟨e, z1, z2⟩
      · have d0 : d = 0 := by omega
        subst d0
        rw [Nat.add_zero, ho] at e1
        simp only [Option.some.injEq] at e1
        subst e1
        exact ⟨fun e _ h => h, fun _ => rfl⟩
      · rw [ho] at z2
        have z2' : q.1 ≤ e := z2
        refine ⟨fun e' he' h => ?_, fun h => ?_⟩
        · rw [z1] at he'
          simp only [Option.some.injEq] at he'
          omega
        · have := h e z1
          omega
  refine zj_forS (b := s_c s) (fun c => [some (.inr 30), some (.inr 43), some (.inr r), some (.inl (nI (n + 1))), some (.inl (w_I en)), some (.inl (nI (p_b1 (p_en (p_v E s n false) w c)))), some (.inl (p_k (p_en (p_v E s n false) w c))), some (.inl (nI c)), none])
    (fun _ u => cR s w u 43 ∧ cX c_tO (fun _ => False) τ u) (fun c u hc hI kk => ?_) (fun u hI => ?_) 0 (Nat.zero_le _) _ ⟨hR, cX.rf⟩
  · obtain ⟨Ru, Fu⟩ := hI
    have hb100 := p_b1_100 hg99 w c
    refine zb_Duel_afterEnemy_19 hr (fun z => ?_) (fun _ => ?_)
    · rw [Ru.fc] at z
      exact absurd z (nI_ge hc (by omega))
    refine zb_Duel_afterEnemy_28 hr (fun z => ?_) (fun _ => ?_)
    · refine last c u (by omega) (Or.inr ?_) Ru Fu
      cases en with
      | none =>
        have z' : nI (p_b1 (p_en (p_v E s n false) w c)) ≤ -1 := z
        exfalso
        have h1 : (-1 : Int32) < nI 0 := by decide
        have h2 := (zn_le (a := 0) (b := p_b1 (p_en (p_v E s n false) w c)) (by omega) (by omega)).mpr (Nat.zero_le _)
        exact Int32.lt_irrefl (Int32.lt_of_le_of_lt z' (Int32.lt_of_lt_of_le h1 h2))
      | some e =>
        have z' : nI (p_b1 (p_en (p_v E s n false) w c)) ≤ nI e := z
        have := hen e rfl
        rw [zn_le (by omega) (by omega)] at z'
        exact ⟨e, rfl, z'⟩
    refine zb_Duel_afterEnemy_35 hr (lc_topOf z_c43 (Ru.cC hc)) (by omega) (fun x u2 hx => ?_)
    obtain ⟨rfl, rfl⟩ := hx
    by_cases q : (v_p w c).length = 0
    · rw [if_pos q]
      refine zb_Duel_afterEnemy_41 hr (fun z => absurd rfl z) (fun _ => ?_)
      refine zb_Duel_afterEnemy_49 hr (zb_Duel_afterEnemy_88 hr ?_)
      rw [nI_add]
      rw [p_en, if_pos q] at kk
      exact kk u2 ⟨Ru, Fu⟩
    rw [if_neg q]
    have hmem : a_top w c ∈ v_p w c := l_getD_mem (by omega)
    have hm := (hR.1.mm hc _).mp hmem
    rw [show (v_p w c).getD ((v_p w c).length - 1) 0 = a_top w c from rfl]
    refine zb_Duel_afterEnemy_41 hr (fun _ => ?_) (fun z => absurd z (zn_neg1 (by omega)))
    refine zb_Duel_afterEnemy_52 hr (cc_lift z_c43 Ru (t := 3) hm.1) (by omega) (fun u3 hL => ?_)
    have R3 := hL.R Ru hm.1 (Or.inr rfl)
    have Fu3 := Fu.tr (d_fr37 hL.fr)
    refine zb_Duel_afterEnemy_62 hr (dc := 5 + n) (P := fun x u' => (∃ y, x = nI y ∧ y ≤ 100 ∧ pHi (p_b1 (p_en (p_v E s n false) w c)) (p_v E s n false (a_lift w (a_top w c) 3)) y) ∧ cR s (a_lift w (a_top w c) 3) u' 43 ∧ cX c_tO (fun _ => False) u3 u') (by rw [zn_pred (by omega), Nat.add_sub_cancel]; exact hch _ u3 _ R3 (d_keep hr hE Fu3) hb100) (by omega) (fun x u4 hx => ?_)
    obtain ⟨⟨y, rfl, y1, y2⟩, R4, F4⟩ := hx
    have hw3 : v_w (a_lift w (a_top w c) 3) (a_top w c) = 3 := a_up_s _ _ _
    have hl4 := hR.1.l4 hc
    have hlt : (v_p (a_lift w (a_top w c) 3) c).length < 4 := by
      show ((v_p w c).erase (a_top w c)).length < 4
      rw [List.length_erase_of_mem hmem]
      omega
    refine zb_Duel_afterEnemy_75 hr (cc_put z_c43 R4 hm.1 (Or.inr hw3) hc hlt) (by omega) (fun u5 h5 => ?_)
    obtain ⟨R5, F5⟩ := h5
    refine zb_Duel_afterEnemy_88 hr ?_
    rw [zn_min (by omega) (by omega), nI_add]
    obtain ⟨s1, -, s3⟩ := p_en_s (p_v E s n false) w q
    rw [s1, s3] at kk
    have hgv := hg99 (a_lift w (a_top w c) 3)
    have em : (if y < p_b1 (p_en (p_v E s n false) w c) then y else p_b1 (p_en (p_v E s n false) w c)) = (if p_v E s n false (a_lift w (a_top w c) 3) < p_b1 (p_en (p_v E s n false) w c) ∨ p_en (p_v E s n false) w c = none then p_v E s n false (a_lift w (a_top w c) 3) else p_b1 (p_en (p_v E s n false) w c)) := by
      by_cases z : p_v E s n false (a_lift w (a_top w c) 3) < p_b1 (p_en (p_v E s n false) w c)
      · have ey := y2.1 z
        rw [if_pos (Or.inl z), ey, if_pos z]
      · have ey := y2.2 (by omega)
        have hno : ¬ p_en (p_v E s n false) w c = none := fun q => by
          rw [q] at z
          have z' : ¬ p_v E s n false (a_lift w (a_top w c) 3) < 100 := z
          omega
        rw [if_neg (by omega), if_neg (fun q => q.elim z hno)]
    rw [em]
    exact kk u5 ⟨R5.eqv (aE_put_lift hR.1 hc q), Fu3.tr (F4.tr (d_fr37 F5))⟩
  · obtain ⟨Ru, Fu⟩ := hI
    refine zb_Duel_afterEnemy_19 hr (fun _ => ?_) (fun z => absurd (by rw [Ru.fc]; exact Int32.le_refl _) z)
    exact last (s_c s) u (Nat.le_refl _) (Or.inl rfl) Ru Fu
end
