/-! the program: build, calls, tallest -/
def bFp (E : (Nat → Int32) → Int32) (s : aS) (v : aV) (fr h : Nat) (x : Int32) (u : zS) : Prop := ((b_S s v fr).length ≤ 6 → (b_bst E s (v_y v) h 6 (v_p v) (b_S s v fr) = none → x = -2) ∧ ∀ t, b_bst E s (v_y v) h 6 (v_p v) (b_S s v fr) = some t → x = nI t.length ∧ (∃ w', cR s w' u 43 ∧ v_p w' = b_fl (v_p v) t) ∧ bM7 (b_fa t) u) ∧ (¬ (b_S s v fr).length ≤ 6 → x = -3)
section
variable {E : (Nat → Int32) → Int32} {s : aS} {v : aV} {σ u : zS} {r : Nat}
theorem cc_fewest (hr : z_oR r) (hR : cR s v σ 43) (hE : rR E σ r) {fr h : Nat} (hfr : fr = 0 ∨ fr = 2) (h99 : h ≤ 99) : z_Ci 12 zm_Mason_fewest [.inr 26, .inr 43, .inr r, .inl (nI fr), .inl (nI h)] σ (fun x u => bFp E s v fr h x u ∧ cX bMO (fun _ => False) σ u) := by
  have hn := hR.n
  have hS := b_S_bc (s := s) (v := v) (w := fr) hn
  have hle := n_bc_le (a_bw v fr (s_n s))
  refine z_Ci_of (by decide) (Nat.le_of_ble_eq_true rfl) (fun Γ hd he => ?_)
  show z_J Γ zm_Mason_fewest 0 [some (.inr 26), some (.inr 43), some (.inr r), some (.inl (nI fr)), some (.inl (nI h)), none] [] σ
  refine zb_Mason_fewest_0 hr (cc_bitsWhere z_c43 hR (by omega)) (by omega) (fun x u hx => ?_)
  obtain ⟨rfl, rfl⟩ := hx
  refine zb_Mason_fewest_5 hr (by omega) (fun z => ?_) (fun z => ?_)
  rotate_left
  · rw [zn_bc _ (a_bw_12 hn), zn_le (by unfold n_bc at hle; omega) (by omega)] at z
    have z' : ¬ (b_S s v fr).length ≤ 6 := by rw [← hS]; exact z
    refine zb_Mason_fewest_13 ?_
    rw [he]
    exact ⟨_, rfl, ⟨fun q => absurd q z', fun _ => rfl⟩, cX.rf⟩
  rw [zn_bc _ (a_bw_12 hn), zn_le (by unfold n_bc at hle; omega) (by omega)] at z
  have hl : (b_S s v fr).length ≤ 6 := by rw [← hS]; exact z
  have F0 : cX bMO (fun _ => False) u (z_pI u 26 3 (nI h)) := cX.pR cX.rf (by unfold bMO; omega) (by decide)
  have R0 : cR s v (z_pI u 26 3 (nI h)) 43 := hR.cX43 (R := fun q => q = 26) (K := fun _ => False) (cX.pR cX.rf rfl (by decide)) (by omega)
  refine zb_Mason_fewest_16 hr (cc_stockUp R0 hfr hl (z_pI_at _ _ _ _)) (by omega) (fun u1 h1 => ?_)
  obtain ⟨tk, w, hSt, M1, R1, hw0, hp, hy, F1⟩ := h1
  have F01 := F0.tr F1
  have E1 : rR E u1 r := hE.keepX hr F01 (by unfold bMO; omega)
  refine zb_Mason_fewest_28 hr ?_
  refine zj_forM (fun mm Ls u' => ∃ n, mm = (b_S s v fr).length + 1 - n ∧ n ≤ (b_S s v fr).length + 1 ∧ Ls = [some (.inr 26), some (.inr 43), some (.inr r), none, none, some (.inl (nI n))] ∧ b_NS E s (v_y v) h (v_p v) (b_S s v fr) n ∧ cR s w u' 43 ∧ cX bRO (fun _ => False) u1 u') (fun mm Ls u' hI kk => ?_) ((b_S s v fr).length + 1) _ u1 ⟨0, rfl, Nat.zero_le _, rfl, fun _ _ _ => Nat.zero_le _, R1, cX.rf⟩
  obtain ⟨n, rfl, hn1, rfl, hNS, Ru, Fu⟩ := hI
  have Mu := M1.keepX Fu (by unfold bRO; omega)
  have Eu := E1.keepX hr Fu (by unfold bRO; omega)
  have FF : cX bMO (fun _ => False) u u' := F01.tr (Fu.mono (by unfold bRO bMO; omega) (fun _ q => q))
  refine zb_Mason_fewest_31 hr (fun z2 => ?_) (fun z2 => ?_)
  · rw [Mu.1, zn_lt (by omega) (by omega)] at z2
    refine zb_Mason_fewest_62 ?_
    rw [he]
    have hno : ∀ t, b_bst E s (v_y v) h 6 (v_p v) (b_S s v fr) ≠ some t := fun t ht => by
      obtain ⟨g1, g2⟩ := b_bst_ok _ _ _ _ ht
      have g3 := hNS t g1 g2
      have g4 := (b_va_sub _ _ _ g1).length_le
      rw [List.length_map] at g4
      omega
    exact ⟨_, rfl, ⟨fun _ => ⟨fun _ => rfl, fun t ht => absurd ht (hno t)⟩, fun q => absurd hl q⟩, FF⟩
  rw [Mu.1, zn_lt (by omega) (by omega)] at z2
  have hrc := cr_N (E := E) (dy := v_y v) hr hSt h99 6 0 0 n [] w u' Ru Eu Mu hy (Nat.zero_le _) (by rw [List.drop_zero]; exact hl) (by rw [List.drop_zero]; exact hw0) (by rw [List.drop_zero, hp]; exact hNS) rfl (by omega) (fun i hi => absurd hi (by simp))
  rw [List.drop_zero, hp, Nat.zero_add] at hrc
  refine zb_Mason_fewest_40 hr hrc (by omega) (fun x u2 hx => ?_)
  obtain ⟨p2, F2⟩ := hx
  have FF2 : cX bMO (fun _ => False) u u2 := FF.tr (F2.mono (by unfold bRO bMO; omega) (fun _ q => q))
  have miss : b_hit (b_bst E s (v_y v) h 6 (v_p v) (b_S s v fr)) n = none → z_J Γ zm_Mason_fewest 50 [some (.inr 26), some (.inr 43), some (.inr r), none, none, some (.inl (nI n))] [.inl x] u2 := by
    intro hh
    rw [hh] at p2
    obtain ⟨rfl, R2, -⟩ := p2
    refine zb_Mason_fewest_50 hr (fun _ => ?_) (fun z3 => absurd rfl z3)
    refine zb_Mason_fewest_56 hr ?_
    rw [nI_add]
    refine kk _ _ u2 (show (b_S s v fr).length + 1 - (n + 1) < (b_S s v fr).length + 1 - n by omega) ⟨n + 1, rfl, by omega, rfl, fun t hv hg => ?_, R2, Fu.tr F2⟩
    have h1 := hNS t hv hg
    rcases Nat.lt_or_eq_of_le h1 with q | q
    · exact q
    · exfalso
      obtain ⟨t0, e1, e2⟩ := b_bst_min 6 _ _ t hl hv hg
      obtain ⟨g1, g2⟩ := b_bst_ok _ _ _ _ e1
      have g3 := hNS t0 g1 g2
      rw [e1] at hh
      have hh' : (if t0.length = n then some t0 else none) = none := hh
      rw [if_pos (by omega)] at hh'
      exact absurd hh' (by simp)
  cases hq : b_bst E s (v_y v) h 6 (v_p v) (b_S s v fr) with
  | none => exact miss (by rw [hq]; rfl)
  | some t =>
    by_cases e : t.length = n
    · rw [hq] at p2
      have p2' : bPost s w [] (if t.length = n then some t else none) x u2 := p2
      rw [if_pos e] at p2'
      obtain ⟨rfl, ⟨w', R2, hw'⟩, L2⟩ := p2'
      refine zb_Mason_fewest_50 hr (fun z3 => absurd z3 (by decide)) (fun _ => ?_)
      refine zb_Mason_fewest_53 ?_
      rw [he]
      refine ⟨_, rfl, ⟨fun _ => ⟨fun z4 => ?_, fun t' ht' => ?_⟩, fun q => absurd hl q⟩, FF2⟩
      · rw [hq] at z4; exact absurd z4 (by simp)
      · rw [hq] at ht'
        simp only [Option.some.injEq] at ht'
        subst ht'
        exact ⟨by rw [e], ⟨w', R2, by rw [hw', hp]⟩, L2⟩
    · exact miss (by rw [hq]; exact if_neg e)
/-- the greatest height that can be come to -/
theorem b_mx_ge {dy : Nat} : ∀ (n : Nat) (P : bP) (bs : List Nat) (a : Nat), a ≤ b_mx E s dy n P bs a
  | 0, P, bs, a => by rw [b_mx]; omega
  | n + 1, P, bs, a => by
    rw [b_mx]
    have : ∀ (l : List (Nat × Nat × List Nat)) (a' : Nat), a' ≤ l.foldl (fun a x => if b_al E s dy P x.1 x.2.1 = true then b_mx E s dy n (b_ly P x.1 x.2.1) x.2.2 a else a) a' := by
      intro l
      induction l with
      | nil => intro a'; exact Nat.le_refl _
      | cons x l ih =>
        intro a'
        rw [List.foldl_cons]
        refine Nat.le_trans ?_ (ih _)
        split
        · exact b_mx_ge n _ _ _
        · exact Nat.le_refl _
    have := this (b_ch (s_c s) bs) (max a (b_lh s P))
    omega
theorem b_mx_fold {dy : Nat} {n : Nat} {P : bP} : ∀ (l : List (Nat × Nat × List Nat)) (a' : Nat), a' ≤ l.foldl (fun a x => if b_al E s dy P x.1 x.2.1 = true then b_mx E s dy n (b_ly P x.1 x.2.1) x.2.2 a else a) a'
  | [], a' => Nat.le_refl _
  | x :: l, a' => by
    rw [List.foldl_cons]
    refine Nat.le_trans ?_ (b_mx_fold l _)
    split
    · exact b_mx_ge n _ _ _
    · exact Nat.le_refl _
theorem b_mx_va {dy : Nat} : ∀ (n : Nat) (P : bP) (bs : List Nat) (a : Nat) (t : bW), bs.length ≤ n → b_va E s dy P bs t → b_lh s (b_fl P t) ≤ b_mx E s dy n P bs a
  | 0, P, bs, a, t, hl, hv => by
    have : t = [] := by
      cases t with
      | nil => rfl
      | cons x t =>
        obtain ⟨pre, r, e, -⟩ := hv
        rw [e] at hl
        simp at hl
    subst this
    rw [b_mx]
    exact Nat.le_max_right _ _
  | n + 1, P, bs, a, t, hl, hv => by
    rw [b_mx]
    cases t with
    | nil => exact Nat.le_trans (Nat.le_max_right a (b_lh s P)) (b_mx_fold _ _)
    | cons x t =>
      obtain ⟨pre, r, e, hc, ha, hv2⟩ := hv
      have hm : (x.1, x.2, r) ∈ b_ch (s_c s) bs := b_ch_mem.mpr ⟨hc, pre, e⟩
      have hr : r.length ≤ n := by
        rw [e] at hl
        simp at hl
        omega
      have key : ∀ (l : List (Nat × Nat × List Nat)) (a' : Nat), (x.1, x.2, r) ∈ l → b_lh s (b_fl (b_ly P x.1 x.2) t) ≤ l.foldl (fun a x => if b_al E s dy P x.1 x.2.1 = true then b_mx E s dy n (b_ly P x.1 x.2.1) x.2.2 a else a) a' := by
        intro l
        induction l with
        | nil => intro a' h; exact absurd h (by simp)
        | cons y l ih =>
          intro a' h
          rw [List.foldl_cons]
          rcases List.mem_cons.mp h with q | q
          · rw [← q]
            refine Nat.le_trans ?_ (b_mx_fold l _)
            show _ ≤ (if b_al E s dy P x.1 x.2 = true then b_mx E s dy n (b_ly P x.1 x.2) r a' else a')
            rw [if_pos ha]
            exact b_mx_va n _ _ a' t hr hv2
          · exact ih _ q
      exact key _ _ hm
theorem b_mx_at {dy : Nat} : ∀ (n : Nat) (P : bP) (bs : List Nat) (a : Nat), b_mx E s dy n P bs a = a ∨ ∃ t, b_va E s dy P bs t ∧ b_lh s (b_fl P t) = b_mx E s dy n P bs a
  | 0, P, bs, a => by
    rw [b_mx]
    rcases Nat.le_total a (b_lh s P) with q | q
    · exact Or.inr ⟨[], trivial, by show b_lh s P = _; omega⟩
    · exact Or.inl (by omega)
  | n + 1, P, bs, a => by
    rw [b_mx]
    have key : ∀ (l : List (Nat × Nat × List Nat)) (a' : Nat), (∀ x, x ∈ l → x ∈ b_ch (s_c s) bs) → l.foldl (fun a x => if b_al E s dy P x.1 x.2.1 = true then b_mx E s dy n (b_ly P x.1 x.2.1) x.2.2 a else a) a' = a' ∨ ∃ t, b_va E s dy P bs t ∧ b_lh s (b_fl P t) = l.foldl (fun a x => if b_al E s dy P x.1 x.2.1 = true then b_mx E s dy n (b_ly P x.1 x.2.1) x.2.2 a else a) a' := by
      intro l
      induction l with
      | nil => intro a' _; exact Or.inl rfl
      | cons x l ih =>
        intro a' hl
        rw [List.foldl_cons]
        rcases ih (if b_al E s dy P x.1 x.2.1 = true then b_mx E s dy n (b_ly P x.1 x.2.1) x.2.2 a' else a') (fun y hy => hl y (List.mem_cons_of_mem _ hy)) with q | q
        · rw [q]
          by_cases ha : b_al E s dy P x.1 x.2.1 = true
          · rw [if_pos ha]
            rcases b_mx_at n (b_ly P x.1 x.2.1) x.2.2 a' with q2 | ⟨t, q2, q3⟩
            · exact Or.inl q2
            · obtain ⟨hx1, pre, hx2⟩ := b_ch_mem.mp (hl x (by simp))
              exact Or.inr ⟨(x.1, x.2.1) :: t, ⟨pre, x.2.2, hx2, hx1, ha, q2⟩, q3⟩
          · rw [if_neg ha]
            exact Or.inl rfl
        · exact Or.inr q
    rcases key (b_ch (s_c s) bs) (max a (b_lh s P)) (fun _ h => h) with q | q
    · rw [q]
      rcases Nat.le_total a (b_lh s P) with q | q
      · exact Or.inr ⟨[], trivial, by show b_lh s P = _; omega⟩
      · exact Or.inl (by omega)
    · exact Or.inr q
end
section
variable {x : tX} {σ u : zS}
theorem b_top_99 (x : tX) : b_top x ≤ 99 := by
  unfold b_top
  rcases b_mx_at (E := x_E x) (s := x_s x) (dy := v_y (x_v x)) 6 (v_p (x_v x)) (b_S (x_s x) (x_v x) 0) 0 with q | ⟨t, -, q⟩
  · omega
  · rw [← q]
    exact a_lhi_le _ _ _
/-- which heights can be come to -/
theorem b_top_iff (hl : (b_S (x_s x) (x_v x) 0).length ≤ 6) {h : Nat} (h99 : h ≤ 99) : (∃ t, b_bst (x_E x) (x_s x) (v_y (x_v x)) h 6 (v_p (x_v x)) (b_S (x_s x) (x_v x) 0) = some t) ↔ h ≤ b_top x := by
  constructor
  · rintro ⟨t, ht⟩
    obtain ⟨g1, g2⟩ := b_bst_ok _ _ _ _ ht
    exact Nat.le_trans ((b_gd_lh h99).mp g2) (b_mx_va 6 _ _ 0 t hl g1)
  · intro hh
    have : ∃ t, b_va (x_E x) (x_s x) (v_y (x_v x)) (v_p (x_v x)) (b_S (x_s x) (x_v x) 0) t ∧ h ≤ b_lh (x_s x) (b_fl (v_p (x_v x)) t) := by
      rcases b_mx_at (E := x_E x) (s := x_s x) (dy := v_y (x_v x)) 6 (v_p (x_v x)) (b_S (x_s x) (x_v x) 0) 0 with q | ⟨t, q1, q2⟩
      · have : b_top x = 0 := q
        exact ⟨[], trivial, by omega⟩
      · have : b_lh (x_s x) (b_fl (v_p (x_v x)) t) = b_top x := q2
        exact ⟨t, q1, by omega⟩
    obtain ⟨t, g1, g2⟩ := this
    obtain ⟨t0, e, -⟩ := b_bst_min 6 _ _ t hl g1 ((b_gd_lh h99).mpr g2)
    exact ⟨t0, e⟩
theorem cc_tellSteps {t : bW} (ht : t.length ≤ 6) (hL : bM7 (b_fa t) σ) : z_Ci 2 zm_Walls_tellSteps [.inr 0, .inl (nI t.length)] σ (fun r u => r = nI t.length ∧ cRow ((b_fa t).map nI) u ∧ cX (fun q => q = 2) c_qK σ u) := by
  have hfl := b_fa_len t
  refine z_Ci_of (by decide) (Nat.le_of_ble_eq_true rfl) (fun Γ hd he => ?_)
  show z_J Γ zm_Walls_tellSteps 0 [some (.inr 0), some (.inl (nI t.length))] [] σ
  refine zb_Walls_tellSteps_0 (fun z => absurd z (by rw [show (0 : Int32) = nI 0 from rfl, zn_lt (by omega) (by omega)]; omega)) (fun _ => ?_)
  have hc := cc_tellRow (σ := σ) (a := 27) (n := 12) (by decide) (by decide) (l := (b_fa t).map nI) (by simp; omega) (by simp; omega) (fun i y hy => by
    rw [List.getElem?_map] at hy
    have hi : i < (b_fa t).length := by
      rcases Nat.lt_or_ge i (b_fa t).length with q | q
      · exact q
      · rw [List.getElem?_eq_none q] at hy
        exact absurd hy (by simp)
    rw [List.getElem?_eq_getElem hi] at hy
    simp only [Option.map_some, Option.some.injEq] at hy
    rw [hL i hi, ← hy]
    simp only [List.getD_eq_getElem?_getD]
    rw [List.getElem?_eq_getElem hi]
    rfl)
  rw [List.length_map, hfl] at hc
  refine zb_Walls_tellSteps_4 (dc := 1) (P := fun u => cRow ((b_fa t).map nI) u ∧ cX (fun q => q = 2) c_qK σ u) (by rw [pk_mul]; exact hc) (by omega) (fun u hu => ?_)
  refine zb_Walls_tellSteps_18 ?_
  rw [he]
  exact ⟨_, rfl, rfl, hu⟩
theorem cc_tellSteps0 {a : Int32} (ha : a < 0) : z_Ci 2 zm_Walls_tellSteps [.inr 0, .inl a] σ (fun r u => r = a ∧ u = σ) := by
  refine z_Ci_of (by decide) (Nat.le_of_ble_eq_true rfl) (fun Γ hd he => ?_)
  show z_J Γ zm_Walls_tellSteps 0 [some (.inr 0), some (.inl a)] [] σ
  refine zb_Walls_tellSteps_0 (fun _ => zb_Walls_tellSteps_18 ?_) (fun z => absurd ha z)
  rw [he]
  exact ⟨_, rfl, rfl, rfl⟩
theorem c_cp43 (h : cA x σ) {u2 : zS} (p3 : z_fr (z_F09 43) σ u2) : cX c_sO (fun _ => False) σ u2 ∧ cA x u2 := by
  have f1 : cX c_sO (fun _ => False) σ u2 := p3.cX (by show ¬ (43 ≤ 0 ∧ _); omega) (fun q hq => by have hq' : 43 ≤ q ∧ q ≤ 43 + 9 := hq; unfold c_sO; omega)
  exact ⟨f1, (h.low f1).1⟩
/-- both calls from behind the fewest -/
theorem c_bld (h : cA x σ) {fr hh : Nat} {a : Int32} (hF : cX c_sO (fun _ => False) σ u) (hp : bFp (x_E x) (x_s x) (x_v x) fr hh a u) : z_Ci 2 zm_Walls_tellSteps [.inr 0, .inl a] u (fun r w => r = (if (b_S (x_s x) (x_v x) fr).length ≤ 6 then to_bld x fr hh else (-3, x)).1 ∧ cA (if (b_S (x_s x) (x_v x) fr).length ≤ 6 then to_bld x fr hh else (-3, x)).2 w ∧ zW σ w) := by
  obtain ⟨p1, p2⟩ := hp
  by_cases hl : (b_S (x_s x) (x_v x) fr).length ≤ 6
  · rw [if_pos hl]
    obtain ⟨q1, q2⟩ := p1 hl
    unfold to_bld
    cases hb : b_bst (x_E x) (x_s x) (v_y (x_v x)) hh 6 (v_p (x_v x)) (b_S (x_s x) (x_v x) fr) with
    | none =>
      rw [q1 hb]
      refine z_Ci_mono (fun r w hr => ?_) (cc_tellSteps0 (by decide))
      obtain ⟨rfl, rfl⟩ := hr
      exact ⟨rfl, h.low hF⟩
    | some t =>
      obtain ⟨rfl, -, L⟩ := q2 t hb
      have ht : t.length ≤ 6 := by
        have := (b_va_sub _ _ _ (b_bst_ok _ _ _ _ hb).1).length_le
        rw [List.length_map] at this
        omega
      refine z_Ci_mono (fun r w hr => ?_) (cc_tellSteps ht L)
      obtain ⟨rfl, r2, r3⟩ := hr
      exact ⟨rfl, h.row ((hF.mono (fun _ q => Or.inl q) (fun _ q => q.elim)).tr (r3.mono (fun _ q => Or.inr q) (fun _ q => q))) r2⟩
  · rw [if_neg hl, p2 hl]
    refine z_Ci_mono (fun r w hr => ?_) (cc_tellSteps0 (by decide))
    obtain ⟨rfl, rfl⟩ := hr
    exact ⟨rfl, h.low hF⟩
theorem cp_build (h : cA x σ) (a : Int32) : z_Ci 13 zm_Walls_build [.inr 0, .inl a] σ (fun r u => r = (to_builds 0 x a).1 ∧ cA (to_builds 0 x a).2 u ∧ zW σ u) := by
  refine z_Ci_of (by decide) (Nat.le_of_ble_eq_true rfl) (fun Γ hd he => ?_)
  show z_J Γ zm_Walls_build 0 [some (.inr 0), some (.inl a)] [] σ
  refine zb_Walls_build_0 (cc_isHeight a σ) (by omega) (fun r u hr => ?_)
  obtain ⟨rfl, rfl⟩ := hr
  refine zb_Walls_build_4 (fun k => ?_) (fun k => ?_)
  rotate_left
  · rw [z_tf_eq0] at k
    refine zb_Walls_build_7 ?_
    rw [he, to_builds, if_neg (fun q => by simp [q.1, q.2] at k)]
    exact ⟨_, rfl, rfl, h, zW.rf⟩
  rw [z_tf_eq0, Bool.not_eq_false, Bool.and_eq_true, decide_eq_true_eq, decide_eq_true_eq] at k
  obtain ⟨n, hn1, rfl⟩ := z_0to (by decide) k
  rw [to_builds, if_pos k, nI_clamp (by omega)] at he
  refine zb_Walls_build_9 (cc_copyFrom z_c43 z_c33 (by decide) h.1) (by omega) (fun u2 h2 => ?_)
  obtain ⟨R2, p3⟩ := h2
  obtain ⟨f1, A2⟩ := c_cp43 h p3
  refine zb_Walls_build_20 A2.2.2.1.oR (cc_fewest A2.2.2.1.oR R2 A2.2.2.1.2 (Or.inl rfl) (by omega)) (by omega) (fun y u3 h3 => ?_)
  obtain ⟨p4, F3⟩ := h3
  refine zb_Walls_build_38 (c_bld h (f1.tr (F3.mono (by unfold bMO c_sO; omega) (fun _ q => q))) p4) (by omega) (fun r u4 h4 => ?_)
  refine zb_Walls_build_41 ?_
  rw [he]
  exact ⟨_, rfl, h4⟩
theorem cp_calls (h : cA x σ) (a : Int32) : z_Ci 13 zm_Walls_calls [.inr 0, .inl a] σ (fun r u => r = (to_builds 2 x a).1 ∧ cA (to_builds 2 x a).2 u ∧ zW σ u) := by
  refine z_Ci_of (by decide) (Nat.le_of_ble_eq_true rfl) (fun Γ hd he => ?_)
  show z_J Γ zm_Walls_calls 0 [some (.inr 0), some (.inl a)] [] σ
  refine zb_Walls_calls_0 (cc_isHeight a σ) (by omega) (fun r u hr => ?_)
  obtain ⟨rfl, rfl⟩ := hr
  refine zb_Walls_calls_4 (fun k => ?_) (fun k => ?_)
  rotate_left
  · rw [z_tf_eq0] at k
    refine zb_Walls_calls_7 ?_
    rw [he, to_builds, if_neg (fun q => by simp [q.1, q.2] at k)]
    exact ⟨_, rfl, rfl, h, zW.rf⟩
  rw [z_tf_eq0, Bool.not_eq_false, Bool.and_eq_true, decide_eq_true_eq, decide_eq_true_eq] at k
  obtain ⟨n, hn1, rfl⟩ := z_0to (by decide) k
  rw [to_builds, if_pos k, nI_clamp (by omega)] at he
  refine zb_Walls_calls_9 (cc_copyFrom z_c43 z_c33 (by decide) h.1) (by omega) (fun u2 h2 => ?_)
  obtain ⟨R2, p3⟩ := h2
  obtain ⟨f1, A2⟩ := c_cp43 h p3
  refine zb_Walls_calls_20 A2.2.2.1.oR (cc_fewest A2.2.2.1.oR R2 A2.2.2.1.2 (Or.inr rfl) (by omega)) (by omega) (fun y u3 h3 => ?_)
  obtain ⟨p4, F3⟩ := h3
  refine zb_Walls_calls_38 (c_bld h (f1.tr (F3.mono (by unfold bMO c_sO; omega) (fun _ q => q))) p4) (by omega) (fun r u4 h4 => ?_)
  refine zb_Walls_calls_41 ?_
  rw [he]
  exact ⟨_, rfl, h4⟩
theorem cp_tallest (h : cA x σ) : z_Ci 13 zm_Walls_tallest [.inr 0] σ (fun r u => r = (to_tallest x).1 ∧ cA (to_tallest x).2 u ∧ zW σ u) := by
  have hn := h.1.n
  have hS := b_S_bc (s := x_s x) (v := x_v x) (w := 0) hn
  have hle := n_bc_le (a_bw (x_v x) 0 (s_n (x_s x)))
  have ht99 := b_top_99 x
  refine z_Ci_of (by decide) (Nat.le_of_ble_eq_true rfl) (fun Γ hd he => ?_)
  show z_J Γ zm_Walls_tallest 0 [some (.inr 0), none, none, none, none] [] σ
  refine zb_Walls_tallest_0 (cc_bitsWhere (w := 0) z_c33 h.1 (by decide)) (by omega) (fun r u hr => ?_)
  obtain ⟨rfl, rfl⟩ := hr
  refine zb_Walls_tallest_8 (by omega) (fun z => ?_) (fun z => ?_)
  rotate_left
  · rw [zn_bc _ (a_bw_12 hn), zn_le (by unfold n_bc at hle; omega) (by omega)] at z
    have z' : ¬ (b_S (x_s x) (x_v x) 0).length ≤ 6 := by rw [← hS]; exact z
    refine zb_Walls_tallest_16 ?_
    rw [he, to_tallest, if_neg z']
    exact ⟨_, rfl, rfl, h, zW.rf⟩
  rw [zn_bc _ (a_bw_12 hn), zn_le (by unfold n_bc at hle; omega) (by omega)] at z
  have hl : (b_S (x_s x) (x_v x) 0).length ≤ 6 := by rw [← hS]; exact z
  rw [to_tallest, if_pos hl] at he
  have hb99 : ∀ P, b_lh (x_s x) P ≤ 99 := fun P => a_lhi_le _ _ _
  refine zb_Walls_tallest_19 (cc_leastHeight z_c33 h.1) (by omega) (fun r u2 hr => ?_)
  obtain ⟨rfl, rfl⟩ := hr
  rw [b_lh_v]
  have hR0 := hb99 (v_p (x_v x))
  refine zb_Walls_tallest_26 ?_
  rw [nI_add]
  have g0 : b_bst (x_E x) (x_s x) (v_y (x_v x)) (b_lh (x_s x) (v_p (x_v x))) 6 (v_p (x_v x)) (b_S (x_s x) (x_v x) 0) = some [] := if_pos ((b_gd_lh hR0).mpr (Nat.le_refl _))
  refine zj_forM (fun mm Ls u' => ∃ hh R K, mm = 100 - hh ∧ hh ≤ 100 ∧ hh ≤ R + 1 ∧ R ≤ 99 ∧ Ls = [some (.inr 0), some (.inl (nI R)), some (.inl (nI K)), some (.inl (nI hh)), none] ∧ (∃ t, b_bst (x_E x) (x_s x) (v_y (x_v x)) R 6 (v_p (x_v x)) (b_S (x_s x) (x_v x) 0) = some t ∧ t.length = K) ∧ cX c_sO (fun _ => False) u2 u') (fun mm Ls u' hI kk => ?_) (100 - (b_lh (x_s x) (v_p (x_v x)) + 1)) _ u2 ⟨_, b_lh (x_s x) (v_p (x_v x)), 0, rfl, by omega, Nat.le_refl _, hR0, rfl, ⟨[], g0, rfl⟩, cX.rf⟩
  obtain ⟨hh, R, K, rfl, a1, a2, a3, rfl, ⟨t, hb, rfl⟩, Fu⟩ := hI
  have ht : t.length ≤ 6 := by
    have := (b_va_sub _ _ _ (b_bst_ok _ _ _ _ hb).1).length_le
    rw [List.length_map] at this
    omega
  have hRt := (b_top_iff hl a3).mp ⟨t, hb⟩
  have last : ∀ w, b_top x = R → cX c_sO (fun _ => False) u2 w → z_J Γ zm_Walls_tallest 102 [some (.inr 0), some (.inl (nI R)), some (.inl (nI t.length)), none, none] [] w := by
    intro w e Fw
    refine zb_Walls_tallest_102 (cc_tell _ _) (by omega) (fun w2 h2 => ?_)
    obtain ⟨r1, r2⟩ := h2
    refine zb_Walls_tallest_107 ?_
    have e1 : (to_bld x 0 (b_top x)).1 = nI t.length := by
      unfold to_bld
      rw [e, hb]
    rw [he, e1, e]
    exact ⟨_, rfl, rfl, h.row ((Fw.mono (fun _ q => Or.inl q) (fun _ q => q.elim)).tr (r2.mono (fun _ q => Or.inr q) (fun _ q => q))) r1⟩
  refine zb_Walls_tallest_33 (fun z2 => ?_) (fun z2 => ?_)
  · rw [zn_lt (by omega) (by omega)] at z2
    exact last u' (by omega) Fu
  rw [zn_lt (by omega) (by omega)] at z2
  refine zb_Walls_tallest_39 (fun z3 => ?_) (fun z3 => ?_)
  rotate_left
  · rw [zn_lt (by omega) (by omega)] at z3
    refine zb_Walls_tallest_44 (zb_Walls_tallest_96 ?_)
    rw [nI_add]
    exact kk _ _ u' (show 100 - (hh + 1) < 100 - hh by omega) ⟨hh + 1, R, t.length, rfl, by omega, by omega, a3, rfl, ⟨t, hb, rfl⟩, Fu⟩
  rw [zn_lt (by omega) (by omega)] at z3
  have eh : hh = R + 1 := by omega
  have A1 := (h.low Fu).1
  refine zb_Walls_tallest_47 (cc_copyFrom z_c43 z_c33 (by decide) A1.1) (by omega) (fun u3 h3 => ?_)
  obtain ⟨R3, p3⟩ := h3
  obtain ⟨f1, A3⟩ := c_cp43 A1 p3
  refine zb_Walls_tallest_58 A3.2.2.1.oR (cc_fewest A3.2.2.1.oR R3 A3.2.2.1.2 (Or.inl rfl) (h := hh) (by omega)) (by omega) (fun y u4 h4 => ?_)
  obtain ⟨p4, F4⟩ := h4
  have Fu4 := Fu.tr (f1.tr (F4.mono (by unfold bMO c_sO; omega) (fun _ q => q)))
  obtain ⟨q1, q2⟩ := p4.1 hl
  cases hb2 : b_bst (x_E x) (x_s x) (v_y (x_v x)) hh 6 (v_p (x_v x)) (b_S (x_s x) (x_v x) 0) with
  | none =>
    rw [q1 hb2]
    refine zb_Walls_tallest_75 (fun z4 => absurd z4 (by decide)) (fun _ => zb_Walls_tallest_82 (last u4 ?_ Fu4))
    rcases Nat.lt_or_ge R (b_top x) with q | q
    · obtain ⟨t', ht'⟩ := (b_top_iff (h := hh) hl (by omega)).mpr (by omega)
      rw [hb2] at ht'
      exact absurd ht' (by simp)
    · omega
  | some t' =>
    obtain ⟨rfl, ⟨w', R4, hw'⟩, -⟩ := q2 t' hb2
    have ht' : t'.length ≤ 6 := by
      have := (b_va_sub _ _ _ (b_bst_ok _ _ _ _ hb2).1).length_le
      rw [List.length_map] at this
      omega
    refine zb_Walls_tallest_75 (fun _ => ?_) (fun z4 => absurd (by rw [show (0 : Int32) = nI 0 from rfl, zn_le (by omega) (by omega)]; omega) z4)
    refine zb_Walls_tallest_85 (cc_leastHeight z_c43 R4) (by omega) (fun y u5 h5 => ?_)
    obtain ⟨rfl, rfl⟩ := h5
    rw [b_lh_v, hw']
    refine zb_Walls_tallest_95 (zb_Walls_tallest_96 ?_)
    rw [nI_add]
    have hg' := hb99 (b_fl (v_p (x_v x)) t')
    obtain ⟨g1, g2⟩ := b_bst_ok _ _ _ _ hb2
    have g3 := (b_gd_lh (show hh ≤ 99 by omega)).mp g2
    obtain ⟨t0, e1, e2⟩ := b_bst_min 6 _ _ t' hl g1 ((b_gd_lh hg').mpr (Nat.le_refl _))
    obtain ⟨g4, g5⟩ := b_bst_ok _ _ _ _ e1
    have g6 := (b_gd_lh hg').mp g5
    obtain ⟨t1, e3, e4⟩ := b_bst_min (h := hh) 6 _ _ t0 hl g4 ((b_gd_lh (by omega)).mpr (by omega))
    rw [hb2] at e3
    simp only [Option.some.injEq] at e3
    subst e3
    exact kk _ _ u5 (show 100 - (hh + 1) < 100 - hh by omega) ⟨hh + 1, b_lh (x_s x) (b_fl (v_p (x_v x)) t'), t'.length, rfl, by omega, by omega, hg', rfl, ⟨t0, e1, by omega⟩, Fu4⟩
end
