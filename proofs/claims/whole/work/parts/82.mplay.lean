/-! playing by turns: the truth, and the model -/
def p_en (g : aV → Nat) (w : aV) : Nat → Option (Nat × Nat)
  | 0 => none
  | c + 1 => if (v_p w c).length = 0 then p_en g w c else match p_en g w c with
    | none => some (g (a_lift w (a_top w c) 3), c)
    | some q => if g (a_lift w (a_top w c) 3) < q.1 then some (g (a_lift w (a_top w c) 3), c) else some q
def p_ok (E : (Nat → Int32) → Int32) (s : aS) (w : aV) (b c : Nat) : Bool := decide (v_w w b = 0) && b_al E s (v_y w) (v_p w) b c
def p_cc (E : (Nat → Int32) → Int32) (s : aS) (g : aV → Nat) (w : aV) (b a : Nat) : Nat → Nat
  | 0 => a
  | c + 1 => if p_ok E s w b c = true then max (p_cc E s g w b a c) (g (a_put w b c)) else p_cc E s g w b a c
def p_ci (E : (Nat → Int32) → Int32) (s : aS) (g : aV → Nat) (w : aV) (a : Nat) : Nat → Nat
  | 0 => a
  | b + 1 => p_cc E s g w b (p_ci E s g w a b) (s_c s)
def p_v (E : (Nat → Int32) → Int32) (s : aS) : Nat → Bool → aV → Nat
  | 0, _, w => a_lh s w
  | n + 1, true, w => match p_en (p_v E s n false) w (s_c s) with
    | none => p_v E s n false w
    | some q => q.1
  | n + 1, false, w => p_ci E s (p_v E s n true) w (p_v E s n true w) (s_n s)
theorem p_en_99 {g : aV → Nat} (hg : ∀ w, g w ≤ 99) {w : aV} : ∀ c q, p_en g w c = some q → q.1 ≤ 99 ∧ q.2 < c
  | 0, q, h => absurd h (by simp [p_en])
  | c + 1, q, h => by
    have ih := p_en_99 hg (w := w) c
    rw [p_en] at h
    split at h
    · have := ih q h
      exact ⟨this.1, by omega⟩
    · cases hp : p_en g w c with
      | none =>
        rw [hp] at h
        simp only [Option.some.injEq] at h
        subst h
        exact ⟨hg _, by show c < c + 1; omega⟩
      | some q' =>
        rw [hp] at h
        have := ih q' hp
        have h' : (if g (a_lift w (a_top w c) 3) < q'.1 then some (g (a_lift w (a_top w c) 3), c) else some q') = some q := h
        split at h'
        · simp only [Option.some.injEq] at h'
          subst h'
          exact ⟨hg _, by show c < c + 1; omega⟩
        · simp only [Option.some.injEq] at h'
          subst h'
          exact ⟨this.1, by omega⟩
section
variable {E : (Nat → Int32) → Int32} {s : aS}
theorem p_cc_99 {g : aV → Nat} (hg : ∀ w, g w ≤ 99) {w : aV} {b a : Nat} (ha : a ≤ 99) : ∀ c, p_cc E s g w b a c ≤ 99
  | 0 => ha
  | c + 1 => by
    have := p_cc_99 hg (w := w) (b := b) ha c
    have := hg (a_put w b c)
    rw [p_cc]
    split <;> omega
theorem p_ci_99 {g : aV → Nat} (hg : ∀ w, g w ≤ 99) {w : aV} {a : Nat} (ha : a ≤ 99) : ∀ b, p_ci E s g w a b ≤ 99
  | 0 => ha
  | b + 1 => p_cc_99 hg (p_ci_99 hg ha b) _
theorem p_v_99 : ∀ n e w, p_v E s n e w ≤ 99
  | 0, _, w => a_lhi_le _ _ _
  | n + 1, true, w => by
    rw [p_v]
    have ih := p_v_99 n false
    cases hp : p_en (p_v E s n false) w (s_c s) with
    | none => exact ih w
    | some q => exact (p_en_99 ih _ q hp).1
  | n + 1, false, w => by
    rw [p_v]
    exact p_ci_99 (p_v_99 n true) (p_v_99 n true w) _
end
def p_b (o : Option (Nat × Nat)) : Int32 := match o with
  | none => 1000000
  | some q => nI q.1
def p_t (o : Option (Nat × Nat)) : Int32 := w_I (o.map Prod.snd)
theorem zn_par : ∀ t, t < 5 → ((nI t - nI t / nI 2 * nI 2 = 0) ↔ t % 2 = 0) := by decide +kernel
theorem zn_mil {v : Nat} (h : v < 1000000) : nI v < (1000000 : Int32) ∧ ¬ nI v = (1000000 : Int32) := by
  have e : (1000000 : Int32) = nI 1000000 := rfl
  rw [e]
  exact ⟨(zn_lt (by omega) (by omega)).mpr h, fun q => absurd ((zn_eq (by omega) (by omega)).mp q) (by omega)⟩
section
variable {s : aS} {K : Nat} {T : Nat → Nat}
theorem m_back {u2 u3 : zS} {b : Nat} {x y : Int32} (h : mX bO m_sK (z_pI u2 78 b x) u3) (hy : u2.1 78 b = y) : mX bO m_sK u2 (z_pI u3 78 b y) := by
  refine ⟨fun q h1 h2 => ?_, fun k hk => ?_, fun k hk => ?_⟩
  · obtain ⟨g1, g2⟩ := h.1 q h1 h2
    by_cases e : q = 78
    · subst e
      refine ⟨?_, by rw [z_pI_2, g2, z_pI_2]⟩
      funext j
      rw [z_pI_1]
      by_cases e2 : j = b
      · rw [if_pos ⟨rfl, e2⟩, e2, hy]
      · rw [if_neg (fun z => e2 z.2), g1, z_pI_ne2 e2]
    · rw [z_pI_ne e, z_pI_2, g1, g2, z_pI_ne e, z_pI_2]
      exact ⟨rfl, rfl⟩
  · rw [z_pI_ne (by decide), h.2.1 k hk, z_pI_ne (by decide)]
  · rw [z_pI_2, h.2.2 k hk, z_pI_2]
theorem m_back3 {u3 u5 : zS} {b c l : Nat} {x : Int32} (h : mX bO m_sK (m_put u3 78 b c l) u5) (hx : u3.1 78 b = x) : mX bO m_sK u3 (z_pI (z_pI (z_pI u5 78 b x) 78 (12 + b) (u3.1 78 (12 + b))) 78 (24 + b) (u3.1 78 (24 + b))) := by
  refine ⟨fun q h1 h2 => ?_, fun k hk => ?_, fun k hk => ?_⟩
  · obtain ⟨g1, g2⟩ := h.1 q h1 h2
    by_cases e : q = 78
    · subst e
      refine ⟨?_, by rw [z_pI_2, z_pI_2, z_pI_2, g2]; rfl⟩
      funext j
      rw [z_pI_1, z_pI_1, z_pI_1, g1]
      by_cases j1 : j = 24 + b
      · rw [if_pos ⟨rfl, j1⟩, j1]
      · rw [if_neg (fun z => j1 z.2)]
        by_cases j2 : j = 12 + b
        · rw [if_pos ⟨rfl, j2⟩, j2]
        · rw [if_neg (fun z => j2 z.2)]
          by_cases j3 : j = b
          · rw [if_pos ⟨rfl, j3⟩, j3, hx]
          · rw [if_neg (fun z => j3 z.2)]
            show (z_pI (z_pI (z_pI u3 78 b (nI 1)) 78 (12 + b) (nI c)) 78 (24 + b) (nI l)).1 78 j = _
            rw [z_pI_ne2 j1, z_pI_ne2 j2, z_pI_ne2 j3]
    · rw [z_pI_ne e, z_pI_ne e, z_pI_ne e, z_pI_2, z_pI_2, z_pI_2, g1, g2]
      exact m_put_fr u3 78 b c l q e
  · rw [z_pI_ne (by decide), z_pI_ne (by decide), z_pI_ne (by decide), h.2.1 k hk, (m_put_fr u3 78 b c l 63 (by decide)).1]
  · rw [z_pI_2, z_pI_2, z_pI_2, h.2.2 k hk, (m_put_fr u3 78 b c l 63 (by decide)).2]
def mpC (s : aS) (K : Nat) (T : Nat → Nat) (n : Nat) : Prop := ∀ t w τ, t + n ≤ 4 → mR s w τ 78 → mRr K T τ → z_Ci (345 + 2 * n) zm_Model_goPlay [.inr 63, .inr 78, .inl (nI t), .inl (nI (t + n))] τ (fun r u => r = nI (p_v (tE K T) s n (decide (t % 2 = 0)) w) ∧ mX bO m_sK τ u ∧ (∀ m, n = m + 1 → t % 2 = 0 → u.1 63 39 = p_t (p_en (p_v (tE K T) s m false) w (s_c s))))
theorem mc_enemy {n : Nat} (hch : mpC s K T n) {t : Nat} (h4 : t + (n + 1) ≤ 4) (ht : t % 2 = 0) {w : aV} {τ : zS} (hR : mR s w τ 78) (hM : mRr K T τ) : z_Ci (346 + 2 * n) zm_Model_goEnemy [.inr 63, .inr 78, .inl (nI t), .inl (nI (t + (n + 1)))] τ (fun r u => r = nI (p_v (tE K T) s (n + 1) true w) ∧ mX bO m_sK τ u ∧ u.1 63 39 = p_t (p_en (p_v (tE K T) s n false) w (s_c s))) := by
  have h6 := hR.c6
  have hn := hR.n
  refine z_Ci_of (by decide) (Nat.le_of_ble_eq_true rfl) (fun Γ hd he => ?_)
  show z_J Γ zm_Model_goEnemy 0 [some (.inr 63), some (.inr 78), some (.inl (nI t)), some (.inl (nI (t + (n + 1)))), none, none, none, none, none] [] τ
  have hodd : ∀ w', p_v (tE K T) s n (decide ((t + 1) % 2 = 0)) w' = p_v (tE K T) s n false w' := fun w' => by rw [decide_eq_false (by omega)]
  refine zb_Model_goEnemy_0 rfl ?_
  refine zj_forS (b := s_c s) (fun c => [some (.inr 63), some (.inr 78), some (.inl (nI t)), some (.inl (nI (t + (n + 1)))), some (.inl (p_b (p_en (p_v (tE K T) s n false) w c))), some (.inl (p_t (p_en (p_v (tE K T) s n false) w c))), some (.inl (nI c)), none, none])
    (fun _ u => mX bO m_sK τ u) (fun c u hc hF kk => ?_) (fun u hF => ?_) 0 (Nat.zero_le _) _ mX.rf
  · have Ru := hR.keepX hF (by unfold m_sK; omega) (by unfold bO; omega) (by unfold bO; omega) (by decide)
    have Uu : mRr K T u := hM.keepX hF (by unfold bO; omega) (by unfold m_sK; omega)
    refine zb_Model_goEnemy_10 rfl (fun z => ?_) (fun _ => ?_)
    · rw [Ru.2.1.2.1] at z
      exact absurd z (nI_ge hc (by omega))
    refine zb_Model_goEnemy_19 rfl (mc_highest Ru.nb (by decide) (by decide) (Ru.C hc)) (by omega) (fun r u2 hr => ?_)
    obtain ⟨rfl, F2⟩ := hr
    have F2' : mX bO m_sK u u2 := F2.X (by decide) (by unfold bO; omega)
    have R2 := Ru.keepX F2' (by unfold m_sK; omega) (by unfold bO; omega) (by unfold bO; omega) (by decide)
    have U2 : mRr K T u2 := Uu.keepX F2' (by unfold bO; omega) (by unfold m_sK; omega)
    by_cases q : (v_p w c).length = 0
    · rw [if_pos q]
      refine zb_Model_goEnemy_26 rfl (fun z => absurd rfl z) (fun _ => ?_)
      refine zb_Model_goEnemy_34 rfl (zb_Model_goEnemy_76 rfl ?_)
      rw [nI_add]
      rw [p_en, if_pos q] at kk
      exact kk u2 (hF.tr F2')
    · rw [if_neg q]
      have hmem : a_top w c ∈ v_p w c := l_getD_mem (by omega)
      have hm := (hR.1.mm hc _).mp hmem
      have et : (v_p w c).getD ((v_p w c).length - 1) 0 = a_top w c := rfl
      rw [et]
      refine zb_Model_goEnemy_26 rfl (fun _ => ?_) (fun z => absurd z (zn_neg1 (by omega)))
      have hrec := hch (t + 1) (a_lift w (a_top w c) 3) (z_pI u2 78 (a_top w c) (nI 3)) (by omega) (R2.lift0 (by decide) hm.1 (Or.inr rfl) (a_last_top hR.1 hc (by omega))) (U2.keepX (R := fun q => q = 78) (K := fun _ => False) (mX.pR mX.rf rfl (by decide)) (by decide) id)
      rw [hodd] at hrec
      refine zb_Model_goEnemy_37 rfl (k1 := a_top w c) (z_ixn (by omega)) (dc := 345 + 2 * n) (P := fun r u' => r = nI (p_v (tE K T) s n false (a_lift w (a_top w c) 3)) ∧ mX bO m_sK (z_pI u2 78 (a_top w c) (nI 3)) u') (by rw [nI_add, show t + (n + 1) = t + 1 + n by omega]; exact z_Ci_mono (fun r u' hr => ⟨hr.1, hr.2.1⟩) hrec) (by omega) (fun r u3 hr => ?_)
      obtain ⟨rfl, F3⟩ := hr
      have F3' : mX bO m_sK u2 (z_pI u3 78 (a_top w c) (nI 1)) := m_back F3 (by rw [R2.fw hm.1, hm.2.1])
      have FF := hF.tr (F2'.tr F3')
      have hv99 := p_v_99 (E := tE K T) (s := s) n false (a_lift w (a_top w c) 3)
      rw [p_en, if_neg q] at kk
      cases ho : p_en (p_v (tE K T) s n false) w c with
      | none =>
        rw [ho] at kk
        refine zb_Model_goEnemy_51 rfl (k1 := a_top w c) (z_ixn (by omega)) (fun _ => ?_) (fun z => absurd (zn_mil (by omega)).1 z)
        refine zb_Model_goEnemy_68 rfl (zb_Model_goEnemy_76 rfl ?_)
        rw [nI_add]
        exact kk _ FF
      | some o =>
        rw [ho] at kk
        have ho99 := (p_en_99 (p_v_99 (E := tE K T) (s := s) n false) c o ho).1
        have kk : ∀ u', mX bO m_sK τ u' → z_J Γ zm_Model_goEnemy 10 [some (.inr 63), some (.inr 78), some (.inl (nI t)), some (.inl (nI (t + (n + 1)))), some (.inl (p_b (if p_v (tE K T) s n false (a_lift w (a_top w c) 3) < o.1 then some (p_v (tE K T) s n false (a_lift w (a_top w c) 3), c) else some o))), some (.inl (p_t (if p_v (tE K T) s n false (a_lift w (a_top w c) 3) < o.1 then some (p_v (tE K T) s n false (a_lift w (a_top w c) 3), c) else some o))), some (.inl (nI (c + 1))), none, none] [] u' := kk
        refine zb_Model_goEnemy_51 rfl (k1 := a_top w c) (z_ixn (by omega)) (fun z => ?_) (fun z => ?_)
        · have z' : nI (p_v (tE K T) s n false (a_lift w (a_top w c) 3)) < nI o.1 := z
          rw [zn_lt (by omega) (by omega)] at z'
          rw [if_pos z'] at kk
          refine zb_Model_goEnemy_68 rfl (zb_Model_goEnemy_76 rfl ?_)
          rw [nI_add]
          exact kk _ FF
        · have z' : ¬ nI (p_v (tE K T) s n false (a_lift w (a_top w c) 3)) < nI o.1 := z
          rw [zn_lt (by omega) (by omega)] at z'
          rw [if_neg z'] at kk
          refine zb_Model_goEnemy_65 rfl (zb_Model_goEnemy_76 rfl ?_)
          rw [nI_add]
          exact kk _ FF
  · have Ru := hR.keepX hF (by unfold m_sK; omega) (by unfold bO; omega) (by unfold bO; omega) (by decide)
    have Uu : mRr K T u := hM.keepX hF (by unfold bO; omega) (by unfold m_sK; omega)
    refine zb_Model_goEnemy_10 rfl (fun _ => ?_) (fun z => absurd (by rw [Ru.2.1.2.1]; exact Int32.le_refl _) z)
    cases ho : p_en (p_v (tE K T) s n false) w (s_c s) with
    | none =>
      have ev : p_v (tE K T) s (n + 1) true w = p_v (tE K T) s n false w := by rw [p_v, ho]
      refine zb_Model_goEnemy_82 rfl (fun z => absurd rfl z) (fun _ => ?_)
      have hrec := hch (t + 1) w u (by omega) Ru Uu
      rw [hodd] at hrec
      refine zb_Model_goEnemy_89 rfl (dc := 345 + 2 * n) (P := fun r u' => r = nI (p_v (tE K T) s n false w) ∧ mX bO m_sK u u') (by rw [nI_add, show t + (n + 1) = t + 1 + n by omega]; exact z_Ci_mono (fun r u' hr => ⟨hr.1, hr.2.1⟩) hrec) (by omega) (fun r u3 hr => ?_)
      obtain ⟨rfl, F3⟩ := hr
      refine zb_Model_goEnemy_98 (zb_Model_goEnemy_100 ?_)
      rw [he, ev, ho]
      exact ⟨_, rfl, rfl, mX.pK (hF.tr F3) (by unfold m_sK; omega), z_pI_at _ _ _ _⟩
    | some o =>
      have ho99 := (p_en_99 (p_v_99 (E := tE K T) (s := s) n false) _ o ho).1
      have ev : p_v (tE K T) s (n + 1) true w = o.1 := by rw [p_v, ho]
      refine zb_Model_goEnemy_82 rfl (fun _ => ?_) (fun z => absurd z (zn_mil (by omega)).2)
      refine zb_Model_goEnemy_100 ?_
      rw [he, ev, ho]
      exact ⟨_, rfl, rfl, mX.pK hF (by unfold m_sK; omega), z_pI_at _ _ _ _⟩
theorem p_ok_m {E : (Nat → Int32) → Int32} {w : aV} {b c : Nat} (hn : s_n s ≤ 12) (hc6 : s_c s ≤ 6) (hb : b < s_n s) (hc : c < s_c s) : (0 ≤ a_lay0 E s w (nI b) (nI c)) ↔ p_ok E s w b c = true := by
  unfold a_lay0 p_ok
  rw [if_pos ⟨z_isn_n (by omega) hb, z_isn_n (by omega) hc⟩, nI_clamp (by omega), nI_clamp (by omega)]
  by_cases q : v_w w b = 0
  · rw [if_pos q, decide_eq_true q, Bool.true_and]
    unfold a_top0 b_al
    by_cases q4 : (v_p w c).length = 4
    · rw [if_pos q4]
      simp [q4]
    · rw [if_neg q4]
      by_cases q5 : l_ho E s (v_y w) c (v_p w c ++ [b]) = true
      · rw [if_pos q5]
        simp [q4, q5]
        decide
      · rw [if_neg q5]
        simp [q4, q5]
  · rw [if_neg q]
    simp [q]
theorem mc_city {n : Nat} (hch : mpC s K T n) {t : Nat} (h4 : t + (n + 1) ≤ 4) (ht : ¬ t % 2 = 0) {w : aV} {τ : zS} (hR : mR s w τ 78) (hM : mRr K T τ) : z_Ci (346 + 2 * n) zm_Model_goCity [.inr 63, .inr 78, .inl (nI t), .inl (nI (t + (n + 1)))] τ (fun r u => r = nI (p_v (tE K T) s (n + 1) false w) ∧ mX bO m_sK τ u) := by
  have h6 := hR.c6
  have hn := hR.n
  refine z_Ci_of (by decide) (Nat.le_of_ble_eq_true rfl) (fun Γ hd he => ?_)
  show z_J Γ zm_Model_goCity 0 [some (.inr 63), some (.inr 78), some (.inl (nI t)), some (.inl (nI (t + (n + 1)))), none, none, none, none, none] [] τ
  have heven : ∀ w', p_v (tE K T) s n (decide ((t + 1) % 2 = 0)) w' = p_v (tE K T) s n true w' := fun w' => by rw [decide_eq_true (by omega)]
  have hrec0 := hch (t + 1) w τ (by omega) hR hM
  rw [heven] at hrec0
  refine zb_Model_goCity_0 rfl (dc := 345 + 2 * n) (P := fun r u' => r = nI (p_v (tE K T) s n true w) ∧ mX bO m_sK τ u') (by rw [nI_add, show t + (n + 1) = t + 1 + n by omega]; exact z_Ci_mono (fun r u' hr => ⟨hr.1, hr.2.1⟩) hrec0) (by omega) (fun r u1 hr => ?_)
  obtain ⟨rfl, F1⟩ := hr
  have ha99 := p_v_99 (E := tE K T) (s := s) n true w
  have hg99 := p_v_99 (E := tE K T) (s := s) n true
  refine zb_Model_goCity_9 rfl ?_
  refine zj_forS (b := s_n s) (fun b => [some (.inr 63), some (.inr 78), some (.inl (nI t)), some (.inl (nI (t + (n + 1)))), some (.inl (nI (p_ci (tE K T) s (p_v (tE K T) s n true) w (p_v (tE K T) s n true w) b))), some (.inl (nI b)), none, none, none])
    (fun _ u => mX bO m_sK τ u) (fun b u hb hF kk => ?_) (fun u hF => ?_) 0 (Nat.zero_le _) _ F1
  · have Ru := hR.keepX hF (by unfold m_sK; omega) (by unfold bO; omega) (by unfold bO; omega) (by decide)
    refine zb_Model_goCity_14 rfl (fun z => ?_) (fun _ => ?_)
    · rw [Ru.2.1.1] at z
      exact absurd z (nI_ge hb (by omega))
    refine zb_Model_goCity_23 rfl ?_
    rw [p_ci] at kk
    have hp99 := p_ci_99 (E := tE K T) (s := s) hg99 ha99 (w := w) b
    generalize p_ci (tE K T) s (p_v (tE K T) s n true) w (p_v (tE K T) s n true w) b = a at *
    refine zj_forS (b := s_c s) (fun c => [some (.inr 63), some (.inr 78), some (.inl (nI t)), some (.inl (nI (t + (n + 1)))), some (.inl (nI (p_cc (tE K T) s (p_v (tE K T) s n true) w b a c))), some (.inl (nI b)), some (.inl (nI c)), none, none])
      (fun _ u => mX bO m_sK τ u) (fun c u hc hF kk2 => ?_) (fun u hF => ?_) 0 (Nat.zero_le _) _ hF
    · have Ru := hR.keepX hF (by unfold m_sK; omega) (by unfold bO; omega) (by unfold bO; omega) (by decide)
      have Uu : mRr K T u := hM.keepX hF (by unfold bO; omega) (by unfold m_sK; omega)
      have hc99 := p_cc_99 (E := tE K T) (s := s) hg99 hp99 (w := w) (b := b) c
      refine zb_Model_goCity_26 rfl (fun z => ?_) (fun _ => ?_)
      · rw [Ru.2.1.2.1] at z
        exact absurd z (nI_ge hc (by omega))
      refine zb_Model_goCity_35 rfl (mc_refusesLay Uu.1 (by rw [Uu.2]; decide) Ru (by decide) (by decide) (nI b) (nI c)) (by omega) (fun r u2 hr => ?_)
      obtain ⟨rfl, F2⟩ := hr
      have F2' : mX bO m_sK u u2 := F2.X (by unfold bO; omega) (by unfold m_sK; omega)
      have R2 := Ru.keepX F2' (by unfold m_sK; omega) (by unfold bO; omega) (by unfold bO; omega) (by decide)
      have U2 : mRr K T u2 := Uu.keepX F2' (by unfold bO; omega) (by unfold m_sK; omega)
      have hok := p_ok_m (E := tE K T) (w := w) hn h6 hb hc
      rw [p_cc] at kk2
      refine zb_Model_goCity_44 rfl (fun z => ?_) (fun z => ?_)
      · have hk := hok.mp z
        rw [if_pos hk] at kk2
        unfold p_ok b_al at hk
        rw [Bool.and_eq_true, Bool.and_eq_true, decide_eq_true_eq, decide_eq_true_eq] at hk
        have hl4 := hR.1.l4 hc
        refine zb_Model_goCity_50 rfl (k1 := 12 + b) (k2 := 24 + b) ⟨nI_add _ _, by omega⟩ ⟨nI_add _ _, by omega⟩ (mc_goLay R2 (by decide) hb hc) (by omega) (fun u3 h3 => ?_)
        subst h3
        have Rp := R2.put (by decide) hb (by omega) hc (by omega)
        have Up : mRr K T (m_put u2 78 b c (v_p w c).length) := U2.keepX (K := fun _ => False) ((m_put_fr u2 78 b c (v_p w c).length).X (by decide) (fun _ h => h)) (by decide) id
        have hrec := hch (t + 1) (a_put w b c) _ (by omega) Rp Up
        rw [heven] at hrec
        refine zb_Model_goCity_77 rfl (dc := 345 + 2 * n) (P := fun r u' => r = nI (p_v (tE K T) s n true (a_put w b c)) ∧ mX bO m_sK (m_put u2 78 b c (v_p w c).length) u') (by rw [nI_add, show t + (n + 1) = t + 1 + n by omega]; exact z_Ci_mono (fun r u' hr => ⟨hr.1, hr.2.1⟩) hrec) (by omega) (fun r u4 hr => ?_)
        obtain ⟨rfl, F4⟩ := hr
        have hv99 := hg99 (a_put w b c)
        refine zb_Model_goCity_88 rfl (mc_put (by decide) (by omega) _ _ _) (by omega) (fun u5 h5 => ?_)
        refine zb_Model_goCity_104 rfl ?_
        rw [zn_max (by omega) (by omega), nI_add]
        have em : (if p_cc (tE K T) s (p_v (tE K T) s n true) w b a c < p_v (tE K T) s n true (a_put w b c) then p_v (tE K T) s n true (a_put w b c) else p_cc (tE K T) s (p_v (tE K T) s n true) w b a c) = max (p_cc (tE K T) s (p_v (tE K T) s n true) w b a c) (p_v (tE K T) s n true (a_put w b c)) := by split <;> omega
        rw [em]
        refine kk2 u5 (hF.tr (F2'.tr ?_))
        rw [h5]
        exact m_back3 F4 (by rw [R2.fw hb, hk.1])
      · have hk : ¬ p_ok (tE K T) s w b c = true := fun q => z (hok.mpr q)
        rw [if_neg hk] at kk2
        refine zb_Model_goCity_47 rfl (zb_Model_goCity_104 rfl ?_)
        rw [nI_add]
        exact kk2 u2 (hF.tr F2')
    · have Ru := hR.keepX hF (by unfold m_sK; omega) (by unfold bO; omega) (by unfold bO; omega) (by decide)
      refine zb_Model_goCity_26 rfl (fun _ => ?_) (fun z => absurd (by rw [Ru.2.1.2.1]; exact Int32.le_refl _) z)
      refine zb_Model_goCity_110 rfl ?_
      rw [nI_add]
      exact kk u hF
  · have Ru := hR.keepX hF (by unfold m_sK; omega) (by unfold bO; omega) (by unfold bO; omega) (by decide)
    refine zb_Model_goCity_14 rfl (fun _ => ?_) (fun z => absurd (by rw [Ru.2.1.1]; exact Int32.le_refl _) z)
    refine zb_Model_goCity_116 ?_
    rw [he]
    exact ⟨_, rfl, rfl, hF⟩
theorem mc_play : ∀ n, mpC s K T n
  | 0 => by
    intro t w τ h4 hR hM
    refine z_Ci_of (by decide) (Nat.le_of_ble_eq_true rfl) (fun Γ hd he => ?_)
    show z_J Γ zm_Model_goPlay 0 [some (.inr 63), some (.inr 78), some (.inl (nI t)), some (.inl (nI (t + 0)))] [] τ
    refine zb_Model_goPlay_0 rfl (fun z => absurd rfl z) (fun _ => ?_)
    refine zb_Model_goPlay_5 rfl (mc_lh hR (by decide)) (by omega) (fun r u hr => ?_)
    obtain ⟨rfl, rfl⟩ := hr
    refine zb_Model_goPlay_10 ?_
    rw [he]
    exact ⟨_, rfl, rfl, mX.rf, fun m e => absurd e (by omega)⟩
  | n + 1 => by
    have ih : mpC s K T n := mc_play n
    intro t w τ h4 hR hM
    refine z_Ci_of (by decide) (Nat.le_of_ble_eq_true rfl) (fun Γ hd he => ?_)
    show z_J Γ zm_Model_goPlay 0 [some (.inr 63), some (.inr 78), some (.inl (nI t)), some (.inl (nI (t + (n + 1))))] [] τ
    refine zb_Model_goPlay_0 rfl (fun _ => ?_) (fun z => absurd ((zn_eq (by omega) (by omega)).mp z) (by omega))
    refine zb_Model_goPlay_11 rfl (fun z => ?_) (fun z => ?_)
    · rw [zn_par t (by omega)] at z
      refine zb_Model_goPlay_27 rfl (mc_city ih h4 z hR hM) (by omega) (fun r u hr => ?_)
      obtain ⟨rfl, r2⟩ := hr
      refine zb_Model_goPlay_34 ?_
      rw [he]
      exact ⟨_, rfl, by rw [decide_eq_false z], r2, fun m _ q => absurd q z⟩
    · rw [zn_par t (by omega)] at z
      refine zb_Model_goPlay_17 rfl (mc_enemy ih h4 z hR hM) (by omega) (fun r u hr => ?_)
      obtain ⟨rfl, r2, r3⟩ := hr
      refine zb_Model_goPlay_24 (zb_Model_goPlay_34 ?_)
      rw [he]
      refine ⟨_, rfl, by rw [decide_eq_true z], r2, fun m e _ => ?_⟩
      have : n = m := by omega
      subst this
      exact r3
end
def to_play (x : tX) (a : Int32) : Int32 × tX := if nI 1 ≤ a ∧ a ≤ nI 4 then (if (b_S (x_s x) (x_v x) 0).length ≤ 4 then (nI (p_v (x_E x) (x_s x) a.toNatClampNeg true (x_v x)), x_row x [p_t (p_en (p_v (x_E x) (x_s x) (a.toNatClampNeg - 1) false) (x_v x) (s_c (x_s x)))]) else (-3, x)) else (-1, x)
theorem mp_play {x : tX} {σ : zS} (h : mA x σ) (a : Int32) : z_Ci 356 zm_Model_play [.inr 63, .inl a] σ (fun r u => r = (to_play x a).1 ∧ mA (to_play x a).2 u ∧ zU σ u) := by
  have h0 := m_t0 h
  have hn := h.1.n
  have hS := b_S_bc (s := x_s x) (v := x_v x) (w := 0) hn
  have hle := n_bc_le (a_bw (x_v x) 0 (s_n (x_s x)))
  refine z_Ci_of (by decide) (Nat.le_of_ble_eq_true rfl) (fun Γ hd he => ?_)
  show z_J Γ zm_Model_play 0 [some (.inr 63), some (.inl a), none] [] σ
  refine zb_Model_play_0 (mc_in _ _ _ _) (by omega) (fun r u hr => ?_)
  obtain ⟨rfl, rfl⟩ := hr
  refine zb_Model_play_11 (fun k => ?_) (fun k => ?_)
  rotate_left
  · rw [z_tf_eq0] at k
    refine zb_Model_play_14 ?_
    rw [he, to_play, if_neg (fun q => by simp [q.1, q.2] at k)]
    exact ⟨_, rfl, rfl, h0, mW.zU m_t0W⟩
  rw [z_tf_eq0, Bool.not_eq_false, Bool.and_eq_true, decide_eq_true_eq, decide_eq_true_eq] at k
  obtain ⟨n, hn1, hn4, rfl⟩ := zn_btw (Int32.not_lt.mpr k.1) k.2 (by decide)
  rw [to_play, if_pos k, nI_clamp (by omega)] at he
  refine zb_Model_play_16 (mc_whereBits h0.1.nb (by decide) (v := x_v x) (w := 0) (fun b hb => ⟨h0.1.w3 b, h0.1.fw hb⟩) (by decide)) (by omega) (fun r u hr => ?_)
  obtain ⟨rfl, rfl⟩ := hr
  refine zb_Model_play_25 (by omega) (fun z => ?_) (fun z => ?_)
  rotate_left
  · rw [zn_bc _ (a_bw_12 hn), zn_le (by unfold n_bc at hle; omega) (by omega)] at z
    have z' : ¬ (b_S (x_s x) (x_v x) 0).length ≤ 4 := by rw [← hS]; exact z
    refine zb_Model_play_32 ?_
    rw [he, if_neg z']
    exact ⟨_, rfl, rfl, h0, mW.zU m_t0W⟩
  rw [zn_bc _ (a_bw_12 hn), zn_le (by unfold n_bc at hle; omega) (by omega)] at z
  have z' : (b_S (x_s x) (x_v x) 0).length ≤ 4 := by rw [← hS]; exact z
  rw [if_pos z'] at he
  refine zb_Model_play_35 (mc_copy (a0 := 64) (a1 := 78) (n1 := 53) (k := 0) (by decide) (by decide) (by decide) (by decide) (by decide)) (by omega) (fun u2 h2 => ?_)
  obtain ⟨p1, -, p3⟩ := h2
  obtain ⟨f1, R2, U2⟩ := m_cp78 h0 p1 p3
  have hg := mc_play (s := x_s x) (K := x_K x) (T := x_T x) n 0 (x_v x) u2 (by omega) R2 U2
  rw [Nat.zero_add] at hg
  refine zb_Model_play_47 hg (by omega) (fun r u3 hr => ?_)
  obtain ⟨rfl, F3, T3⟩ := hr
  have e39 := T3 (n - 1) (by omega) rfl
  refine zb_Model_play_57 (mc_tell mRow.nil (by decide) _) (by omega) (fun u6 h6 => ?_)
  obtain ⟨r1, r2⟩ := h6
  rw [z_pI_ne2 (by decide), e39] at r1
  refine zb_Model_play_71 ?_
  rw [he]
  exact ⟨_, rfl, rfl, h.row (mQ.t0.tr ((mQ.of f1).tr ((mQ.of (F3.mono (by unfold bO m_sO; omega) (fun _ q => q))).tr (mQ.r0.tr (mQ.tl r2))))) r1⟩
