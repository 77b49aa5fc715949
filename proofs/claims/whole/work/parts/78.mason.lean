/-! the program: what can be reached at most -/
theorem zn_d99 : ∀ a, a < 100 → ∀ b, b < 37 → ((0 < nI a - nI b) ↔ b < a) := by decide +kernel
theorem zn_dv : ∀ t, t < 10 → t ≠ 0 → ∀ a, a < 110 → nI a / nI t = nI (a / t) := by decide +kernel
theorem zn_dn7 : ∀ i, i < 7 → nI i + (-1) = if i = 0 then (-1 : Int32) else nI (i - 1) := by decide +kernel
def b_lk (s : aS) (h : Nat) (P : bP) : Nat → Nat
  | 0 => 0
  | c + 1 => b_lk s h P c + (h - b_hg s P c)
def b_cl (s : aS) (h tk : Nat) (P : bP) (c : Nat) : Nat := (h - b_hg s P c + tk - 1) / tk
def b_nd (s : aS) (h tk : Nat) (P : bP) : Nat → Nat
  | 0 => 0
  | c + 1 => b_nd s h tk P c + b_cl s h tk P c
theorem b_lk_le (s : aS) (h : Nat) (P : bP) : ∀ c, b_lk s h P c ≤ h * c
  | 0 => Nat.zero_le _
  | c + 1 => by
    have := b_lk_le s h P c
    rw [b_lk, Nat.mul_succ]
    omega
theorem b_cl_le (s : aS) {h tk : Nat} (P : bP) (c : Nat) (h99 : h ≤ 99) (h9 : tk ≤ 9) : b_cl s h tk P c ≤ 107 := by
  have := Nat.div_le_self (h - b_hg s P c + tk - 1) tk
  unfold b_cl
  omega
theorem b_nd_le (s : aS) {h tk : Nat} (P : bP) (h99 : h ≤ 99) (h9 : tk ≤ 9) : ∀ c, b_nd s h tk P c ≤ 107 * c
  | 0 => Nat.zero_le _
  | c + 1 => by
    have := b_nd_le s P h99 h9 c
    have := b_cl_le s P c h99 h9
    rw [b_nd, Nat.mul_succ]
    omega
theorem b_cl_cn {x tk n : Nat} (h1 : 1 ≤ tk) (h : x ≤ tk * n) : (x + tk - 1) / tk ≤ n := by
  refine Nat.le_of_lt_succ ((Nat.div_lt_iff_lt_mul (by omega)).mpr ?_)
  rw [Nat.succ_mul, Nat.mul_comm n tk]
  omega
theorem b_mt_none {f : Nat → Nat} : ∀ {bs : List Nat} {n : Nat}, bs.length < n → b_mt f bs n = none
  | _, 0, h => absurd h (by omega)
  | [], _ + 1, _ => rfl
  | b :: r, j + 1, h => by
    have h' : r.length < j := by simpa using h
    rw [b_mt, b_mt_none h', b_mt_none (show r.length < j + 1 by omega)]
theorem b_mt_some {f : Nat → Nat} : ∀ {bs : List Nat} {n : Nat}, n ≤ bs.length → ∃ y, b_mt f bs n = some y
  | _, 0, h => ⟨0, by simp [b_mt]⟩
  | [], n + 1, h => absurd h (by simp)
  | b :: r, j + 1, h => by
    obtain ⟨y, e⟩ := b_mt_some (f := f) (bs := r) (n := j) (by simpa using h)
    rw [b_mt, e]
    cases b_mt f r (j + 1) with
    | none => exact ⟨_, rfl⟩
    | some z => exact ⟨_, rfl⟩
theorem b_mt_le {f : Nat → Nat} : ∀ {bs : List Nat} {n T : Nat}, (∀ b, b ∈ bs → f b ≤ 9) → b_mt f bs n = some T → T ≤ 9 * n
  | bs, 0, T, _, e => by
    have : b_mt f bs 0 = some 0 := by simp [b_mt]
    rw [this] at e
    simp only [Option.some.injEq] at e
    omega
  | [], n + 1, T, _, e => absurd e (by simp [b_mt])
  | b :: r, j + 1, T, hb, e => by
    rw [b_mt] at e
    have i1 := fun T => b_mt_le (f := f) (bs := r) (n := j) (T := T) (fun b hb' => hb b (by simp [hb']))
    have i2 := fun T => b_mt_le (f := f) (bs := r) (n := j + 1) (T := T) (fun b hb' => hb b (by simp [hb']))
    have hb0 := hb b (by simp)
    cases h1 : b_mt f r j with
    | none =>
      rw [h1] at e
      exact i2 T e
    | some y =>
      have := i1 y h1
      rw [h1] at e
      cases h2 : b_mt f r (j + 1) with
      | none =>
        rw [h2] at e
        simp only [Option.some.injEq] at e
        omega
      | some z =>
        have := i2 z h2
        rw [h2] at e
        simp only [Option.some.injEq] at e
        split at e <;> omega
/-- the mason has its stock -/
def bMs (s : aS) (h tk : Nat) (bs : List Nat) (τ : zS) : Prop := τ.1 26 2 = nI bs.length ∧ τ.1 26 3 = nI h ∧ τ.1 26 4 = nI tk ∧ (∀ i, i < bs.length → τ.1 28 i = nI (bs.getD i 0)) ∧ ∀ i n, i ≤ bs.length → n ≤ 6 → τ.1 29 (i * 7 + n) = w_I (b_mt (s_t s) (bs.drop i) n)
/-- the stock itself -/
def bSt (s : aS) (tk : Nat) (bs : List Nat) : Prop := bs.length ≤ 6 ∧ 1 ≤ tk ∧ tk ≤ 9 ∧ bs.Nodup ∧ ∀ b, b ∈ bs → b < s_n s ∧ s_t s b ≤ tk
section
variable {E : (Nat → Int32) → Int32} {s : aS} {dy h tk : Nat} {bs : List Nat} {w : aV} {τ : zS}
theorem b_va_th (hS : bSt s tk bs) {P : bP} {i : Nat} {t : bW} (hv : b_va E s dy P (bs.drop i) t) : ∀ x, x ∈ t → s_t s x.1 ≤ tk := fun x hx => by
  have h1 := (b_va_sub _ _ _ hv).subset (List.mem_map.mpr ⟨x, hx, rfl⟩)
  exact (hS.2.2.2.2 _ (List.mem_of_mem_drop h1)).2
theorem cc_canReach (hR : cR s w τ 43) (hM : bMs s h tk bs τ) (hS : bSt s tk bs) (h99 : h ≤ 99) {i m : Nat} (hi : i ≤ bs.length) (hm : m ≤ 6) : z_Ci 3 zm_Mason_canReach [.inr 26, .inr 43, .inl (nI i), .inl (nI m)] τ (fun r u => ∃ q : Bool, r = z_tf q ∧ u = τ ∧ (q = true → m = 0 → b_gd s h (v_p w) = true) ∧ ∀ t, b_va E s dy (v_p w) (bs.drop i) t → b_gd s h (b_fl (v_p w) t) = true → t.length = m → q = true) := by
  obtain ⟨hl6, ht1, ht9, hnd, hbs⟩ := hS
  have hS : bSt s tk bs := ⟨hl6, ht1, ht9, hnd, hbs⟩
  have h6 := hR.c6
  refine z_Ci_of (by decide) (Nat.le_of_ble_eq_true rfl) (fun Γ hd he => ?_)
  show z_J Γ zm_Mason_canReach 0 [some (.inr 26), some (.inr 43), some (.inl (nI i)), some (.inl (nI m)), none, none, none, none, none] [] τ
  have key : ∀ t, b_va E s dy (v_p w) (bs.drop i) t → b_gd s h (b_fl (v_p w) t) = true → ∀ c, c < s_c s → h - b_hg s (v_p w) c ≤ b_tk s t c ∧ b_cl s h tk (v_p w) c ≤ b_cn t c ∧ (v_p w c).length + b_cn t c ≤ 4 := by
    intro t hv hg c hc
    obtain ⟨g1, g2⟩ := b_fl_hg t (v_p w) (bs.drop i) c hv
    have g3 := b_gd_iff.mp hg c hc
    have g4 := g2 hc (hR.1.l4 hc)
    have g5 := b_tk_le (s := s) (c := c) (b_va_th hS hv)
    have g6 : h - b_hg s (v_p w) c ≤ b_tk s t c := by omega
    exact ⟨g6, b_cl_cn ht1 (Nat.le_trans g6 g5), g4⟩
  refine zb_Mason_canReach_0 ?_
  refine zj_forS (b := s_c s) (fun c => [some (.inr 26), some (.inr 43), some (.inl (nI i)), some (.inl (nI m)), some (.inl (nI (b_lk s h (v_p w) c))), some (.inl (nI (b_nd s h tk (v_p w) c))), some (.inl (nI c)), none, none]) (fun _ u => u = τ) (fun c u hc hu kk => ?_) (fun u hu => ?_) 0 (Nat.zero_le _) _ rfl
  · subst hu
    refine zb_Mason_canReach_9 (fun z => ?_) (fun _ => ?_)
    · rw [hR.fc] at z
      exact absurd z (nI_ge hc (by omega))
    refine zb_Mason_canReach_18 (cc_heightOf z_c43 hR hc) (by omega) (fun r u2 hr => ?_)
    obtain ⟨rfl, rfl⟩ := hr
    have h36 : a_h s w c ≤ 36 := hR.1.h36 hc
    have eh : b_hg s (v_p w) c = a_h s w c := rfl
    have l1 := b_lk_le s h (v_p w) c
    have l2 := b_nd_le s (v_p w) h99 ht9 c
    have l3 := b_cl_le s (v_p w) c h99 ht9
    have l4 := hR.1.l4 hc
    have l5 : h * c ≤ 99 * 6 := Nat.mul_le_mul h99 (by omega)
    refine zb_Mason_canReach_28 (fun z => ?_) (fun z => ?_)
    · rw [hM.2.1, zn_d99 h (by omega) _ (by omega)] at z
      rw [hM.2.1, pk_sub (by omega)]
      have e1 : (nI (h - a_h s w c) + u2.1 26 4 - nI 1) / u2.1 26 4 = nI (b_cl s h tk (v_p w) c) := by
        rw [hM.2.2.1, nI_add, pk_sub (by omega), zn_dv tk (by omega) (by omega) _ (by omega)]
        rfl
      refine zb_Mason_canReach_39 (by rw [hM.2.2.1, show (0 : Int32) = nI 0 from rfl, zn_eq (by omega) (by omega)]; omega) (k1 := c) (z_ixn (by omega)) (fun z2 => ?_) (fun z2 => ?_)
      · rw [e1]
        refine zb_Mason_canReach_71 (zb_Mason_canReach_85 ?_)
        rw [nI_add, nI_add, nI_add]
        exact kk _ rfl
      · rw [e1, show u2.1 49 c = nI (v_p w c).length from hR.fM hc, pk_sub (by omega), zn_le (by omega) (by omega)] at z2
        refine zb_Mason_canReach_69 ?_
        rw [he]
        refine ⟨_, rfl, false, rfl, rfl, fun z => absurd z (by decide), fun t hv hg _ => ?_⟩
        have := key t hv hg c hc
        omega
    · rw [hM.2.1, zn_d99 h (by omega) _ (by omega)] at z
      refine zb_Mason_canReach_36 (zb_Mason_canReach_85 ?_)
      rw [nI_add]
      have e1 : b_lk s h (v_p w) (c + 1) = b_lk s h (v_p w) c := by
        rw [b_lk]
        omega
      have e2 : b_nd s h tk (v_p w) (c + 1) = b_nd s h tk (v_p w) c := by
        rw [b_nd]
        have : b_cl s h tk (v_p w) c = 0 := by
          unfold b_cl
          rw [show h - b_hg s (v_p w) c = 0 by omega]
          exact Nat.div_eq_of_lt (by omega)
        omega
      rw [e1, e2] at kk
      exact kk _ rfl
  · subst hu
    have l1 := b_lk_le s h (v_p w) (s_c s)
    have l2 := b_nd_le s (v_p w) h99 ht9 (s_c s)
    have l5 : h * s_c s ≤ 99 * 6 := Nat.mul_le_mul h99 (by omega)
    have sums : ∀ t, b_va E s dy (v_p w) (bs.drop i) t → b_gd s h (b_fl (v_p w) t) = true → ∀ c, c ≤ s_c s → b_lk s h (v_p w) c ≤ b_tu s t c ∧ b_nd s h tk (v_p w) c ≤ b_cu t c := by
      intro t hv hg c
      induction c with
      | zero => exact fun _ => ⟨Nat.le_refl _, Nat.le_refl _⟩
      | succ c ih =>
        intro hc
        have := ih (by omega)
        have := key t hv hg c (by omega)
        rw [b_lk, b_tu, b_nd, b_cu]
        omega
    refine zb_Mason_canReach_9 (fun _ => ?_) (fun z => absurd (by rw [hR.fc]; exact Int32.le_refl _) z)
    refine zb_Mason_canReach_91 (fun z => ?_) (fun z => ?_)
    · rw [zn_lt (by omega) (by omega)] at z
      refine zb_Mason_canReach_117 (zb_Mason_canReach_118 ?_ (Or.inl rfl))
      rw [he]
      refine ⟨_, rfl, false, rfl, rfl, fun z => absurd z (by decide), fun t hv hg ht => ?_⟩
      have := sums t hv hg (s_c s) (Nat.le_refl _)
      have := b_cu_all t (s_c s)
      omega
    rw [zn_lt (by omega) (by omega)] at z
    have hmt := hM.2.2.2.2 i m hi hm
    refine zb_Mason_canReach_97 (k1 := i * 7 + m) ⟨by rw [pk_mul, nI_add], by omega⟩ (fun z2 => ?_) (fun z2 => ?_)
    · rw [hmt] at z2
      refine zb_Mason_canReach_117 (zb_Mason_canReach_118 ?_ (Or.inl rfl))
      rw [he]
      refine ⟨_, rfl, false, rfl, rfl, fun z => absurd z (by decide), fun t hv hg ht => ?_⟩
      have s1 := sums t hv hg (s_c s) (Nat.le_refl _)
      have s2 := b_tu_all (s := s) t (s_c s)
      obtain ⟨T, e1, e2⟩ := b_mt_ge (f := s_t s) (b_va_sub _ _ _ hv)
      rw [List.length_map, ht] at e1
      rw [List.map_map] at e2
      have e2' : (t.map (fun x => s_t s x.1)).sum ≤ T := e2
      have e3 := b_mt_le (fun b hb => by have := (hbs b (List.mem_of_mem_drop hb)).2; omega) e1
      rw [e1] at z2
      have z3 : nI T < nI (b_lk s h (v_p w) (s_c s)) := z2
      rw [zn_lt (by omega) (by omega)] at z3
      omega
    · rw [hmt] at z2
      refine zb_Mason_canReach_113 (zb_Mason_canReach_118 ?_ (Or.inr rfl))
      rw [he]
      refine ⟨_, rfl, true, rfl, rfl, fun _ hm0 => ?_, fun _ _ _ _ => rfl⟩
      subst hm0
      rw [show b_mt (s_t s) (bs.drop i) 0 = some 0 by simp [b_mt]] at z2
      have z3 : ¬ nI 0 < nI (b_lk s h (v_p w) (s_c s)) := z2
      rw [zn_lt (by omega) (by omega)] at z3
      rw [b_gd_iff]
      have : ∀ n c, c < n → h - b_hg s (v_p w) c ≤ b_lk s h (v_p w) n := by
        intro n
        induction n with
        | zero => intro c hc; omega
        | succ n ih =>
          intro c hc
          rw [b_lk]
          rcases Nat.lt_or_eq_of_le (Nat.le_of_lt_succ hc) with q | q
          · have := ih c q; omega
          · subst q; omega
      intro c hc
      have := this (s_c s) c hc
      omega
end
