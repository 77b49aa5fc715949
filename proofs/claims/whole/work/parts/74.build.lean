/-! laying for a height: the first of the shortest ways -/
abbrev bP : Type := Nat → List Nat
abbrev bW : Type := List (Nat × Nat)
def b_al (E : (Nat → Int32) → Int32) (s : aS) (dy : Nat) (P : bP) (b c : Nat) : Bool := decide ((P c).length ≠ 4) && l_ho E s dy c (P c ++ [b])
def b_ly (P : bP) (b c : Nat) : bP := a_upl P c (P c ++ [b])
abbrev b_hg (s : aS) (P : bP) (c : Nat) : Nat := l_h (s_t s) (P c)
def b_gd (s : aS) (h : Nat) (P : bP) : Bool := (List.range (s_c s)).all (fun c => decide (h ≤ b_hg s P c))
def b_bet (o o' : Option bW) : Option bW := match o' with
  | none => o
  | some t' => match o with
    | none => some t'
    | some t => if t'.length < t.length then some t' else some t
/-- what can be laid next: book, column, the books behind it -/
def b_ch (n : Nat) : List Nat → List (Nat × Nat × List Nat)
  | [] => []
  | b :: r => (List.range n).map (fun c => (b, c, r)) ++ b_ch n r
def b_rm (n b : Nat) (r : List Nat) (c : Nat) : List (Nat × Nat × List Nat) := ((List.range n).drop c).map (fun c => (b, c, r)) ++ b_ch n r
theorem b_rm_0 (n b : Nat) (r : List Nat) : b_ch n (b :: r) = b_rm n b r 0 := by simp [b_ch, b_rm]
theorem b_rm_n (n b : Nat) (r : List Nat) : b_rm n b r n = b_ch n r := by
  unfold b_rm
  rw [List.drop_of_length_le (by simp)]
  rfl
theorem b_rm_s {n b c : Nat} {r : List Nat} (h : c < n) : b_rm n b r c = (b, c, r) :: b_rm n b r (c + 1) := by
  unfold b_rm
  rw [List.drop_eq_getElem_cons (by simpa using h)]
  simp
theorem b_ch_mem {n : Nat} : ∀ {bs : List Nat} {x : Nat × Nat × List Nat}, x ∈ b_ch n bs ↔ x.2.1 < n ∧ ∃ pre, bs = pre ++ x.1 :: x.2.2
  | [], x => by simp [b_ch]
  | b :: r, x => by
    rw [b_ch, List.mem_append, List.mem_map, b_ch_mem]
    constructor
    · rintro (⟨c, hc, rfl⟩ | ⟨h1, pre, h2⟩)
      · exact ⟨List.mem_range.mp hc, [], rfl⟩
      · exact ⟨h1, b :: pre, by rw [h2]; rfl⟩
    · rintro ⟨h1, pre, h2⟩
      cases pre with
      | nil =>
        simp only [List.nil_append, List.cons.injEq] at h2
        obtain ⟨e1, e2⟩ := h2
        refine Or.inl ⟨x.2.1, List.mem_range.mpr h1, ?_⟩
        rw [e1, e2]
      | cons y p =>
        simp only [List.cons_append, List.cons.injEq] at h2
        exact Or.inr ⟨h1, p, h2.2⟩
def b_cd (E : (Nat → Int32) → Int32) (s : aS) (dy : Nat) (P : bP) (f : bP → List Nat → Option bW) (x : Nat × Nat × List Nat) : Option bW := if b_al E s dy P x.1 x.2.1 = true then (f (b_ly P x.1 x.2.1) x.2.2).map (List.cons (x.1, x.2.1)) else none
def b_bst (E : (Nat → Int32) → Int32) (s : aS) (dy h : Nat) : Nat → bP → List Nat → Option bW
  | 0, P, _ => if b_gd s h P = true then some [] else none
  | n + 1, P, bs => if b_gd s h P = true then some [] else (b_ch (s_c s) bs).foldl (fun o x => b_bet o (b_cd E s dy P (b_bst E s dy h n) x)) none
theorem b_bet_c (o o' : Option bW) : (b_bet o o' = o ∨ b_bet o o' = o') ∧ (∀ t, o = some t → ∃ t1, b_bet o o' = some t1 ∧ t1.length ≤ t.length) ∧ ∀ t, o' = some t → ∃ t1, b_bet o o' = some t1 ∧ t1.length ≤ t.length := by
  cases o' with
  | none => exact ⟨Or.inl rfl, fun t ht => ⟨t, ht, Nat.le_refl _⟩, fun t ht => absurd ht (by simp)⟩
  | some t' =>
    cases o with
    | none => exact ⟨Or.inr rfl, fun t ht => absurd ht (by simp), fun t ht => ⟨t, ht, Nat.le_refl _⟩⟩
    | some t0 =>
      show ((if t'.length < t0.length then some t' else some t0) = some t0 ∨ (if t'.length < t0.length then some t' else some t0) = some t') ∧ (∀ t, some t0 = some t → ∃ t1, (if t'.length < t0.length then some t' else some t0) = some t1 ∧ t1.length ≤ t.length) ∧ ∀ t, some t' = some t → ∃ t1, (if t'.length < t0.length then some t' else some t0) = some t1 ∧ t1.length ≤ t.length
      by_cases q : t'.length < t0.length
      · rw [if_pos q]
        refine ⟨Or.inr rfl, fun t ht => ⟨t', rfl, ?_⟩, fun t ht => ⟨t', rfl, ?_⟩⟩
        · simp only [Option.some.injEq] at ht; subst ht; omega
        · simp only [Option.some.injEq] at ht; subst ht; omega
      · rw [if_neg q]
        refine ⟨Or.inl rfl, fun t ht => ⟨t0, rfl, ?_⟩, fun t ht => ⟨t0, rfl, ?_⟩⟩
        · simp only [Option.some.injEq] at ht; subst ht; omega
        · simp only [Option.some.injEq] at ht; subst ht; omega
theorem b_F1 {cd : Nat × Nat × List Nat → Option bW} : ∀ (l : List (Nat × Nat × List Nat)) (o : Option bW) (t : bW), l.foldl (fun o x => b_bet o (cd x)) o = some t → o = some t ∨ ∃ x, x ∈ l ∧ cd x = some t
  | [], o, t, h => Or.inl h
  | x :: l, o, t, h => by
    rw [List.foldl_cons] at h
    rcases b_F1 l _ t h with z | ⟨y, y1, y2⟩
    · rcases (b_bet_c o (cd x)).1 with q | q
      · rw [q] at z; exact Or.inl z
      · rw [q] at z; exact Or.inr ⟨x, by simp, z⟩
    · exact Or.inr ⟨y, by simp [y1], y2⟩
theorem b_F2 {cd : Nat × Nat × List Nat → Option bW} : ∀ (l : List (Nat × Nat × List Nat)) (o : Option bW) (t0 : bW), (o = some t0 ∨ ∃ x, x ∈ l ∧ cd x = some t0) → ∃ t, l.foldl (fun o x => b_bet o (cd x)) o = some t ∧ t.length ≤ t0.length
  | [], o, t0, h => by
    rcases h with h | ⟨x, hx, -⟩
    · exact ⟨t0, h, Nat.le_refl _⟩
    · exact absurd hx (by simp)
  | x :: l, o, t0, h => by
    rw [List.foldl_cons]
    rcases h with h | ⟨y, hy, h2⟩
    · obtain ⟨t1, e1, l1⟩ := (b_bet_c o (cd x)).2.1 t0 h
      obtain ⟨t2, e2, l2⟩ := b_F2 l _ t1 (Or.inl e1)
      exact ⟨t2, e2, by omega⟩
    · rcases List.mem_cons.mp hy with z | z
      · subst z
        obtain ⟨t1, e1, l1⟩ := (b_bet_c o (cd y)).2.2 t0 h2
        obtain ⟨t2, e2, l2⟩ := b_F2 l _ t1 (Or.inl e1)
        exact ⟨t2, e2, by omega⟩
      · exact b_F2 l _ t0 (Or.inr ⟨y, z, h2⟩)
theorem b_F4 {cd : Nat × Nat × List Nat → Option bW} {t : bW} : ∀ (l : List (Nat × Nat × List Nat)), (∀ x, x ∈ l → ∀ t', cd x = some t' → t.length ≤ t'.length) → l.foldl (fun o x => b_bet o (cd x)) (some t) = some t
  | [], _ => rfl
  | x :: l, h => by
    rw [List.foldl_cons]
    have e : b_bet (some t) (cd x) = some t := by
      cases hc : cd x with
      | none => rfl
      | some t' =>
        have := h x (by simp) t' hc
        show (if t'.length < t.length then some t' else some t) = some t
        rw [if_neg (by omega)]
    rw [e]
    exact b_F4 l (fun y hy => h y (by simp [hy]))
section
variable {E : (Nat → Int32) → Int32} {s : aS} {dy h : Nat}
/-- ways that can be gone -/
def b_va (E : (Nat → Int32) → Int32) (s : aS) (dy : Nat) : bP → List Nat → bW → Prop
  | _, _, [] => True
  | P, bs, x :: t => ∃ pre r, bs = pre ++ x.1 :: r ∧ x.2 < s_c s ∧ b_al E s dy P x.1 x.2 = true ∧ b_va E s dy (b_ly P x.1 x.2) r t
def b_fl : bP → bW → bP
  | P, [] => P
  | P, x :: t => b_fl (b_ly P x.1 x.2) t
theorem b_bst_ok : ∀ n P bs t, b_bst E s dy h n P bs = some t → b_va E s dy P bs t ∧ b_gd s h (b_fl P t) = true
  | 0, P, bs, t, ht => by
    rw [b_bst] at ht
    split at ht
    · rename_i q
      simp only [Option.some.injEq] at ht
      subst ht
      exact ⟨trivial, q⟩
    · exact absurd ht (by simp)
  | n + 1, P, bs, t, ht => by
    rw [b_bst] at ht
    split at ht
    · rename_i q
      simp only [Option.some.injEq] at ht
      subst ht
      exact ⟨trivial, q⟩
    · rcases b_F1 _ _ _ ht with z | ⟨x, hx, hc⟩
      · exact absurd z (by simp)
      · unfold b_cd at hc
        split at hc
        · rename_i qa
          cases hb : b_bst E s dy h n (b_ly P x.1 x.2.1) x.2.2 with
          | none => rw [hb] at hc; exact absurd hc (by simp)
          | some t1 =>
            rw [hb] at hc
            simp only [Option.map_some, Option.some.injEq] at hc
            subst hc
            obtain ⟨i1, i2⟩ := b_bst_ok n _ _ t1 hb
            obtain ⟨m1, pre, m2⟩ := b_ch_mem.mp hx
            exact ⟨⟨pre, x.2.2, m2, m1, qa, i1⟩, i2⟩
        · exact absurd hc (by simp)
theorem b_bst_min : ∀ n P bs t, bs.length ≤ n → b_va E s dy P bs t → b_gd s h (b_fl P t) = true → ∃ t0, b_bst E s dy h n P bs = some t0 ∧ t0.length ≤ t.length
  | n, P, bs, [], hn, hv, hg => by
    refine ⟨[], ?_, Nat.le_refl _⟩
    have hg' : b_gd s h P = true := hg
    cases n with
    | zero => rw [b_bst, if_pos hg']
    | succ n => rw [b_bst, if_pos hg']
  | 0, P, bs, x :: t, hn, hv, hg => by
    obtain ⟨pre, r, e, -⟩ := hv
    rw [e] at hn
    simp at hn
  | n + 1, P, bs, x :: t, hn, hv, hg => by
    obtain ⟨pre, r, e, hc, ha, hv2⟩ := hv
    rw [b_bst]
    by_cases q : b_gd s h P = true
    · rw [if_pos q]
      exact ⟨[], rfl, by simp⟩
    · rw [if_neg q]
      obtain ⟨t1, e1, l1⟩ := b_bst_min n (b_ly P x.1 x.2) r t (by rw [e] at hn; simp at hn; omega) hv2 hg
      have hcd : b_cd E s dy P (b_bst E s dy h n) (x.1, x.2, r) = some (x :: t1) := by
        unfold b_cd
        rw [if_pos (by exact ha)]
        show Option.map (List.cons (x.1, x.2)) (b_bst E s dy h n (b_ly P x.1 x.2) r) = _
        rw [e1]
        rfl
      obtain ⟨t2, e2, l2⟩ := b_F2 (cd := b_cd E s dy P (b_bst E s dy h n)) (b_ch (s_c s) bs) none (x :: t1) (Or.inr ⟨(x.1, x.2, r), b_ch_mem.mpr ⟨hc, pre, e⟩, hcd⟩)
      exact ⟨t2, e2, by simp at l2 ⊢; omega⟩
theorem b_va_app {P : bP} {bs pre : List Nat} {t : bW} (hv : b_va E s dy P bs t) : b_va E s dy P (pre ++ bs) t := by
  cases t with
  | nil => trivial
  | cons x t =>
    obtain ⟨p, r, e, h2⟩ := hv
    exact ⟨pre ++ p, r, by rw [e, List.append_assoc], h2⟩
/-- a column that is high enough needs no more -/
theorem b_skip {c0 : Nat} : ∀ (t : bW) (P Q : bP) (bs : List Nat), (∀ c, c ≠ c0 → Q c = P c) → b_va E s dy Q bs t → ∃ t', b_va E s dy P bs t' ∧ t'.length ≤ t.length ∧ (∀ c, c ≠ c0 → b_fl P t' c = b_fl Q t c) ∧ b_fl P t' c0 = P c0
  | [], P, Q, bs, hPQ, hv => ⟨[], trivial, Nat.le_refl _, fun c hc => (hPQ c hc).symm, rfl⟩
  | x :: t, P, Q, bs, hPQ, hv => by
    obtain ⟨pre, r, e, hc, ha, hv2⟩ := hv
    by_cases q : x.2 = c0
    · obtain ⟨t', g1, g2, g3, g4⟩ := b_skip t P (b_ly Q x.1 x.2) r (fun c hc => by
        show a_upl Q x.2 _ c = P c
        unfold a_upl
        rw [if_neg (by rw [q]; exact hc)]
        exact hPQ c hc) hv2
      refine ⟨t', ?_, by simp; omega, g3, g4⟩
      rw [e, show pre ++ x.1 :: r = (pre ++ [x.1]) ++ r by simp]
      exact b_va_app g1
    · have eq2 : Q x.2 = P x.2 := hPQ _ q
      obtain ⟨t', g1, g2, g3, g4⟩ := b_skip t (b_ly P x.1 x.2) (b_ly Q x.1 x.2) r (fun c hc => by
        show a_upl Q x.2 _ c = a_upl P x.2 _ c
        unfold a_upl
        rw [eq2]
        by_cases z : c = x.2
        · rw [if_pos z, if_pos z]
        · rw [if_neg z, if_neg z]
          exact hPQ c hc) hv2
      refine ⟨x :: t', ⟨pre, r, e, hc, ?_, g1⟩, by simp; omega, g3, ?_⟩
      · unfold b_al at ha ⊢
        rw [eq2] at ha
        exact ha
      · show b_fl (b_ly P x.1 x.2) t' c0 = P c0
        rw [g4]
        show a_upl P x.2 _ c0 = P c0
        unfold a_upl
        rw [if_neg (fun z => q z.symm)]
theorem b_gd_iff {P : bP} : b_gd s h P = true ↔ ∀ c, c < s_c s → h ≤ b_hg s P c := by
  unfold b_gd
  rw [List.all_eq_true]
  constructor
  · intro z c hc
    exact of_decide_eq_true (z c (List.mem_range.mpr hc))
  · intro z c hc
    exact decide_eq_true (z c (List.mem_range.mp hc))
/-- no way is shorter than m -/
def b_NS (E : (Nat → Int32) → Int32) (s : aS) (dy h : Nat) (P : bP) (bs : List Nat) (m : Nat) : Prop := ∀ t, b_va E s dy P bs t → b_gd s h (b_fl P t) = true → m ≤ t.length
theorem b_NS.child {P : bP} {bs pre r : List Nat} {b c m : Nat} (hN : b_NS E s dy h P bs (m + 1)) (e : bs = pre ++ b :: r) (hc : c < s_c s) (ha : b_al E s dy P b c = true) : b_NS E s dy h (b_ly P b c) r m := fun t hv hg => by
  have := hN ((b, c) :: t) ⟨pre, r, e, hc, ha, hv⟩ hg
  simp at this
  omega
theorem b_NS.high {P : bP} {bs pre r : List Nat} {b c m : Nat} (hN : b_NS E s dy h P bs (m + 1)) (e : bs = pre ++ b :: r) (hh : h ≤ b_hg s P c) {t : bW} (hv : b_va E s dy (b_ly P b c) r t) (hg : b_gd s h (b_fl (b_ly P b c) t) = true) : m + 1 ≤ t.length := by
  obtain ⟨t', g1, g2, g3, g4⟩ := b_skip t P (b_ly P b c) r (c0 := c) (fun c' hc' => by
    show a_upl P c _ c' = P c'
    unfold a_upl
    rw [if_neg hc']) hv
  have hv' : b_va E s dy P bs t' := by
    rw [e, show pre ++ b :: r = (pre ++ [b]) ++ r by simp]
    exact b_va_app g1
  have := hN t' hv' (by
    rw [b_gd_iff] at hg ⊢
    intro c' hc'
    by_cases z : c' = c
    · subst z
      show h ≤ l_h (s_t s) (b_fl P t' c')
      rw [g4]
      exact hh
    · show h ≤ l_h (s_t s) (b_fl P t' c')
      rw [g3 c' z]
      exact hg c' hc')
  omega
/-! what a way adds to the columns -/
def b_cn (t : bW) (c : Nat) : Nat := (t.filter (fun x => decide (x.2 = c))).length
def b_tk (s : aS) (t : bW) (c : Nat) : Nat := ((t.filter (fun x => decide (x.2 = c))).map (fun x => s_t s x.1)).sum
theorem l_h_app (f : Nat → Nat) (l : List Nat) (b : Nat) : l_h f (l ++ [b]) = l_h f l + f b := by
  rw [l_h_sum, l_h_sum]
  simp
theorem b_fl_hg : ∀ (t : bW) (P : bP) (bs : List Nat) (c : Nat), b_va E s dy P bs t → b_hg s (b_fl P t) c = b_hg s P c + b_tk s t c ∧ (c < s_c s → (P c).length ≤ 4 → (P c).length + b_cn t c ≤ 4)
  | [], P, bs, c, _ => ⟨by simp [b_fl, b_tk], fun _ h4 => by simp [b_cn]; exact h4⟩
  | x :: t, P, bs, c, hv => by
    obtain ⟨pre, r, e, hc, ha, hv2⟩ := hv
    obtain ⟨i1, i2⟩ := b_fl_hg t (b_ly P x.1 x.2) r c hv2
    unfold b_al at ha
    rw [Bool.and_eq_true, decide_eq_true_eq] at ha
    by_cases q : x.2 = c
    · have e1 : b_ly P x.1 x.2 c = P c ++ [x.1] := by
        show a_upl P x.2 _ c = _
        unfold a_upl
        rw [if_pos q.symm, q]
      have e2 : b_cn (x :: t) c = b_cn t c + 1 := by simp [b_cn, q]
      have e3 : b_tk s (x :: t) c = s_t s x.1 + b_tk s t c := by simp [b_tk, q]
      refine ⟨?_, fun hcc h4 => ?_⟩
      · show l_h (s_t s) (b_fl (b_ly P x.1 x.2) t c) = _
        have : l_h (s_t s) (b_fl (b_ly P x.1 x.2) t c) = l_h (s_t s) (b_ly P x.1 x.2 c) + b_tk s t c := i1
        rw [this, e1, l_h_app, e3]
        show l_h (s_t s) (P c) + s_t s x.1 + b_tk s t c = l_h (s_t s) (P c) + (s_t s x.1 + b_tk s t c)
        omega
      · have h5 := i2 hcc (by rw [e1]; simp; rw [q] at ha; omega)
        rw [e1] at h5
        simp at h5
        omega
    · have e1 : b_ly P x.1 x.2 c = P c := by
        show a_upl P x.2 _ c = _
        unfold a_upl
        rw [if_neg (fun z => q z.symm)]
      have e2 : b_cn (x :: t) c = b_cn t c := by simp [b_cn, q]
      have e3 : b_tk s (x :: t) c = b_tk s t c := by simp [b_tk, q]
      refine ⟨?_, fun hcc h4 => ?_⟩
      · show l_h (s_t s) (b_fl (b_ly P x.1 x.2) t c) = _
        have : l_h (s_t s) (b_fl (b_ly P x.1 x.2) t c) = l_h (s_t s) (b_ly P x.1 x.2 c) + b_tk s t c := i1
        rw [this, e1, e3]
      · have h5 := i2 hcc (by rw [e1]; exact h4)
        rw [e1] at h5
        omega
def b_cu (t : bW) : Nat → Nat
  | 0 => 0
  | c + 1 => b_cu t c + b_cn t c
def b_tu (s : aS) (t : bW) : Nat → Nat
  | 0 => 0
  | c + 1 => b_tu s t c + b_tk s t c
theorem b_cu_le : ∀ (t : bW) (c : Nat), b_cu t c ≤ (t.filter (fun x => decide (x.2 < c))).length
  | t, 0 => Nat.zero_le _
  | t, c + 1 => by
    have ih := b_cu_le t c
    rw [b_cu]
    have : (t.filter (fun x => decide (x.2 < c + 1))).length = (t.filter (fun x => decide (x.2 < c))).length + b_cn t c := by
      unfold b_cn
      clear ih
      induction t with
      | nil => rfl
      | cons x t ih =>
        simp only [List.filter_cons]
        rcases Nat.lt_trichotomy x.2 c with q | q | q
        · have h1 : x.2 < c + 1 := by omega
          have h2 : ¬ x.2 = c := by omega
          simp [q, h1, h2]
          omega
        · have h1 : x.2 < c + 1 := by omega
          have h2 : ¬ x.2 < c := by omega
          simp [q]
          omega
        · have h1 : ¬ x.2 < c + 1 := by omega
          have h2 : ¬ x.2 = c := by omega
          have h3 : ¬ x.2 < c := by omega
          simp [h1, h2, h3]
          omega
    omega
theorem b_cu_all (t : bW) (c : Nat) : b_cu t c ≤ t.length := Nat.le_trans (b_cu_le t c) (List.length_filter_le _ _)
theorem b_tu_le : ∀ (t : bW) (c : Nat), b_tu s t c ≤ ((t.filter (fun x => decide (x.2 < c))).map (fun x => s_t s x.1)).sum
  | t, 0 => Nat.zero_le _
  | t, c + 1 => by
    have ih := b_tu_le t c
    rw [b_tu]
    have : ((t.filter (fun x => decide (x.2 < c + 1))).map (fun x => s_t s x.1)).sum = ((t.filter (fun x => decide (x.2 < c))).map (fun x => s_t s x.1)).sum + b_tk s t c := by
      unfold b_tk
      clear ih
      induction t with
      | nil => rfl
      | cons x t ih =>
        simp only [List.filter_cons]
        rcases Nat.lt_trichotomy x.2 c with q | q | q
        · have h1 : x.2 < c + 1 := by omega
          have h2 : ¬ x.2 = c := by omega
          simp [q, h1, h2]
          omega
        · have h1 : x.2 < c + 1 := by omega
          have h2 : ¬ x.2 < c := by omega
          simp [q]
          omega
        · have h1 : ¬ x.2 < c + 1 := by omega
          have h2 : ¬ x.2 = c := by omega
          have h3 : ¬ x.2 < c := by omega
          simp [h1, h2, h3]
          omega
    omega
theorem l_sum_filter {α : Type} (f : α → Nat) (p : α → Bool) : ∀ l : List α, ((l.filter p).map f).sum ≤ (l.map f).sum
  | [] => Nat.le_refl _
  | x :: l => by
    have := l_sum_filter f p l
    rw [List.filter_cons]
    split
    · simp; omega
    · simp; omega
theorem b_tu_all (t : bW) (c : Nat) : b_tu s t c ≤ (t.map (fun x => s_t s x.1)).sum := Nat.le_trans (b_tu_le t c) (l_sum_filter _ _ _)
theorem b_tk_le {th : Nat} {t : bW} {c : Nat} (ht : ∀ x, x ∈ t → s_t s x.1 ≤ th) : b_tk s t c ≤ th * b_cn t c := by
  unfold b_tk b_cn
  have : ∀ l : bW, (∀ x, x ∈ l → s_t s x.1 ≤ th) → (l.map (fun x => s_t s x.1)).sum ≤ th * l.length := by
    intro l
    induction l with
    | nil => intro _; simp
    | cons x l ih =>
      intro hl
      have h1 := hl x (by simp)
      have h2 := ih (fun y hy => hl y (by simp [hy]))
      simp only [List.map_cons, List.sum_cons, List.length_cons, Nat.mul_succ]
      omega
  exact this _ (fun x hx => ht x (List.mem_filter.mp hx).1)
theorem b_va_sub : ∀ (t : bW) (P : bP) (bs : List Nat), b_va E s dy P bs t → (t.map Prod.fst).Sublist bs
  | [], P, bs, _ => List.nil_sublist _
  | x :: t, P, bs, hv => by
    obtain ⟨pre, r, e, hc, ha, hv2⟩ := hv
    have := b_va_sub t _ r hv2
    rw [e]
    exact List.Sublist.trans (List.Sublist.cons_cons x.1 this) (List.sublist_append_right pre (x.1 :: r))
/-- the most that so many books can add -/
def b_mt (f : Nat → Nat) : List Nat → Nat → Option Nat
  | _, 0 => some 0
  | [], _ + 1 => none
  | b :: r, j + 1 => match b_mt f r j with
    | none => b_mt f r (j + 1)
    | some y => match b_mt f r (j + 1) with
      | none => some (f b + y)
      | some z => some (if f b + y < z then z else f b + y)
theorem b_mt_ge {f : Nat → Nat} : ∀ {l bs : List Nat}, l.Sublist bs → ∃ T, b_mt f bs l.length = some T ∧ (l.map f).sum ≤ T := by
  intro l bs hs
  induction hs with
  | slnil => exact ⟨0, rfl, Nat.le_refl _⟩
  | cons b hs ih =>
    rename_i l1 l2
    obtain ⟨T, e1, e2⟩ := ih
    cases hl : l1 with
    | nil => exact ⟨0, by simp [b_mt], by simp⟩
    | cons y l' =>
      rw [hl] at e1 e2
      simp only [List.length_cons] at e1 ⊢
      rw [b_mt]
      cases h1 : b_mt f l2 l'.length with
      | none => exact ⟨T, e1, e2⟩
      | some w =>
        rw [e1]
        refine ⟨_, rfl, ?_⟩
        split <;> omega
  | cons_cons b hs ih =>
    rename_i l1 l2
    obtain ⟨T, e1, e2⟩ := ih
    simp only [List.length_cons, List.map_cons, List.sum_cons]
    rw [b_mt, e1]
    cases h1 : b_mt f l2 (l1.length + 1) with
    | none => exact ⟨_, rfl, by omega⟩
    | some z =>
      refine ⟨_, rfl, ?_⟩
      split <;> omega
end
