/-! sieges told as texts: acts, sign by sign -/
abbrev gA : Type := Nat × List Nat
abbrev gQ : Type := List gA × Option gA × Bool
/-- what comes next of an act: 1 a letter, 2 a digit, 3 a number, 0 nothing -/
def g_po (k n : Nat) : Nat := if k = 108 then (if n = 0 then 1 else if n = 1 then 2 else 0) else if k = 111 then (if n = 0 then 1 else if n = 1 then 2 else if n = 2 then 3 else 0) else if k = 114 then (if n = 0 then 1 else 0) else if k = 115 then (if n < 2 then 2 else 0) else (if n = 0 then 3 else 0)
abbrev g_kd (c : Nat) : Prop := c = 108 ∨ c = 111 ∨ c = 114 ∨ c = 115 ∨ c = 100
def g_ok (q : gQ) (c : Nat) : Bool := match q.2.1 with
  | none => decide (g_kd c)
  | some a => if g_po a.1 a.2.length = 1 then decide (97 ≤ c ∧ c < 109) else if g_po a.1 a.2.length = 2 ∨ g_po a.1 a.2.length = 3 then decide (48 ≤ c ∧ c < 58) else (decide (c = 59) || (q.2.2 && decide (48 ≤ c ∧ c < 58)))
def g_go (q : gQ) (c : Nat) : gQ := match q.2.1 with
  | none => (q.1, some (c, []), q.2.2)
  | some a => if g_po a.1 a.2.length = 1 then (q.1, some (a.1, a.2 ++ [c - 97]), false) else if g_po a.1 a.2.length = 2 then (q.1, some (a.1, a.2 ++ [c - 48]), false) else if g_po a.1 a.2.length = 3 then (q.1, some (a.1, a.2 ++ [c - 48]), true) else if c = 59 then (q.1 ++ [a], none, q.2.2) else (q.1, some (a.1, a.2.dropLast ++ [a.2.getD (a.2.length - 1) 0 * 10 + (c - 48)]), false)
def g_st (X : Nat → Nat) : Nat → gQ
  | 0 => ([], none, false)
  | i + 1 => g_go (g_st X i) (X i)
def g_okk (X : Nat → Nat) (i : Nat) : Bool := decide (i ≠ 60) && g_ok (g_st X i) (X i)
def g_fin (q : gQ) : Bool := match q.2.1 with
  | none => false
  | some a => decide (g_po a.1 a.2.length = 0)
def g_acts (q : gQ) : List gA := match q.2.1 with
  | none => q.1
  | some a => q.1 ++ [a]
abbrev g_b (x : tX) : Option Nat := sc_b (g_okk (x_X x)) (decide (x_L x = 0) || g_fin (g_st (x_X x) (x_L x))) (x_L x)
/-- what is true of a reading that has come to i -/
def g_aI (a : gA) : Prop := g_kd a.1 ∧ a.2.length ≤ 3 ∧ (∀ t, t < a.2.length → a.2.getD t 0 ≤ 99)
def gI (q : gQ) (i : Nat) : Prop := (∀ a, a ∈ q.1 → g_aI a ∧ g_po a.1 a.2.length = 0) ∧ (q.2.1 = none → 3 * q.1.length ≤ i) ∧ ∀ a, q.2.1 = some a → g_aI a ∧ 3 * q.1.length + 1 + a.2.length ≤ i ∧ (q.2.2 = true → a.2 ≠ [] → a.2.getD (a.2.length - 1) 0 ≤ 9)
theorem g_po0 (k : Nat) : ¬ g_po k 0 = 0 := by
  unfold g_po
  repeat' split
  all_goals omega
theorem g_po3 {k n : Nat} (h : ¬ g_po k n = 0) : n < 3 := by
  rcases Nat.lt_or_ge n 3 with q | q
  · exact q
  · exfalso
    apply h
    unfold g_po
    repeat' split
    all_goals omega
theorem g_pole (k n : Nat) : g_po k n ≤ 3 := by
  unfold g_po
  repeat' split
  all_goals omega
theorem l_app_getD {l : List Nat} {y t : Nat} : (l ++ [y]).getD t 0 = if t < l.length then l.getD t 0 else if t = l.length then y else 0 := by
  simp only [List.getD_eq_getElem?_getD]
  rcases Nat.lt_trichotomy t l.length with q | q | q
  · rw [if_pos q, List.getElem?_append_left q]
  · subst q
    rw [if_neg (by omega), if_pos rfl]
    simp
  · rw [if_neg (by omega), if_neg (by omega), List.getElem?_eq_none (by simp; omega)]
    rfl
theorem l_dl_getD {l : List Nat} {y t : Nat} (h : l ≠ []) : (l.dropLast ++ [y]).getD t 0 = if t < l.length - 1 then l.getD t 0 else if t = l.length - 1 then y else 0 := by
  rw [l_app_getD, List.length_dropLast]
  by_cases q : t < l.length - 1
  · rw [if_pos q, if_pos q]
    simp only [List.getD_eq_getElem?_getD, List.getElem?_dropLast, if_pos q]
  · rw [if_neg q, if_neg q]
theorem gI_go {q : gQ} {i c : Nat} (h : gI q i) (hok : g_ok q c = true) : gI (g_go q c) (i + 1) := by
  obtain ⟨D, cur, g⟩ := q
  obtain ⟨h1, h2, h3⟩ := h
  cases cur with
  | none =>
    have h2' : 3 * D.length ≤ i := h2 rfl
    refine ⟨h1, fun e => absurd e (by simp [g_go]), fun a ha => ?_⟩
    have hk : g_kd c := by
      have : decide (g_kd c) = true := hok
      exact of_decide_eq_true this
    simp only [g_go, Option.some.injEq] at ha
    subst ha
    refine ⟨⟨hk, by simp, fun t ht => absurd ht (by simp)⟩, ?_, fun _ e => absurd rfl e⟩
    show 3 * D.length + 1 + 0 ≤ i + 1
    omega
  | some a =>
    obtain ⟨⟨a1, a2, a3⟩, b2, b3⟩ := h3 a rfl
    have b2' : 3 * D.length + 1 + a.2.length ≤ i := b2
    have hpl := g_pole a.1 a.2.length
    have app : ∀ (y : Nat) (g' : Bool), y ≤ 99 → (g' = true → y ≤ 9) → ¬ g_po a.1 a.2.length = 0 → gI (D, some (a.1, a.2 ++ [y]), g') (i + 1) := by
      intro y g' hy hy9 hp
      have hl3 := g_po3 hp
      refine ⟨h1, fun e => absurd e (by simp), fun a' ha' => ?_⟩
      simp only [Option.some.injEq] at ha'
      subst ha'
      refine ⟨⟨a1, by simp; omega, fun t ht => ?_⟩, by simp; omega, fun e _ => ?_⟩
      · show (a.2 ++ [y]).getD t 0 ≤ 99
        rw [l_app_getD]
        split
        · exact a3 t (by assumption)
        · split <;> omega
      · show (a.2 ++ [y]).getD ((a.2 ++ [y]).length - 1) 0 ≤ 9
        rw [l_app_getD, if_neg (by simp), if_pos (by simp)]
        exact hy9 e
    by_cases p1 : g_po a.1 a.2.length = 1
    · have ho : 97 ≤ c ∧ c < 109 := by
        have : g_ok (D, some a, g) c = decide (97 ≤ c ∧ c < 109) := by simp only [g_ok, p1, if_true]
        rw [this] at hok
        exact of_decide_eq_true hok
      have e : g_go (D, some a, g) c = (D, some (a.1, a.2 ++ [c - 97]), false) := by simp only [g_go, p1, if_true]
      rw [e]
      exact app _ _ (by omega) (fun z => absurd z (by decide)) (by omega)
    by_cases p2 : g_po a.1 a.2.length = 2
    · have ho : 48 ≤ c ∧ c < 58 := by
        have : g_ok (D, some a, g) c = decide (48 ≤ c ∧ c < 58) := by simp [g_ok, p2]
        rw [this] at hok
        exact of_decide_eq_true hok
      have e : g_go (D, some a, g) c = (D, some (a.1, a.2 ++ [c - 48]), false) := by simp [g_go, p2]
      rw [e]
      exact app _ _ (by omega) (fun z => absurd z (by decide)) (by omega)
    by_cases p3 : g_po a.1 a.2.length = 3
    · have ho : 48 ≤ c ∧ c < 58 := by
        have : g_ok (D, some a, g) c = decide (48 ≤ c ∧ c < 58) := by simp [g_ok, p3]
        rw [this] at hok
        exact of_decide_eq_true hok
      have e : g_go (D, some a, g) c = (D, some (a.1, a.2 ++ [c - 48]), true) := by simp [g_go, p3]
      rw [e]
      exact app _ _ (by omega) (fun _ => by omega) (by omega)
    have p0 : g_po a.1 a.2.length = 0 := by omega
    have hne : a.2 ≠ [] := fun e => by
      rw [e] at p0
      exact g_po0 a.1 p0
    have hlen : 0 < a.2.length := List.length_pos_iff.mpr hne
    by_cases e59 : c = 59
    · have e : g_go (D, some a, g) c = (D ++ [a], none, g) := by simp [g_go, p0, e59]
      rw [e]
      refine ⟨fun a' ha' => ?_, fun _ => ?_, fun a' ha' => absurd ha' (by simp)⟩
      · rcases List.mem_append.mp ha' with z | z
        · exact h1 a' z
        · rw [List.mem_singleton.mp z]
          exact ⟨⟨a1, a2, a3⟩, p0⟩
      · simp
        omega
    · have ho : g = true ∧ 48 ≤ c ∧ c < 58 := by
        have : g_ok (D, some a, g) c = (g && decide (48 ≤ c ∧ c < 58)) := by simp [g_ok, p0, e59]
        rw [this, Bool.and_eq_true, decide_eq_true_eq] at hok
        exact hok
      have e : g_go (D, some a, g) c = (D, some (a.1, a.2.dropLast ++ [a.2.getD (a.2.length - 1) 0 * 10 + (c - 48)]), false) := by
        simp only [g_go, p0, e59]
        simp
      rw [e]
      refine ⟨h1, fun e => absurd e (by simp), fun a' ha' => ?_⟩
      simp only [Option.some.injEq] at ha'
      subst ha'
      have hb := b3 ho.1 hne
      refine ⟨⟨a1, by simp; omega, fun t ht => ?_⟩, by simp; omega, fun e _ => absurd e (by simp)⟩
      show (a.2.dropLast ++ [a.2.getD (a.2.length - 1) 0 * 10 + (c - 48)]).getD t 0 ≤ 99
      rw [l_dl_getD hne]
      split
      · exact a3 t (by omega)
      · split <;> omega
theorem gI_st {X : Nat → Nat} : ∀ i, (∀ j, j < i → g_okk X j = true) → gI (g_st X i) i
  | 0, _ => ⟨fun a ha => absurd ha (by simp [g_st]), fun _ => Nat.zero_le _, fun a ha => absurd ha (by simp [g_st])⟩
  | i + 1, h => by
    have ih := gI_st i (fun j hj => h j (by omega))
    have ho := h i (by omega)
    unfold g_okk at ho
    rw [Bool.and_eq_true] at ho
    exact gI_go ih ho.2
theorem g_i60 {X : Nat → Nat} {i : Nat} (h : ∀ j, j < i → g_okk X j = true) : i ≤ 60 := by
  rcases Nat.lt_or_ge 60 i with q | q
  · have := h 60 q
    unfold g_okk at this
    simp at this
  · exact q
/-! what is done, act by act -/
def g_act (E : (Nat → Int32) → Int32) (s : aS) (v : aV) (a : gA) : Int32 × aV :=
  if a.1 = 108 then a_lay E s v (nI (a.2.getD 0 0)) (nI (a.2.getD 1 0)) else if a.1 = 111 then a_ln s v (nI (a.2.getD 0 0)) (nI (a.2.getD 1 0)) (nI (a.2.getD 2 0)) else if a.1 = 114 then a_cb s v (nI (a.2.getD 0 0)) else if a.1 = 115 then ((a_sh s v (nI (a.2.getD 0 0)) (nI (a.2.getD 1 0))).1, (a_sh s v (nI (a.2.getD 0 0)) (nI (a.2.getD 1 0))).2.1) else (nI (v_y v + a.2.getD 0 0), (a_days s v (a.2.getD 0 0)).1)
def g_v (E : (Nat → Int32) → Int32) (s : aS) (A : List gA) (v : aV) : Nat → aV
  | 0 => v
  | i + 1 => (g_act E s (g_v E s A v i) (A.getD i (0, []))).2
def g_sc (E : (Nat → Int32) → Int32) (s : aS) (A : List gA) (v : aV) (i : Nat) : Bool := decide (0 ≤ (g_act E s (g_v E s A v i) (A.getD i (0, []))).1)
def g_n (E : (Nat → Int32) → Int32) (s : aS) (A : List gA) (v : aV) : Nat := (sc_b (g_sc E s A v) true A.length).getD A.length
def to_siege (x : tX) : Int32 × tX := match g_b x with
  | some p => (-1 - nI p, x_t0 x)
  | none => (nI (g_n (x_E x) (x_s x) (g_acts (g_st (x_X x) (x_L x))) (x_v x)), (x_s x, g_v (x_E x) (x_s x) (g_acts (g_st (x_X x) (x_L x))) (x_v x) (g_n (x_E x) (x_s x) (g_acts (g_st (x_X x) (x_L x))) (x_v x)), if g_n (x_E x) (x_s x) (g_acts (g_st (x_X x) (x_L x))) (x_v x) = 0 then x_H x else a_rem (x_H x) (x_v x), (x_K x, x_T x), (0, x_X x), [if g_n (x_E x) (x_s x) (g_acts (g_st (x_X x) (x_L x))) (x_v x) < (g_acts (g_st (x_X x) (x_L x))).length then nI 1 else nI 0, z_bc (nI (a_bw (g_v (x_E x) (x_s x) (g_acts (g_st (x_X x) (x_L x))) (x_v x) (g_n (x_E x) (x_s x) (g_acts (g_st (x_X x) (x_L x))) (x_v x))) 1 (s_n (x_s x))))], x_e x, x_k x, x_m x))
section
variable {E : (Nat → Int32) → Int32} {s : aS} {v : aV}
theorem g_act_I {B : Nat} (hI : aI s v) (hT : aT s v B) (hB : B + 99 < 1073741824) {a : gA} (ha : g_aI a) (hp : g_po a.1 a.2.length = 0) : aI s (g_act E s v a).2 ∧ aT s (g_act E s v a).2 (B + 99) := by
  unfold g_act
  split
  · have := aT_lay (E := E) hI hT (nI (a.2.getD 0 0)) (nI (a.2.getD 1 0))
    exact ⟨this.1, this.2.mono (by omega)⟩
  · split
    · have := aT_ln hI hT (nI (a.2.getD 0 0)) (nI (a.2.getD 1 0)) (nI (a.2.getD 2 0))
      exact ⟨this.1, this.2.mono (by omega)⟩
    · split
      · have := aT_cb hI hT (nI (a.2.getD 0 0))
        exact ⟨this.1, this.2.mono (by omega)⟩
      · split
        · have := aT_sh hI hT (nI (a.2.getD 0 0)) (nI (a.2.getD 1 0))
          exact ⟨this.1, this.2.mono (by omega)⟩
        · have h0 : a.2.getD 0 0 ≤ 99 := by
            rcases Nat.lt_or_ge 0 a.2.length with q | q
            · exact ha.2.2 0 q
            · rw [List.getD_eq_getElem?_getD, List.getElem?_eq_none q]
              simp
          have := aT_dn hI hT (0, 0) (a.2.getD 0 0) (by omega)
          rw [← a_days_dn] at this
          exact ⟨this.1, this.2.mono (by omega)⟩
/-- an act that can't be leaves all as it is -/
theorem g_act_no {B : Nat} (hI : aI s v) (hT : aT s v B) (hB : B + 99 < 1073741824) {a : gA} (ha : g_aI a) (h : ¬ 0 ≤ (g_act E s v a).1) : (g_act E s v a).2 = v := by
  have hy := hT.2.2
  unfold g_act at h ⊢
  split at h
  · rename_i q
    rw [if_pos q]
    rcases a_lay0_c (E := E) hI (nI (a.2.getD 0 0)) (nI (a.2.getD 1 0)) with ⟨q1, q2⟩ | ⟨b', c', e1, e2, hb, hc, hw, h4, q1, q2⟩
    · rw [q2]
    · exfalso
      apply h
      rw [q2]
      have hI2 := aI_put hI hb (by omega) hc h4
      have h36 := hI2.h36 hc
      have ep : v_p (a_put v b' c') c' = v_p v c' ++ [b'] := if_pos rfl
      rw [ep] at h36
      exact zn_ge0 (by omega)
  · rename_i q
    rw [if_neg q]
    split at h
    · rename_i q
      rw [if_pos q]
      rcases a_ln0_c hI (nI (a.2.getD 0 0)) (nI (a.2.getD 1 0)) (nI (a.2.getD 2 0)) with ⟨q1, q2⟩ | ⟨b', r', n', e1, e2, e3, hb, hr, h1, h30, hw, h3, q1, q2⟩
      · rw [q2]
      · exfalso
        apply h
        rw [q2]
        exact zn_ge0 (by omega)
    · rename_i q
      rw [if_neg q]
      split at h
      · rename_i q
        rw [if_pos q]
        unfold a_cb at h ⊢
        have hn : s_n s ≤ 12 := hI.1.1
        have h4 : s_r s ≤ 4 := hI.1.2.2.2
        by_cases k : z_isn (nI (a.2.getD 0 0)) (s_n s) = true
        · rw [if_pos k] at h ⊢
          obtain ⟨b, hb, e⟩ := z_isn_t (by omega) k
          rw [e, nI_clamp (by omega)] at h ⊢
          by_cases k2 : v_w v b = 2
          · rw [if_pos k2] at h
            have := hI.lt hb k2
            exact absurd (zn_ge0 (by omega)) h
          · rw [if_neg k2]
        · rw [if_neg k]
      · rename_i q
        rw [if_neg q]
        split at h
        · rename_i q
          rw [if_pos q]
          rcases a_sh0_c hI (nI (a.2.getD 0 0)) (nI (a.2.getD 1 0)) with ⟨q1, q2⟩ | ⟨c', n', e1, e2, hc, h1, h4, q1, q2⟩
          · rw [q2]
          · exfalso
            apply h
            rw [q2]
            have hI2 : aI s (a_shi v c' n').1 := aI_shi hI hc n'
            have h36 : a_h s (a_shi v c' n').1 c' ≤ 36 := hI2.h36 hc
            exact zn_ge0 (by omega)
        · exfalso
          apply h
          have h0 : a.2.getD 0 0 ≤ 99 := by
            rcases Nat.lt_or_ge 0 a.2.length with q | q
            · exact ha.2.2 0 q
            · rw [List.getD_eq_getElem?_getD, List.getElem?_eq_none q]
              simp
          exact zn_ge0 (by omega)
theorem g_v_I {B : Nat} {A : List gA} (hI : aI s v) (hT : aT s v B) (hA : ∀ a, a ∈ A → g_aI a ∧ g_po a.1 a.2.length = 0) : ∀ i, i ≤ A.length → B + 99 * i + 99 < 1073741824 → aI s (g_v E s A v i) ∧ aT s (g_v E s A v i) (B + 99 * i)
  | 0, _, _ => ⟨hI, hT⟩
  | i + 1, hi, hB => by
    obtain ⟨h1, h2⟩ := g_v_I hI hT hA i (by omega) (by omega)
    have hm : A.getD i (0, []) ∈ A := by
      rw [List.getD_eq_getElem?_getD, List.getElem?_eq_getElem (show i < A.length by omega)]
      exact List.getElem_mem _
    have := g_act_I (E := E) h1 h2 (by omega) (hA _ hm).1 (hA _ hm).2
    rw [g_v]
    exact ⟨this.1, this.2.mono (by omega)⟩
theorem g_n_at {A : List gA} {n : Nat} (h : ∀ j, j < n → g_sc E s A v j = true) (hn : n = A.length ∨ (n < A.length ∧ g_sc E s A v n = false)) : g_n E s A v = n := by
  unfold g_n
  rcases hn with e | ⟨h1, h2⟩
  · subst e
    rw [sc_b_end h]
    rfl
  · rw [sc_b_at h h1 h2]
    rfl
end
