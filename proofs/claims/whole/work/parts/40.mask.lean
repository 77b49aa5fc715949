/-! questions: low, weakest, room, home -/
section
variable {s : aS} {v : aV} {σ u : zS} {a : Nat}
theorem aI.h36 (hI : aI s v) {c : Nat} (hc : c < s_c s) : l_h (s_t s) (v_p v c) ≤ 36 := l_h36 (x := (s, v, [], (0, fun _ => 0), (0, fun _ => 0), [], fun _ => none, fun _ => none, 0)) hI (fun b hb => ((hI.mm hc b).mp hb).1) (hI.l4 hc)
theorem m_lhi_a (hI : aI s v) : ∀ c, c < s_c s → m_lhi (s_t s) (v_p v) (c + 1) = a_lhi s v (c + 1)
  | 0, hc => by
    have h := hI.h36 hc
    rw [m_lhi, m_lhi, a_lhi, a_lhi, if_pos (by omega), if_pos (by show l_h (s_t s) (v_p v 0) < 99; omega)]
  | c + 1, hc => by
    have ih := m_lhi_a hI c (by omega)
    rw [m_lhi, a_lhi, ih]
theorem m_lh (hI : aI s v) : m_lhi (s_t s) (v_p v) (s_c s) = a_lh s v := by
  have h1 : 1 ≤ s_c s := hI.1.2.1
  have h := m_lhi_a hI (s_c s - 1) (by omega)
  rwa [show s_c s - 1 + 1 = s_c s by omega] at h
theorem mc_lh (hR : mR s v σ a) (ha : z_kd a = (11, 53)) : z_Ci 3 zm_Model_leastHeight [.inr 63, .inr a] σ (z_is (nI (a_lh s v)) σ) := by
  have h := mc_leastHeight (P := v_p v) hR.Bk hR.c6 hR.2.1.2.1 ha (fun c hc => ⟨hR.1.nd hc, hR.I hc, by have := hR.1.h36 hc; omega⟩)
  rwa [m_lh hR.1] at h
theorem l_er_sum (t : Nat → Nat) {b : Nat} : ∀ {l : List Nat}, b ∈ l → (l.map t).sum = t b + ((l.erase b).map t).sum
  | [], h => absurd h (by simp)
  | x :: l, h => by
    by_cases e : x = b
    · subst e
      simp
    · have ht : b ∈ l := by
        rcases List.mem_cons.mp h with q | q
        · exact absurd q.symm e
        · exact q
      have e1 : (x :: l).erase b = x :: l.erase b := by
        rw [List.erase_cons]
        simp [e]
      rw [e1, List.map_cons, List.map_cons, List.sum_cons, List.sum_cons, l_er_sum t ht]
      omega
theorem l_h_er (hI : aI s v) {b c : Nat} (hb : b < s_n s) (hw : v_w v b = 1) (hc : c < s_c s) : l_h (s_t s) ((v_p v c).erase b) = a_h s v c - (if v_h v b = c then s_t s b else 0) := by
  show _ = l_h (s_t s) (v_p v c) - _
  rw [l_h_sum, l_h_sum]
  by_cases e : v_h v b = c
  · rw [if_pos e, l_er_sum (s_t s) ((hI.mm hc b).mpr ⟨hb, hw, e⟩)]
    omega
  · rw [if_neg e, List.erase_of_not_mem (fun q => e ((hI.mm hc b).mp q).2.2)]
    omega
theorem m_lbi_a (hI : aI s v) {b : Nat} (hb : b < s_n s) (hw : v_w v b = 1) : ∀ c, c < s_c s → m_lhi (s_t s) (fun c => (v_p v c).erase b) (c + 1) = a_lbi s v b (c + 1)
  | 0, hc => by
    have h := hI.h36 hc
    have h' : a_h s v 0 ≤ 36 := h
    rw [m_lhi, m_lhi, a_lbi, a_lbi, l_h_er hI hb hw hc]
    generalize (if v_h v b = 0 then s_t s b else 0) = z
    rw [if_pos (by omega), if_pos (by omega)]
  | c + 1, hc => by
    have ih := m_lbi_a hI hb hw c (by omega)
    rw [m_lhi, a_lbi, ih, l_h_er hI hb hw hc]
theorem mI.lost {f g : Nat → Int32} {c b : Nat} {l : List Nat} (h : mI s f c l) (hN : l.Nodup) (hn : s_n s ≤ 12) (hb : b < s_n s) (h1 : g b = nI 3) (h2 : ∀ k, k ≠ b → g k = f k) : mI s g c (l.erase b) := by
  refine ⟨fun b' hb' => h.1 b' (List.mem_of_mem_erase hb'), fun b' hb' => ?_⟩
  rw [hN.mem_erase_iff]
  by_cases e : b' = b
  · subst e
    constructor
    · rintro ⟨q, -⟩
      rw [h1] at q
      exact absurd q (by decide)
    · intro q
      exact absurd rfl q.1
  · rw [h2 _ e, h2 _ (by omega), h.2 b' hb']
    exact ⟨fun q => ⟨e, q⟩, fun q => q.2⟩
/-- columns that are lower than h, and by how much together -/
def a_lw (s : aS) (v : aV) (h : Nat) : Nat → Nat × Nat
  | 0 => (0, 0)
  | c + 1 => if a_h s v c < h then ((a_lw s v h c).1 ||| 2 ^ c, (a_lw s v h c).2 + (h - a_h s v c)) else a_lw s v h c
def to_low (x : tX) (a : Int32) : Int32 × tX := if nI 0 ≤ a ∧ a ≤ nI 99 then (nI (a_lw (x_s x) (x_v x) a.toNatClampNeg (s_c (x_s x))).1, x_row x [nI (a_lw (x_s x) (x_v x) a.toNatClampNeg (s_c (x_s x))).2, nI (a_lh (x_s x) (x_v x))]) else (-1, x)
/-- the book without which the wall is lowest -/
def a_wk (s : aS) (v : aV) : Nat → Option Nat × Nat
  | 0 => (none, 1000000)
  | b + 1 => if v_w v b = 1 ∧ a_lbi s v b (s_c s) < (a_wk s v b).2 then (some b, a_lbi s v b (s_c s)) else a_wk s v b
def to_weakest (x : tX) : Int32 × tX := if (a_wk (x_s x) (x_v x) (s_n (x_s x))).1 = none then (-2, x) else (w_I (a_wk (x_s x) (x_v x) (s_n (x_s x))).1, x_row x [nI (a_wk (x_s x) (x_v x) (s_n (x_s x))).2, nI (a_lh (x_s x) (x_v x))])
/-- what a book bears beyond what is on it -/
def l_sp (E : (Nat → Int32) → Int32) (s : aS) (dy c : Nat) (l : List Nat) (k : Nat) : Nat := (l_br E s dy c l k).toNatClampNeg - l_ab s l (k + 1)
def a_rm (E : (Nat → Int32) → Int32) (s : aS) (dy c : Nat) (l : List Nat) : Nat → Nat × Option Nat
  | 0 => (999, none)
  | k + 1 => if l_sp E s dy c l k ≤ (a_rm E s dy c l k).1 then (l_sp E s dy c l k, some (l.getD k 0)) else a_rm E s dy c l k
def to_room (x : tX) (a : Int32) : Int32 × tX := if z_isn a (s_c (x_s x)) = true then (if l_ho (x_E x) (x_s x) (v_y (x_v x)) a.toNatClampNeg (v_p (x_v x) a.toNatClampNeg) = true then (nI (a_rm (x_E x) (x_s x) (v_y (x_v x)) a.toNatClampNeg (v_p (x_v x) a.toNatClampNeg) (v_p (x_v x) a.toNatClampNeg).length).1, x_row x [w_I (a_rm (x_E x) (x_s x) (v_y (x_v x)) a.toNatClampNeg (v_p (x_v x) a.toNatClampNeg) (v_p (x_v x) a.toNatClampNeg).length).2]) else (-2, x)) else (-1, x)
/-- the last book to come home -/
def a_hm (s : aS) (v : aV) : Nat → Option Nat × Nat
  | 0 => (none, 0)
  | b + 1 => if v_w v b = 2 ∧ (a_hm s v b).2 ≤ v_d v b + s_l s (v_h v b) - v_y v then (some b, v_d v b + s_l s (v_h v b) - v_y v) else a_hm s v b
def to_home (x : tX) : Int32 × tX := (nI (a_hm (x_s x) (x_v x) (s_n (x_s x))).2, x_row x [w_I (a_hm (x_s x) (x_v x) (s_n (x_s x))).1])
/-- what is lent comes back later, but not much later -/
def a_D (s : aS) (v : aV) : Prop := ∀ b, b < s_n s → v_w v b = 2 → v_y v < v_d v b + s_l s (v_h v b) ∧ v_d v b ≤ v_y v + 30
theorem a_lw_le (hI : aI s v) {h : Nat} (hh : h ≤ 99) : ∀ c, (a_lw s v h c).2 ≤ 99 * c
  | 0 => Nat.le_refl _
  | c + 1 => by
    have ih := a_lw_le hI hh c
    rw [a_lw]
    by_cases q : a_h s v c < h
    · rw [if_pos q]
      show (a_lw s v h c).2 + (h - a_h s v c) ≤ _
      omega
    · rw [if_neg q]
      omega
theorem z_0to {x : Int32} {m : Nat} (hm : m < 2147483647) (h : nI 0 ≤ x ∧ x ≤ nI m) : ∃ n, n ≤ m ∧ x = nI n := by
  obtain ⟨j, hj, e⟩ := zn_0le (x := x) (n := m + 1) (Int32.not_lt.mpr h.1) (by omega) (fun q => absurd (Int32.le_trans q h.2) (by rw [zn_le (by omega) (by omega)]; omega))
  exact ⟨j, by omega, e⟩
theorem mF.X2 {R : Nat → Prop} (h : mF R σ u) (hR : ∀ q, R q → m_sO q) : mX m_sO m_sK σ u := h.X (fun q hq => hq.elim (fun e => by unfold m_sO; omega) (hR q)) (by unfold m_sK; omega)
end
section
variable {x : tX} {σ u : zS}
/-- a row is told anew -/
abbrev mQ (σ u : zS) : Prop := mX (fun q => m_sO q ∨ q = 69) (fun k => m_sK k ∨ k = 10) σ u
theorem mQ.of (h : mX m_sO m_sK σ u) : mQ σ u := h.mono (fun _ h => Or.inl h) (fun _ h => Or.inl h)
theorem mQ.r0 : mQ σ (z_pI σ 63 10 (nI 0)) := mX.rf.pK (Or.inr rfl)
theorem mQ.tl (h : mX (fun q => q = 69) (fun k => k = 10) σ u) : mQ σ u := h.mono (fun _ h => Or.inr h) (fun _ h => Or.inr h)
theorem mQ.t0 : mQ σ (z_pI σ 63 11 (nI 0)) := mX.rf.pK (Or.inl (Or.inl rfl))
theorem mR.kQ {s : aS} {v : aV} (h : mR s v σ 64) (hF : mQ σ u) : mR s v u 64 := h.keepX hF (by unfold m_sK; omega) (by unfold m_sO; omega) (by unfold m_sO; omega) (by decide)
theorem mp_low (h : mA x σ) (a : Int32) : z_Ci 4 zm_Model_low [.inr 63, .inl a] σ (fun r u => r = (to_low x a).1 ∧ mA (to_low x a).2 u ∧ zU σ u) := by
  have h0 := m_t0 h
  have h6 := h.1.c6
  refine z_Ci_of (by decide) (Nat.le_of_ble_eq_true rfl) (fun Γ hd he => ?_)
  show z_J Γ zm_Model_low 0 [some (.inr 63), some (.inl a), none, none, none, none] [] σ
  refine zb_Model_low_0 (mc_in _ _ _ _) (by omega) (fun r u hr => ?_)
  obtain ⟨rfl, rfl⟩ := hr
  refine zb_Model_low_12 (fun k => ?_) (fun k => ?_)
  · rw [z_tf_eq0, Bool.not_eq_false, Bool.and_eq_true, decide_eq_true_eq, decide_eq_true_eq] at k
    obtain ⟨n, hn, rfl⟩ := z_0to (by decide) k
    have et : to_low x (nI n) = (nI (a_lw (x_s x) (x_v x) n (s_c (x_s x))).1, x_row x [nI (a_lw (x_s x) (x_v x) n (s_c (x_s x))).2, nI (a_lh (x_s x) (x_v x))]) := by
      unfold to_low
      rw [if_pos k, nI_clamp (by omega)]
    refine zb_Model_low_17 ?_
    refine zj_for (b := s_c (x_s x)) (fun i => [some (.inr 63), some (.inl (nI n)), some (.inl (nI (a_lw (x_s x) (x_v x) n i).1)), some (.inl (nI (a_lw (x_s x) (x_v x) n i).2)), some (.inl (nI i)), none]) (fun _ => z_pI σ 63 11 (nI 0)) (fun i hi kk => ?_) ?_ 0 (Nat.zero_le _)
    · refine zb_Model_low_24 (fun q => ?_) (fun _ => ?_)
      · rw [h0.1.2.1.2.1] at q
        exact absurd q (nI_ge hi (by omega))
      refine zb_Model_low_33 (mc_heightOf h0.1.Bk (by decide) (h0.1.1.nd hi) (h0.1.I hi)) (by omega) (fun r u hr => ?_)
      obtain ⟨rfl, rfl⟩ := hr
      have h36 := h0.1.1.h36 hi
      have e1 : a_lw (x_s x) (x_v x) n (i + 1) = if l_h (s_t (x_s x)) (v_p (x_v x) i) < n then ((a_lw (x_s x) (x_v x) n i).1 ||| 2 ^ i, (a_lw (x_s x) (x_v x) n i).2 + (n - l_h (s_t (x_s x)) (v_p (x_v x) i))) else a_lw (x_s x) (x_v x) n i := rfl
      rw [e1] at kk
      refine zb_Model_low_43 (fun q => ?_) (fun q => ?_)
      · rw [zn_lt (by omega) (by omega)] at q
        refine zb_Model_low_54 (zb_Model_low_68 ?_)
        rw [if_pos q] at kk
        rw [zn_shl (by omega), zn_or, pk_sub (by omega), nI_add, nI_add]
        exact kk
      · rw [zn_lt (by omega) (by omega)] at q
        refine zb_Model_low_51 (zb_Model_low_68 ?_)
        rw [if_neg q] at kk
        rw [nI_add]
        exact kk
    · refine zb_Model_low_24 (fun _ => ?_) (fun q => ?_)
      · refine zb_Model_low_74 (mc_tell mRow.nil (by decide) _) (by omega) (fun u2 h2 => ?_)
        obtain ⟨r1, r2⟩ := h2
        have f2 : mQ (z_pI σ 63 11 (nI 0)) u2 := mQ.r0.tr (mQ.tl r2)
        refine zb_Model_low_84 (mc_lh (h0.1.kQ f2) (by decide)) (by omega) (fun r u3 h3 => ?_)
        obtain ⟨rfl, rfl⟩ := h3
        refine zb_Model_low_93 (mc_tell r1 (by simp) _) (by omega) (fun u4 h4 => ?_)
        obtain ⟨r3, r4⟩ := h4
        refine zb_Model_low_96 ?_
        rw [he, et]
        exact ⟨_, rfl, rfl, h.row (mQ.t0.tr (f2.tr (mQ.tl r4))) r3⟩
      · rw [h0.1.2.1.2.1] at q
        exact absurd (Int32.le_refl _) q
  · rw [z_tf_eq0] at k
    refine zb_Model_low_15 ?_
    rw [he, to_low, if_neg (fun q => by simp [q.1, q.2] at k)]
    exact ⟨_, rfl, rfl, h0, mW.zU m_t0W⟩
theorem z_pI_back {o k : Nat} {y : Int32} : z_pI (z_pI σ o k y) o k (σ.1 o k) = σ := by
  refine Prod.ext (funext fun q => funext fun j => ?_) rfl
  rw [z_pI_1, z_pI_1]
  by_cases e : q = o ∧ j = k
  · rw [if_pos e, e.1, e.2]
  · rw [if_neg e, if_neg e]
theorem a_wk_c {s : aS} {v : aV} : ∀ n, (a_wk s v n).2 ≤ 1000000 ∧ ((a_wk s v n).1 = none → (a_wk s v n).2 = 1000000) ∧ ∀ b, (a_wk s v n).1 = some b → b < n
  | 0 => ⟨Nat.le_refl _, fun _ => rfl, fun b h => absurd h (by simp [a_wk])⟩
  | n + 1 => by
    obtain ⟨h1, h2, h3⟩ := a_wk_c (s := s) (v := v) n
    rw [a_wk]
    by_cases q : v_w v n = 1 ∧ a_lbi s v n (s_c s) < (a_wk s v n).2
    · rw [if_pos q]
      refine ⟨by show a_lbi s v n (s_c s) ≤ _; omega, fun h => absurd h (by simp), fun b h => ?_⟩
      simp at h
      omega
    · rw [if_neg q]
      exact ⟨h1, h2, fun b h => by have := h3 b h; omega⟩
theorem mp_weakest (h : mA x σ) : z_Ci 4 zm_Model_weakest [.inr 63] σ (fun r u => r = (to_weakest x).1 ∧ mA (to_weakest x).2 u ∧ zU σ u) := by
  have h0 := m_t0 h
  have hn := h.1.n
  refine z_Ci_of (by decide) (Nat.le_of_ble_eq_true rfl) (fun Γ hd he => ?_)
  show z_J Γ zm_Model_weakest 0 [some (.inr 63), none, none, none, none] [] σ
  refine zb_Model_weakest_0 ?_
  refine zj_for (b := s_n (x_s x)) (fun i => [some (.inr 63), some (.inl (w_I (a_wk (x_s x) (x_v x) i).1)), some (.inl (nI (a_wk (x_s x) (x_v x) i).2)), some (.inl (nI i)), none]) (fun _ => z_pI σ 63 11 (nI 0)) (fun i hi kk => ?_) ?_ 0 (Nat.zero_le _)
  · refine zb_Model_weakest_12 (fun q => ?_) (fun _ => ?_)
    · rw [h0.1.2.1.1] at q
      exact absurd q (nI_ge hi (by omega))
    have hw3 := h.1.w3 i
    have skip : ¬ (v_w (x_v x) i = 1 ∧ a_lbi (x_s x) (x_v x) i (s_c (x_s x)) < (a_wk (x_s x) (x_v x) i).2) → z_J Γ zm_Model_weakest 71 [some (.inr 63), some (.inl (w_I (a_wk (x_s x) (x_v x) i).1)), some (.inl (nI (a_wk (x_s x) (x_v x) i).2)), some (.inl (nI i)), none] [] (z_pI σ 63 11 (nI 0)) := by
      intro q
      refine zb_Model_weakest_71 ?_
      rw [a_wk, if_neg q] at kk
      rw [nI_add]
      exact kk
    refine zb_Model_weakest_20 (k1 := i) (z_ixn (by omega)) (fun hw => ?_) (fun hw => ?_)
    · rw [h0.1.fw hi, zn_eq (by omega) (by omega)] at hw
      have e64 : (z_pI (z_pI σ 63 11 (nI 0)) 64 i (nI 3)).1 63 = (z_pI σ 63 11 (nI 0)).1 63 := z_pI_ne (by decide)
      have hb1 : mBk (x_s x) (z_pI (z_pI σ 63 11 (nI 0)) 64 i (nI 3)) := by
        unfold mBk
        rw [e64, z_pI_ne (show 65 ≠ 64 by decide), z_pI_ne (show 66 ≠ 64 by decide)]
        exact h0.1.Bk
      have hlh := mc_leastHeight (s := x_s x) (σ := z_pI (z_pI σ 63 11 (nI 0)) 64 i (nI 3)) (a := 64) (P := fun c => (v_p (x_v x) c).erase i) hb1 h.1.c6 (by rw [e64]; exact h0.1.2.1.2.1) (by decide) (fun c hc => ⟨(h.1.1.nd hc).erase i, (h0.1.I hc).lost (h.1.1.nd hc) hn hi (z_pI_at _ _ _ _) (fun k hk => z_pI_ne2 hk), by rw [l_h_er h.1.1 hi hw hc]; have := h.1.1.h36 hc; have e : a_h (x_s x) (x_v x) c = l_h (s_t (x_s x)) (v_p (x_v x) c) := rfl; omega⟩)
      have h1c := h.1.c1
      have ec := m_lbi_a h.1.1 hi hw (s_c (x_s x) - 1) (by omega)
      rw [show s_c (x_s x) - 1 + 1 = s_c (x_s x) by omega] at ec
      rw [ec] at hlh
      refine zb_Model_weakest_33 (k1 := i) (z_ixn (by omega)) hlh (by omega) (fun r u hr => ?_)
      obtain ⟨rfl, rfl⟩ := hr
      have eb : z_pI (z_pI (z_pI σ 63 11 (nI 0)) 64 i (nI 3)) 64 i (nI 1) = z_pI σ 63 11 (nI 0) := by
        have := z_pI_back (σ := z_pI σ 63 11 (nI 0)) (o := 64) (k := i) (y := nI 3)
        rw [h0.1.fw hi, hw] at this
        exact this
      have hle := (a_wk_c (s := x_s x) (v := x_v x) i).1
      have hlb := a_lbi_le (x_s x) (x_v x) i (s_c (x_s x))
      refine zb_Model_weakest_48 (k1 := i) (z_ixn (by omega)) (fun q => ?_) (fun q => ?_)
      · rw [zn_lt (by omega) (by omega)] at q
        rw [eb]
        refine zb_Model_weakest_66 (zb_Model_weakest_71 ?_)
        rw [a_wk, if_pos ⟨hw, q⟩] at kk
        rw [nI_add]
        exact kk
      · rw [zn_lt (by omega) (by omega)] at q
        rw [eb]
        exact zb_Model_weakest_63 (skip (fun p => q p.2))
    · rw [h0.1.fw hi, zn_eq (by omega) (by omega)] at hw
      exact zb_Model_weakest_30 (skip (fun p => hw p.1))
  · refine zb_Model_weakest_12 (fun _ => ?_) (fun q => ?_)
    · obtain ⟨-, -, h3⟩ := a_wk_c (s := x_s x) (v := x_v x) (s_n (x_s x))
      have ew : w_I (a_wk (x_s x) (x_v x) (s_n (x_s x))).1 = -1 ↔ (a_wk (x_s x) (x_v x) (s_n (x_s x))).1 = none := w_I_n (L := 12) (fun p hp => by have := h3 p hp; omega) (by decide)
      refine zb_Model_weakest_77 (fun q => ?_) (fun q => ?_)
      · rw [ew] at q
        refine zb_Model_weakest_85 (mc_tell mRow.nil (by decide) _) (by omega) (fun u2 h2 => ?_)
        obtain ⟨r1, r2⟩ := h2
        have f2 : mQ (z_pI σ 63 11 (nI 0)) u2 := mQ.r0.tr (mQ.tl r2)
        refine zb_Model_weakest_95 (mc_lh (h0.1.kQ f2) (by decide)) (by omega) (fun r u3 h3 => ?_)
        obtain ⟨rfl, rfl⟩ := h3
        refine zb_Model_weakest_104 (mc_tell r1 (by simp) _) (by omega) (fun u4 h4 => ?_)
        obtain ⟨r3, r4⟩ := h4
        refine zb_Model_weakest_107 ?_
        rw [he, to_weakest, if_neg q]
        exact ⟨_, rfl, rfl, h.row (mQ.t0.tr (f2.tr (mQ.tl r4))) r3⟩
      · rw [ew] at q
        refine zb_Model_weakest_82 ?_
        rw [he, to_weakest, if_pos q]
        exact ⟨_, rfl, rfl, h0, mW.zU m_t0W⟩
    · rw [h0.1.2.1.1] at q
      exact absurd (Int32.le_refl _) q
theorem mp_home (h : mA x σ) (hD : a_D (x_s x) (x_v x)) (hy : x_y x) : z_Ci 4 zm_Model_home [.inr 63] σ (fun r u => r = (to_home x).1 ∧ mA (to_home x).2 u ∧ zU σ u) := by
  have h0 := m_t0 h
  have hn := h.1.n
  have h4 := h.1.r4
  unfold x_y at hy
  refine z_Ci_of (by decide) (Nat.le_of_ble_eq_true rfl) (fun Γ hd he => ?_)
  show z_J Γ zm_Model_home 0 [some (.inr 63), none, none, none, none] [] σ
  refine zb_Model_home_0 ?_
  have hle : ∀ n, n ≤ s_n (x_s x) → (a_hm (x_s x) (x_v x) n).2 ≤ 100 := by
    intro n
    induction n with
    | zero => intro _; exact Nat.zero_le _
    | succ n ih =>
      intro hnn
      rw [a_hm]
      by_cases q : v_w (x_v x) n = 2 ∧ (a_hm (x_s x) (x_v x) n).2 ≤ v_d (x_v x) n + s_l (x_s x) (v_h (x_v x) n) - v_y (x_v x)
      · rw [if_pos q]
        have hd := hD n (by omega) q.1
        have hl := h.1.1.2.2.2.2.2.2.2.2 _ (h.1.1.lt (show n < s_n (x_s x) by omega) q.1)
        show v_d (x_v x) n + s_l (x_s x) (v_h (x_v x) n) - v_y (x_v x) ≤ 100
        omega
      · rw [if_neg q]
        exact ih (by omega)
  refine zj_for (b := s_n (x_s x)) (fun i => [some (.inr 63), some (.inl (w_I (a_hm (x_s x) (x_v x) i).1)), some (.inl (nI (a_hm (x_s x) (x_v x) i).2)), some (.inl (nI i)), none]) (fun _ => z_pI σ 63 11 (nI 0)) (fun i hi kk => ?_) ?_ 0 (Nat.zero_le _)
  · refine zb_Model_home_11 (fun q => ?_) (fun _ => ?_)
    · rw [h0.1.2.1.1] at q
      exact absurd q (nI_ge hi (by omega))
    have hw3 := h.1.w3 i
    have skip : ¬ (v_w (x_v x) i = 2 ∧ (a_hm (x_s x) (x_v x) i).2 ≤ v_d (x_v x) i + s_l (x_s x) (v_h (x_v x) i) - v_y (x_v x)) → z_J Γ zm_Model_home 80 [some (.inr 63), some (.inl (w_I (a_hm (x_s x) (x_v x) i).1)), some (.inl (nI (a_hm (x_s x) (x_v x) i).2)), some (.inl (nI i)), none] [] (z_pI σ 63 11 (nI 0)) := by
      intro q
      refine zb_Model_home_80 ?_
      rw [a_hm, if_neg q] at kk
      rw [nI_add]
      exact kk
    refine zb_Model_home_19 (k1 := i) (z_ixn (by omega)) (fun hw => ?_) (fun hw => ?_)
    · rw [h0.1.fw hi, zn_eq (by omega) (by omega)] at hw
      have hh := h.1.1.lt hi hw
      have hd := hD i hi hw
      have hl := h.1.1.2.2.2.2.2.2.2.2 _ hh
      have hl2 := hle i (by omega)
      have eL : (z_pI σ 63 11 (nI 0)).1 67 (v_h (x_v x) i) = nI (s_l (x_s x) (v_h (x_v x) i)) := h0.1.2.1.2.2.2.2.2 _ hh
      have ev : (z_pI σ 63 11 (nI 0)).1 64 (36 + i) + (z_pI σ 63 11 (nI 0)).1 67 (v_h (x_v x) i) - (z_pI σ 63 11 (nI 0)).1 64 48 = nI (v_d (x_v x) i + s_l (x_s x) (v_h (x_v x) i) - v_y (x_v x)) := by
        rw [h0.1.fd hi hw, eL, h0.1.fy, nI_add, pk_sub (by omega)]
      refine zb_Model_home_32 (k1 := 36 + i) (k2 := 12 + i) (k3 := v_h (x_v x) i) (k4 := 48) ⟨nI_add _ _, by omega⟩ ⟨nI_add _ _, by omega⟩ ⟨h0.1.fh hi (Or.inr hw), by omega⟩ (z_ixn (by omega)) (fun q => ?_) (fun q => ?_)
      · rw [ev] at q ⊢
        rw [zn_le (by omega) (by omega)] at q
        refine zb_Model_home_75 (zb_Model_home_80 ?_)
        rw [a_hm, if_pos ⟨hw, q⟩] at kk
        rw [nI_add]
        exact kk
      · rw [ev] at q
        rw [zn_le (by omega) (by omega)] at q
        exact zb_Model_home_72 (skip (fun p => q p.2))
    · rw [h0.1.fw hi, zn_eq (by omega) (by omega)] at hw
      exact zb_Model_home_29 (skip (fun p => hw p.1))
  · refine zb_Model_home_11 (fun _ => ?_) (fun q => ?_)
    · refine zb_Model_home_86 (mc_tell mRow.nil (by decide) _) (by omega) (fun u2 h2 => ?_)
      obtain ⟨r1, r2⟩ := h2
      refine zb_Model_home_96 ?_
      rw [he]
      exact ⟨_, rfl, rfl, h.row (mQ.t0.tr (mQ.r0.tr (mQ.tl r2))) r1⟩
    · rw [h0.1.2.1.1] at q
      exact absurd (Int32.le_refl _) q
theorem l_sp_v {E : (Nat → Int32) → Int32} {s : aS} {dy c : Nat} {l : List Nat} {k : Nat} (h : nI (l_ab s l (k + 1)) ≤ l_br E s dy c l k) (h36 : l_ab s l (k + 1) < 1000) : l_br E s dy c l k - nI (l_ab s l (k + 1)) = nI (l_sp E s dy c l k) ∧ l_sp E s dy c l k ≤ 999 := by
  obtain ⟨n, hn, e⟩ := l_br_nat E s dy c l k
  unfold l_sp
  rw [e] at h ⊢
  rw [zn_le (by omega) (by omega)] at h
  rw [nI_clamp (by omega)]
  exact ⟨pk_sub h, by omega⟩
theorem a_rm_le {E : (Nat → Int32) → Int32} {s : aS} {dy c : Nat} {l : List Nat} : ∀ k, (a_rm E s dy c l k).1 ≤ 999
  | 0 => Nat.le_refl _
  | k + 1 => by
    have ih := a_rm_le (E := E) (s := s) (dy := dy) (c := c) (l := l) k
    rw [a_rm]
    by_cases q : l_sp E s dy c l k ≤ (a_rm E s dy c l k).1
    · rw [if_pos q]
      show l_sp E s dy c l k ≤ 999
      omega
    · rw [if_neg q]
      exact ih
theorem l_ab36 {s : aS} {v : aV} (hI : aI s v) {c : Nat} (hc : c < s_c s) (k : Nat) : l_ab s (v_p v c) k ≤ 36 := by
  have key : ∀ l : List Nat, (∀ b, b ∈ l → b < s_n s) → (l.map (s_w s)).sum ≤ 9 * l.length := by
    intro l
    induction l with
    | nil => intro _; simp
    | cons b t ih =>
      intro h
      have h1 := (hI.2.2.2.2.2.2.2.1 b (h b (by simp))).2.2
      have h2 := ih (fun b' hb' => h b' (by simp [hb']))
      simp only [List.map_cons, List.sum_cons, List.length_cons]
      omega
  have h1 := key ((v_p v c).drop k) (fun b hb => ((hI.mm hc b).mp (List.mem_of_mem_drop hb)).1)
  have h2 := hI.l4 hc
  unfold l_ab
  have h3 : ((v_p v c).drop k).length ≤ (v_p v c).length := by simp
  omega
theorem mp_room (h : mA x σ) (a : Int32) : z_Ci 345 zm_Model_room [.inr 63, .inl a] σ (fun r u => r = (to_room x a).1 ∧ mA (to_room x a).2 u ∧ zU σ u) := by
  have h0 := m_t0 h
  have h6 := h.1.c6
  refine z_Ci_of (by decide) (Nat.le_of_ble_eq_true rfl) (fun Γ hd he => ?_)
  show z_J Γ zm_Model_room 0 [some (.inr 63), some (.inl a), none, none, none, none, none] [] σ
  refine zb_Model_room_0 (mc_isColumn h6 h0.1.2.1.2.1 a) (by omega) (fun r u hr => ?_)
  obtain ⟨rfl, rfl⟩ := hr
  refine zb_Model_room_10 (fun k => ?_) (fun k => ?_)
  · rw [z_tf_eq0, Bool.not_eq_false] at k
    obtain ⟨c, hc, rfl⟩ := z_isn_t (by omega) k
    have et : to_room x (nI c) = if l_ho (x_E x) (x_s x) (v_y (x_v x)) c (v_p (x_v x) c) = true then (nI (a_rm (x_E x) (x_s x) (v_y (x_v x)) c (v_p (x_v x) c) (v_p (x_v x) c).length).1, x_row x [w_I (a_rm (x_E x) (x_s x) (v_y (x_v x)) c (v_p (x_v x) c) (v_p (x_v x) c).length).2]) else (-2, x) := by
      unfold to_room
      rw [if_pos k, nI_clamp (by omega)]
    rw [et] at he
    have hl4 := h.1.1.l4 hc
    refine zb_Model_room_15 (mc_isHeld h0.2.2.1.1 h0.1.Bk (by decide) (by decide) (h0.1.C hc) h0.1.fy (by rw [h0.2.2.1.2]; decide)) (by omega) (fun r u hr => ?_)
    obtain ⟨rfl, hF⟩ := hr
    have f1 : mQ (z_pI σ 63 11 (nI 0)) u := mQ.of (hF.X2 (by unfold m_sO; omega))
    have hR1 := h0.1.kQ f1
    refine zb_Model_room_24 (fun q => ?_) (fun q => ?_)
    · rw [z_tf_eq0, Bool.not_eq_false] at q
      rw [if_pos q] at he
      have hho := l_ho_iff.mp q
      have hrd := mc_readPile hR1.nb (by decide) (by decide) (hR1.C hc) (m := 0) (by decide)
      rw [l_bt0] at hrd
      refine zb_Model_room_30 hrd (by omega) (fun r u2 h2 => ?_)
      obtain ⟨rfl, hP, hF2⟩ := h2
      have f2 : mQ (z_pI σ 63 11 (nI 0)) u2 := f1.tr (mQ.of (hF2.X (by decide) (by unfold m_sO; omega)))
      refine zb_Model_room_40 ?_
      refine zj_forS (b := (v_p (x_v x) c).length) (fun i => [some (.inr 63), some (.inl (nI c)), some (.inl (nI (v_p (x_v x) c).length)), some (.inl (nI (a_rm (x_E x) (x_s x) (v_y (x_v x)) c (v_p (x_v x) c) i).1)), some (.inl (w_I (a_rm (x_E x) (x_s x) (v_y (x_v x)) c (v_p (x_v x) c) i).2)), some (.inl (nI i)), none])
        (fun _ u => mP (v_p (x_v x) c) u ∧ mQ (z_pI σ 63 11 (nI 0)) u) (fun i u hi hI kk => ?_) (fun u hI => ?_) 0 (Nat.zero_le _) _ ⟨hP, f2⟩
      · obtain ⟨p1, p2⟩ := hI
        have hRi := h0.1.kQ p2
        have hRr : mRr (x_K x) (x_T x) u := h0.2.2.1.keepX p2 (by unfold m_sO; omega) (by unfold m_sK; omega)
        refine zb_Model_room_51 (fun q => absurd q (nI_ge hi (by omega))) (fun _ => ?_)
        have hmem : (v_p (x_v x) c).getD i 0 < s_n (x_s x) := ((h.1.1.mm hc _).mp (l_getD_mem hi)).1
        have hn := h.1.n
        have hbk := hRi.Bk
        have hbr := mc_bears hRr.1 (b := (v_p (x_v x) c).getD i 0) (by omega) (hbk.2.2 _ hmem).1 (hbk.2.2 _ hmem).2.1 (nI c) (nI i) (nI (v_p (x_v x) c).length) (nI (v_y (x_v x)))
        rw [← l_env_m, z_min_comm] at hbr
        refine zb_Model_room_57 (k1 := i) (k2 := 48) (dc := 340) (P := fun r u2 => r = l_br (x_E x) (x_s x) (v_y (x_v x)) c (v_p (x_v x) c) i ∧ mF (fun _ => False) u u2) (z_ixn (by omega)) (z_ixn (by omega)) ?_ (by omega) (fun r u2 h2 => ?_)
        · rw [p1 i hi, hRi.fy]
          exact hbr
        obtain ⟨rfl, hF3⟩ := h2
        have f3 : mQ u u2 := mQ.of (hF3.X2 (fun _ h => h.elim))
        have hP3 : mP (v_p (x_v x) c) u2 := by
          unfold mP
          rw [(hF3.1 75 (by decide) (by decide) id).1]
          exact p1
        have hRi2 := hRi.kQ f3
        have hab := mc_above hRi2.Bk hP3 hl4 (fun k hk => ((h.1.1.mm hc _).mp (l_getD_mem hk)).1) (x := nI i) (k := i + 1) (nI_add _ _) (by omega)
        refine zb_Model_room_79 hab (by omega) (fun r u3 h3 => ?_)
        obtain ⟨rfl, rfl⟩ := h3
        obtain ⟨e1, e2⟩ := l_sp_v (hho i hi) (by have := l_ab36 h.1.1 hc (i + 1); omega)
        have hle := a_rm_le (E := x_E x) (s := x_s x) (dy := v_y (x_v x)) (c := c) (l := v_p (x_v x) c) i
        refine zb_Model_room_86 (fun q => ?_) (fun q => ?_)
        · rw [e1] at q ⊢
          rw [zn_le (by omega) (by omega)] at q
          refine zb_Model_room_98 (k1 := i) (z_ixn (by omega)) (zb_Model_room_110 ?_)
          rw [hP3 i hi, nI_add]
          rw [a_rm, if_pos q] at kk
          exact kk u3 ⟨hP3, p2.tr f3⟩
        · rw [e1] at q
          rw [zn_le (by omega) (by omega)] at q
          refine zb_Model_room_95 (zb_Model_room_110 ?_)
          rw [nI_add]
          rw [a_rm, if_neg q] at kk
          exact kk u3 ⟨hP3, p2.tr f3⟩
      · refine zb_Model_room_51 (fun _ => ?_) (fun q => absurd (Int32.le_refl _) q)
        refine zb_Model_room_116 (mc_tell mRow.nil (by decide) _) (by omega) (fun u2 h2 => ?_)
        obtain ⟨r1, r2⟩ := h2
        refine zb_Model_room_127 ?_
        rw [he]
        exact ⟨_, rfl, rfl, h.row (mQ.t0.tr (hI.2.tr (mQ.r0.tr (mQ.tl r2)))) r1⟩
    · rw [z_tf_eq0] at q
      refine zb_Model_room_27 ?_
      rw [he, if_neg (by rw [q]; decide)]
      obtain ⟨w1, w2⟩ := h0.low (hF.X2 (by unfold m_sO; omega))
      exact ⟨_, rfl, rfl, w1, (mW.zU m_t0W).tr w2⟩
  · rw [z_tf_eq0] at k
    refine zb_Model_room_13 ?_
    rw [he, to_room, if_neg (by rw [k]; decide)]
    exact ⟨_, rfl, rfl, h0, mW.zU m_t0W⟩
end
