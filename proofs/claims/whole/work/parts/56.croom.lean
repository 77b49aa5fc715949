/-! the program: room, sheet -/
/-- the tightest place of a column, from above -/
def a_rd (E : (Nat → Int32) → Int32) (s : aS) (dy c : Nat) (l : List Nat) : Nat → Nat × Option Nat
  | 0 => (999, none)
  | j + 1 => if (a_rd E s dy c l j).2 = none ∨ l_sp E s dy c l (l.length - 1 - j) < (a_rd E s dy c l j).1 then (l_sp E s dy c l (l.length - 1 - j), some (l.getD (l.length - 1 - j) 0)) else a_rd E s dy c l j
theorem a_rd_c {E : (Nat → Int32) → Int32} {s : aS} {dy c : Nat} {l : List Nat} : ∀ j, j ≤ l.length → (j = 0 ∧ a_rd E s dy c l j = (999, none)) ∨ ∃ k, l.length - j ≤ k ∧ k < l.length ∧ a_rd E s dy c l j = (l_sp E s dy c l k, some (l.getD k 0)) ∧ ∀ i, l.length - j ≤ i → i < l.length → l_sp E s dy c l k ≤ l_sp E s dy c l i ∧ (k < i → l_sp E s dy c l k < l_sp E s dy c l i)
  | 0, _ => Or.inl ⟨rfl, rfl⟩
  | j + 1, hj => by
    refine Or.inr ?_
    rw [a_rd]
    by_cases q : (a_rd E s dy c l j).2 = none ∨ l_sp E s dy c l (l.length - 1 - j) < (a_rd E s dy c l j).1
    · rw [if_pos q]
      refine ⟨l.length - 1 - j, by omega, by omega, rfl, fun i h1 h2 => ?_⟩
      by_cases e : i = l.length - 1 - j
      · subst e
        exact ⟨Nat.le_refl _, fun h => absurd h (by omega)⟩
      · rcases a_rd_c (E := E) (s := s) (dy := dy) (c := c) (l := l) j (by omega) with ⟨e0, e1⟩ | ⟨k, k1, k2, k3, k4⟩
        · omega
        · rw [k3] at q
          have h5 := k4 i (by omega) h2
          rcases q with q | q
          · exact absurd q (by simp)
          · change l_sp E s dy c l (l.length - 1 - j) < l_sp E s dy c l k at q
            omega
    · rw [if_neg q]
      rcases a_rd_c (E := E) (s := s) (dy := dy) (c := c) (l := l) j (by omega) with ⟨e0, e1⟩ | ⟨k, k1, k2, k3, k4⟩
      · rw [e1] at q
        exact absurd (Or.inl rfl) q
      · refine ⟨k, by omega, k2, k3, fun i h1 h2 => ?_⟩
        by_cases e : i = l.length - 1 - j
        · subst e
          rw [k3] at q
          have q' : ¬ l_sp E s dy c l (l.length - 1 - j) < l_sp E s dy c l k := fun z => q (Or.inr z)
          exact ⟨by omega, fun h => absurd h (by omega)⟩
        · exact k4 i (by omega) h2
theorem a_rm_c {E : (Nat → Int32) → Int32} {s : aS} {dy c : Nat} {l : List Nat} (h9 : ∀ k, k < l.length → l_sp E s dy c l k ≤ 999) : ∀ j, j ≤ l.length → (j = 0 ∧ a_rm E s dy c l j = (999, none)) ∨ ∃ k, k < j ∧ a_rm E s dy c l j = (l_sp E s dy c l k, some (l.getD k 0)) ∧ ∀ i, i < j → l_sp E s dy c l k ≤ l_sp E s dy c l i ∧ (k < i → l_sp E s dy c l k < l_sp E s dy c l i)
  | 0, _ => Or.inl ⟨rfl, rfl⟩
  | j + 1, hj => by
    refine Or.inr ?_
    have h1 := h9 j (by omega)
    rw [a_rm]
    rcases a_rm_c h9 j (by omega) with ⟨e0, e1⟩ | ⟨k, k2, k3, k4⟩
    · rw [e1, if_pos h1]
      refine ⟨j, by omega, rfl, fun i hi => ?_⟩
      have : i = j := by omega
      subst this
      exact ⟨Nat.le_refl _, fun h => absurd h (by omega)⟩
    · by_cases q : l_sp E s dy c l j ≤ (a_rm E s dy c l j).1
      · rw [if_pos q]
        rw [k3] at q
        change l_sp E s dy c l j ≤ l_sp E s dy c l k at q
        refine ⟨j, by omega, rfl, fun i hi => ?_⟩
        by_cases e : i = j
        · subst e
          exact ⟨Nat.le_refl _, fun h => absurd h (by omega)⟩
        · have := (k4 i (by omega)).1
          exact ⟨by omega, fun h => absurd h (by omega)⟩
      · rw [if_neg q]
        rw [k3] at q
        change ¬ l_sp E s dy c l j ≤ l_sp E s dy c l k at q
        refine ⟨k, by omega, k3, fun i hi => ?_⟩
        by_cases e : i = j
        · subst e
          exact ⟨by omega, fun _ => by omega⟩
        · exact k4 i (by omega)
theorem a_rd_rm {E : (Nat → Int32) → Int32} {s : aS} {dy c : Nat} {l : List Nat} (h9 : ∀ k, k < l.length → l_sp E s dy c l k ≤ 999) : a_rd E s dy c l l.length = a_rm E s dy c l l.length := by
  rcases a_rd_c (E := E) (s := s) (dy := dy) (c := c) (l := l) l.length (Nat.le_refl _) with ⟨e0, e1⟩ | ⟨k, k1, k2, k3, k4⟩
  · rcases a_rm_c h9 l.length (Nat.le_refl _) with ⟨f0, f1⟩ | ⟨k', m2, m3, m4⟩
    · rw [e1, f1]
    · omega
  · rcases a_rm_c h9 l.length (Nat.le_refl _) with ⟨f0, f1⟩ | ⟨k', m2, m3, m4⟩
    · omega
    · have e : k = k' := by
        have a1 := k4 k' (by omega) m2
        have a2 := m4 k k2
        rcases Nat.lt_trichotomy k k' with q | q | q
        · have := a1.2 q
          omega
        · exact q
        · have := a2.2 q
          omega
      subst e
      rw [k3, m3]
section
variable {x : tX} {σ u : zS}
theorem z_frR {r : Nat} (hr : z_oR r) (h : z_fr (fun q => q = r + 2) σ u) : cX (fun q => q = 55 ∨ q = 60) (fun _ => False) σ u := h.cX (by omega) (fun q hq => by rcases hr with e | e <;> omega)
theorem cp_room (h : cA x σ) (a : Int32) : z_Ci 5 zm_Walls_room [.inr 0, .inl a] σ (fun r u => r = (to_room x a).1 ∧ cA (to_room x a).2 u ∧ zW σ u) := by
  have h6 := h.1.c6
  refine z_Ci_of (by decide) (Nat.le_of_ble_eq_true rfl) (fun Γ hd he => ?_)
  show z_J Γ zm_Walls_room 0 [some (.inr 0), some (.inl a), none, none, none, none, none, none] [] σ
  refine zb_Walls_room_0 (cc_isColumn z_c33 h.1.fc a) (by omega) (fun r u hr => ?_)
  obtain ⟨rfl, rfl⟩ := hr
  refine zb_Walls_room_8 (fun k => ?_) (fun k => ?_)
  rotate_left
  · rw [z_tf_eq0] at k
    refine zb_Walls_room_11 ?_
    rw [he, to_room, if_neg (by rw [k]; decide)]
    exact ⟨_, rfl, rfl, h, zW.rf⟩
  rw [z_tf_eq0, Bool.not_eq_false] at k
  obtain ⟨c, hc, rfl⟩ := z_isn_t (by omega) k
  rw [to_room, if_pos k, nI_clamp (by omega)] at he
  have hC := h.1.cC hc
  have hor := h.2.2.1.oR
  refine zb_Walls_room_13 hor (lc_holdsUp z_c33 hor hC h.2.2.1.2) (by omega) (fun r u1 hr => ?_)
  obtain ⟨rfl, F1⟩ := hr
  have G1 := z_frR hor F1
  have A1 := h.low (G1.mono (by unfold c_sO; omega) (fun _ h => h))
  refine zb_Walls_room_25 (fun k2 => ?_) (fun k2 => ?_)
  rotate_left
  · rw [z_tf_eq0] at k2
    refine zb_Walls_room_28 ?_
    rw [he, if_neg (by rw [k2]; decide)]
    exact ⟨_, rfl, rfl, A1⟩
  rw [z_tf_eq0, Bool.not_eq_false] at k2
  rw [if_pos k2] at he
  have hho := l_ho_iff.mp k2
  have h36 := l_ab36 h.1.1 hc
  have hsp : ∀ k, k < (v_p (x_v x) c).length → l_br (x_E x) (x_s x) (v_y (x_v x)) c (v_p (x_v x) c) k - nI (l_ab (x_s x) (v_p (x_v x) c) (k + 1)) = nI (l_sp (x_E x) (x_s x) (v_y (x_v x)) c (v_p (x_v x) c) k) ∧ l_sp (x_E x) (x_s x) (v_y (x_v x)) c (v_p (x_v x) c) k ≤ 999 := fun k hk => l_sp_v (hho k hk) (by have := h36 (k + 1); omega)
  have h9 : ∀ k, k < (v_p (x_v x) c).length → l_sp (x_E x) (x_s x) (v_y (x_v x)) c (v_p (x_v x) c) k ≤ 999 := fun k hk => (hsp k hk).2
  have h4 := hC.l4
  have e0 : (0 : Int32) = nI 0 := rfl
  refine zb_Walls_room_31 (k1 := c) (z_ixn (by omega)) ?_
  rw [A1.1.1.fM hc]
  have eab : nI 0 = nI (l_ab (x_s x) (v_p (x_v x) c) (v_p (x_v x) c).length) := by simp [l_ab]
  rw [eab]
  refine zj_forS (b := (v_p (x_v x) c).length) (fun j => [some (.inr 0), some (.inl (nI c)), some (.inl (nI (a_rd (x_E x) (x_s x) (v_y (x_v x)) c (v_p (x_v x) c) j).1)), some (.inl (w_I (a_rd (x_E x) (x_s x) (v_y (x_v x)) c (v_p (x_v x) c) j).2)), some (.inl (nI (l_ab (x_s x) (v_p (x_v x) c) ((v_p (x_v x) c).length - j)))), some (.inl (nI ((v_p (x_v x) c).length - j) - nI 1)), none, none])
    (fun j w => cX (fun q => q = 55 ∨ q = 60) (fun _ => False) u w) (fun j w hj hI kk => ?_) (fun w hI => ?_) 0 (Nat.zero_le _) u1 G1
  · have Aw := h.low (hI.mono (by unfold c_sO; omega) (fun _ h => h))
    have hCw := Aw.1.1.cC hc
    have horw := Aw.1.2.2.1.oR
    have ek : nI ((v_p (x_v x) c).length - j) - nI 1 = nI ((v_p (x_v x) c).length - 1 - j) := by
      rw [pk_sub (by omega)]
      congr 1
      omega
    rw [ek]
    have hk : (v_p (x_v x) c).length - 1 - j < (v_p (x_v x) c).length := by omega
    have hb := hC.mem hk
    have hn := hC.n
    refine zb_Walls_room_53 (fun q => ?_) (fun _ => ?_)
    · rw [e0, zn_lt (by omega) (by omega)] at q
      omega
    refine zb_Walls_room_58 (lc_bookAt z_c33 hCw hk) (by omega) (fun r w1 hr => ?_)
    obtain ⟨rfl, rfl⟩ := hr
    refine zb_Walls_room_68 horw (lc_bearsAt z_c33 horw hCw Aw.1.2.2.1.2 hk) (by omega) (fun r w2 hr => ?_)
    obtain ⟨rfl, F2⟩ := hr
    have G2 := hI.tr (z_frR horw F2)
    have A2 := h.low (G2.mono (by unfold c_sO; omega) (fun _ h => h))
    have ea : (v_p (x_v x) c).length - j = (v_p (x_v x) c).length - 1 - j + 1 := by omega
    have es := (hsp _ hk).1
    rw [← ea] at es
    have hle := h9 _ hk
    have last : ∀ (p : Nat × Option Nat), p = a_rd (x_E x) (x_s x) (v_y (x_v x)) c (v_p (x_v x) c) (j + 1) → z_J Γ zm_Walls_room 106 [some (.inr 0), some (.inl (nI c)), some (.inl (nI p.1)), some (.inl (w_I p.2)), some (.inl (nI (l_ab (x_s x) (v_p (x_v x) c) ((v_p (x_v x) c).length - j)))), some (.inl (nI ((v_p (x_v x) c).length - 1 - j))), some (.inl (nI ((v_p (x_v x) c).getD ((v_p (x_v x) c).length - 1 - j) 0))), none] [] w2 := by
      intro p hp
      refine zb_Walls_room_106 (k1 := (v_p (x_v x) c).getD ((v_p (x_v x) c).length - 1 - j) 0) (z_ixn (by omega)) ?_
      have k3 := kk w2 G2
      rw [← hp, show (v_p (x_v x) c).length - (j + 1) = (v_p (x_v x) c).length - 1 - j by omega, l_ab_step hk, ← ea] at k3
      rw [zn_m1, (A2.1.1.cC hc).fw hb, nI_add, Nat.add_comm (l_ab _ _ _)]
      exact k3
    have yes : ((a_rd (x_E x) (x_s x) (v_y (x_v x)) c (v_p (x_v x) c) j).2 = none ∨ l_sp (x_E x) (x_s x) (v_y (x_v x)) c (v_p (x_v x) c) ((v_p (x_v x) c).length - 1 - j) < (a_rd (x_E x) (x_s x) (v_y (x_v x)) c (v_p (x_v x) c) j).1) → z_J Γ zm_Walls_room 100 [some (.inr 0), some (.inl (nI c)), none, none, some (.inl (nI (l_ab (x_s x) (v_p (x_v x) c) ((v_p (x_v x) c).length - j)))), some (.inl (nI ((v_p (x_v x) c).length - 1 - j))), some (.inl (nI ((v_p (x_v x) c).getD ((v_p (x_v x) c).length - 1 - j) 0))), some (.inl (nI (l_sp (x_E x) (x_s x) (v_y (x_v x)) c (v_p (x_v x) c) ((v_p (x_v x) c).length - 1 - j))))] [] w2 := by
      intro q
      refine zb_Walls_room_100 ?_
      refine last (l_sp (x_E x) (x_s x) (v_y (x_v x)) c (v_p (x_v x) c) ((v_p (x_v x) c).length - 1 - j), some ((v_p (x_v x) c).getD ((v_p (x_v x) c).length - 1 - j) 0)) ?_
      rw [a_rd, if_pos q]
    have hrd : (a_rd (x_E x) (x_s x) (v_y (x_v x)) c (v_p (x_v x) c) j).1 ≤ 999 ∧ ∀ b, (a_rd (x_E x) (x_s x) (v_y (x_v x)) c (v_p (x_v x) c) j).2 = some b → b < 12 := by
      rcases a_rd_c (E := x_E x) (s := x_s x) (dy := v_y (x_v x)) (c := c) (l := v_p (x_v x) c) j (by omega) with ⟨e0, e1⟩ | ⟨k, k1, k2, k3, k4⟩
      · rw [e1]
        exact ⟨Nat.le_refl _, fun b hb => absurd hb (by simp)⟩
      · rw [k3]
        refine ⟨h9 k k2, fun b hb => ?_⟩
        have := hC.mem k2
        simp only [Option.some.injEq] at hb
        omega
    refine zb_Walls_room_84 (fun q => ?_) (fun q => ?_)
    · rw [w_I_some hrd.2 (by omega)] at q
      rw [es]
      exact yes (Or.inl q)
    · rw [w_I_some hrd.2 (by omega)] at q
      rw [es]
      refine zb_Walls_room_94 (fun q2 => ?_) (fun q2 => ?_)
      · rw [zn_le (by omega) (by omega)] at q2
        refine last (a_rd (x_E x) (x_s x) (v_y (x_v x)) c (v_p (x_v x) c) j) ?_
        rw [a_rd, if_neg (fun z => z.elim q (fun z => by omega))]
      · rw [zn_le (by omega) (by omega)] at q2
        exact yes (Or.inr (by omega))
  · have Aw := h.low (hI.mono (by unfold c_sO; omega) (fun _ h => h))
    rw [Nat.sub_self]
    refine zb_Walls_room_53 (fun _ => ?_) (fun q => absurd (by decide) q)
    refine zb_Walls_room_127 (cc_tell _ _) (by omega) (fun u2 h2 => ?_)
    refine zb_Walls_room_132 ?_
    rw [he, ← a_rd_rm h9]
    exact ⟨_, rfl, rfl, h.row ((hI.mono (by unfold c_qO c_sO; omega) (fun _ h => h.elim)).tr (h2.2.mono (fun _ h => Or.inr h) (fun _ h => h))) h2.1⟩
theorem cc_entryOf (k y : Int32) (σ : zS) : z_Ci 0 zm_Walls_entryOf [.inl k, .inl y] σ (z_is (if k = 0 then y.toInt8.toInt32 else if k = nI 1 then y.toInt16.toInt32 else y) σ) := by
  refine z_Ci_of (by decide) (Nat.le_of_ble_eq_true rfl) (fun Γ hd he => ?_)
  show z_J Γ zm_Walls_entryOf 0 [some (.inl k), some (.inl y)] [] σ
  have fin : ∀ z : Int32, z = (if k = 0 then y.toInt8.toInt32 else if k = nI 1 then y.toInt16.toInt32 else y) → z_J Γ zm_Walls_entryOf 20 [none, none] [.inl z] σ := fun z hz => by
    refine zb_Walls_entryOf_20 ?_
    rw [he, hz]
    exact ⟨_, rfl, rfl, rfl⟩
  refine zb_Walls_entryOf_0 (fun p => ?_) (fun p => ?_)
  · refine zb_Walls_entryOf_9 (fun p2 => ?_) (fun p2 => ?_)
    · exact zb_Walls_entryOf_19 (fin _ (by rw [if_neg p, if_neg p2]))
    · exact zb_Walls_entryOf_14 (fin _ (by rw [if_neg p, if_pos p2]))
  · exact zb_Walls_entryOf_4 (fin _ (by rw [if_pos p]))
theorem cp_sheet (h : cA x σ) (k n f st : Int32) : z_Ci 2 zm_Walls_sheet [.inr 0, .inl k, .inl n, .inl f, .inl st] σ (fun r u => r = (to_sheet x k n f st).1 ∧ cA (to_sheet x k n f st).2 u ∧ zW σ u) := by
  have hn := h.1.n
  refine z_Ci_of (by decide) (Nat.le_of_ble_eq_true rfl) (fun Γ hd he => ?_)
  show z_J Γ zm_Walls_sheet 0 [some (.inr 0), some (.inl k), some (.inl n), some (.inl f), some (.inl st), none, none, none] [] σ
  have e0 : (0 : Int32) = nI 0 := rfl
  have no : ¬ ((nI 0 ≤ k ∧ k ≤ nI 3) ∧ n ≤ nI 12) → z_J Γ zm_Walls_sheet 15 [none, none, none, none, none, none, none, none] [] σ := fun q => by
    refine zb_Walls_sheet_15 ?_
    rw [he, to_sheet, if_neg q]
    exact ⟨_, rfl, rfl, h, zW.rf⟩
  refine zb_Walls_sheet_0 (fun q => no (fun p => ?_)) (fun q => ?_)
  · rw [e0] at q
    exact absurd p.1.1 (Int32.not_le.mpr q)
  refine zb_Walls_sheet_4 (fun q1 => no (fun p => absurd p.1.2 (Int32.not_le.mpr q1))) (fun q1 => ?_)
  refine zb_Walls_sheet_9 (fun q2 => ?_) (fun q2 => no (fun p => q2 p.2))
  rw [e0] at q
  have hq : nI 0 ≤ k ∧ k ≤ nI 3 := ⟨Int32.not_lt.mp q, Int32.not_lt.mp q1⟩
  rw [to_sheet, if_pos ⟨hq, q2⟩] at he
  have k3 : nI 3 ≤ k ↔ k = nI 3 := ⟨fun z => Int32.le_antisymm hq.2 z, fun z => by rw [z]; exact Int32.le_refl _⟩
  have go : ¬ (¬ nI 3 ≤ k ∧ ¬ 0 ≤ n) → z_J Γ zm_Walls_sheet 29 [some (.inr 0), some (.inl k), some (.inl n), some (.inl f), some (.inl st), none, none, none] [] σ := by
    intro q3
    rw [if_neg q3] at he
    have run : ∀ m : Int32, (∀ i, (m ≤ nI i ↔ (k = nI 3 ∨ ¬ nI i < n)) ∨ 12 ≤ i) → z_J Γ zm_Walls_sheet 39 [some (.inr 0), some (.inl k), none, some (.inl f), some (.inl st), none, none, none] [.inl m] σ := by
      intro m hm
      refine zb_Walls_sheet_39 ?_
      refine zj_forS (b := s_n (x_s x)) (fun i => [some (.inr 0), some (.inl k), none, some (.inl f), some (.inl st), some (.inl m), some (.inl (nI (x_shs k n f st i))), some (.inl (nI i))])
        (fun i u => (∀ j, j < i → u.1 34 j = nI (x_shn k n f st j)) ∧ z_fr (fun q => q = 34) σ u) (fun i u hi hI kk => ?_) (fun u hI => ?_) 0 (Nat.zero_le _) _ ⟨fun _ q => absurd q (by omega), z_fr.rf⟩
      · obtain ⟨r1, r2⟩ := hI
        have ef1 : u.1 33 0 = nI (s_n (x_s x)) := by rw [(r2 33 (by decide)).1]; exact h.1.fn
        refine zb_Walls_sheet_47 (fun q => ?_) (fun _ => ?_)
        · rw [ef1] at q
          exact absurd q (nI_ge hi (by omega))
        have hmi := (hm i).resolve_right (by omega)
        have last : ∀ y : Int32, y = x_she k n f st i → z_J Γ zm_Walls_sheet 96 [some (.inr 0), some (.inl k), none, some (.inl f), some (.inl st), some (.inl m), some (.inl (nI (x_shs k n f st i))), some (.inl (nI i))] [.inl y, .inl (nI i), .inr 34] u := by
          intro y hy
          refine zb_Walls_sheet_96 (k1 := i) (k2 := i) (z_ixn (by omega)) (z_ixn (by omega)) ?_
          rw [z_pI_at, hy, (x_she_n k n f st i).1, nI_add, nI_add]
          refine kk _ ⟨fun j hj => ?_, r2.pI rfl⟩
          by_cases e : j = i
          · subst e
            exact z_pI_at _ _ _ _
          · rw [z_pI_ne2 e]
            exact r1 j (by omega)
        refine zb_Walls_sheet_59 (fun p => ?_) (fun p => ?_)
        · refine zb_Walls_sheet_95 (last _ ?_)
          rw [x_she, if_pos (hmi.mp p)]
        · refine zb_Walls_sheet_75 (cc_entryOf _ _ _) (by omega) (fun r u1 hr => ?_)
          obtain ⟨rfl, rfl⟩ := hr
          refine zb_Walls_sheet_87 (wc_between _ _ _ _) (by omega) (fun r u2 hr => ?_)
          obtain ⟨rfl, rfl⟩ := hr
          refine zb_Walls_sheet_92 (last _ ?_)
          rw [x_she, if_neg (fun z => p (hmi.mpr z)), z_min_comm]
      · obtain ⟨r1, r2⟩ := hI
        have ef1 : u.1 33 0 = nI (s_n (x_s x)) := by rw [(r2 33 (by decide)).1]; exact h.1.fn
        have fin : ∀ y : Int32, y = (if k = nI 3 then -3 else nI (x_shs k n f st (s_n (x_s x)))) → z_J Γ zm_Walls_sheet 130 [none, none, none, none, none, none, none, none] [.inl y] u := by
          intro y hy
          refine zb_Walls_sheet_130 ?_
          rw [he, hy]
          have qX : cX (fun q => q = 34) (fun _ => False) σ u := r2.cX (by decide) (fun _ h => h)
          have hth : ∀ b, b < s_n (x_s x) → 1 ≤ x_shn k n f st b ∧ x_shn k n f st b ≤ 9 := fun b _ => (x_she_n k n f st b).2
          obtain ⟨H1, H2, nx, H3, H4, H5⟩ := h.2.1.keepX qX (by decide) (by omega)
          refine ⟨_, rfl, rfl, ⟨⟨h.1.1.th hth, ⟨ef1, ?_, ?_, fun b hb => r1 b hb, ?_, ?_⟩, ?_⟩, ⟨H1, H2, nx, H3, H4, fun i w hw => ⟨(H5 i w hw).1.th hth, (H5 i w hw).2⟩⟩, h.2.2.1.keepX qX (by decide), h.2.2.2.1.keepX qX (by decide) id, h.2.2.2.2.1.keepX qX (by decide) id, h.2.2.2.2.2.1.keepX qX (by decide), fun i hi => ?_⟩, qX.toW (by omega)⟩
          · rw [(r2 33 (by decide)).1]; exact h.1.fc
          · rw [(r2 33 (by decide)).1]; exact h.1.fr
          · rw [(r2 (33 + 2) (by decide)).1]; exact h.1.2.1.2.2.2.2.1
          · rw [(r2 (33 + 8) (by decide)).1]; exact h.1.2.1.2.2.2.2.2
          · rw [(r2 (33 + 3) (by decide)).1, (r2 (33 + 4) (by decide)).1, (r2 (33 + 5) (by decide)).1, (r2 (33 + 6) (by decide)).1, (r2 (33 + 7) (by decide)).1, (r2 (33 + 9) (by decide)).1, (r2 33 (by decide)).1]; exact h.1.2.2
          · obtain ⟨k1, k2⟩ := h.2.2.2.2.2.2.keepX qX (by decide) i hi
            exact ⟨k1, fun w hw => ⟨(k2 w hw).1, (k2 w hw).2.1.th hth, (k2 w hw).2.2⟩⟩
        refine zb_Walls_sheet_47 (fun _ => ?_) (fun q => ?_)
        rotate_left
        · rw [ef1] at q
          exact absurd (Int32.le_refl _) q
        refine zb_Walls_sheet_118 (fun p => ?_) (fun p => ?_)
        · exact zb_Walls_sheet_128 (fin _ (by rw [if_neg p]))
        · exact zb_Walls_sheet_123 (fin _ (by rw [if_pos p]))
    refine zb_Walls_sheet_29 (fun p => ?_) (fun p => ?_)
    · refine zb_Walls_sheet_38 (run n (fun i => Or.inl ⟨fun z => Or.inr (Int32.not_lt.mpr z), fun z => z.elim (fun z => absurd z p) (fun z => Int32.not_lt.mp z)⟩))
    · refine zb_Walls_sheet_34 (run (nI 0) (fun i => ?_))
      rcases Nat.lt_or_ge i 12 with q | q
      · exact Or.inl ⟨fun _ => Or.inl p, fun _ => nI_le (Nat.zero_le _) (by omega)⟩
      · exact Or.inr q
  refine zb_Walls_sheet_17 (fun p => go (fun z => z.1 (k3.mpr p))) (fun p => ?_)
  refine zb_Walls_sheet_22 (fun p2 => go (fun z => z.2 p2)) (fun p2 => ?_)
  refine zb_Walls_sheet_26 ?_
  rw [he, if_pos ⟨fun z => p (k3.mp z), p2⟩]
  exact ⟨_, rfl, rfl, h, zW.rf⟩
end
