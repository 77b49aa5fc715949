/-! the program: books, readers told as texts -/
section
variable {x : tX} {σ u : zS}
theorem cA.t0 (h : cA x σ) : cA (x_t0 x) (z_pI σ 0 1 (nI 0)) ∧ zW σ (z_pI σ 0 1 (nI 0)) ∧ ∀ i, i < x_L x → (z_pI σ 0 1 (nI 0)).1 1 i = nI (x_X x i) := by
  have q4 : cX (fun _ => False) (fun k => k = 1) σ (z_pI σ 0 1 (nI 0)) := cX.pK cX.rf rfl
  refine ⟨⟨h.1.cX33 q4 (fun _ _ _ => id), h.2.1.keepX q4 id (fun _ _ _ => id), h.2.2.1.keepX q4 ⟨id, id, id, id⟩, ⟨show 0 ≤ 80 by decide, z_pI_at _ _ _ _, fun i hi => absurd (show i < 0 from hi) (Nat.not_lt_zero i)⟩, h.2.2.2.2.1.keepX q4 id (by decide), h.2.2.2.2.2.1.keepX q4 id, h.2.2.2.2.2.2.keepX q4 ⟨id, id, id⟩⟩, q4.toW (fun _ h => h.elim), fun i hi => ?_⟩
  rw [z_pI_ne (by decide)]
  exact (h.2.2.2.1.2.2 i hi).2
theorem cc_isDigit {c : Nat} (hc : c < 256) (σ : zS) : z_Ci 0 zm_Walls_isDigit [.inl (nI c)] σ (z_is (z_tf (decide (48 ≤ c ∧ c < 58))) σ) := by
  refine z_Ci_of (by decide) (Nat.le_of_ble_eq_true rfl) (fun Γ hd he => ?_)
  show z_J Γ zm_Walls_isDigit 0 [some (.inl (nI c))] [] σ
  have no : ¬ (48 ≤ c ∧ c < 58) → z_J Γ zm_Walls_isDigit 16 [none] [] σ := fun q => by
    refine zb_Walls_isDigit_16 (zb_Walls_isDigit_17 ?_ (Or.inl rfl))
    rw [he, decide_eq_false q]
    exact ⟨_, rfl, rfl, rfl⟩
  refine zb_Walls_isDigit_0 (fun p => no ?_) (fun p => ?_)
  · rw [zn_lt (by omega) (by omega)] at p
    omega
  rw [zn_lt (by omega) (by omega)] at p
  refine zb_Walls_isDigit_6 (fun p2 => no ?_) (fun p2 => ?_)
  · rw [zn_lt (by omega) (by omega)] at p2
    omega
  rw [zn_lt (by omega) (by omega)] at p2
  refine zb_Walls_isDigit_12 (zb_Walls_isDigit_17 ?_ (Or.inr rfl))
  rw [he, decide_eq_true (show 48 ≤ c ∧ c < 58 by omega)]
  exact ⟨_, rfl, rfl, rfl⟩
theorem cc_canStandInBooks {n i c : Nat} (hn : n ≤ 12) (hf : σ.1 33 0 = nI n) (hi : i < 80) (hc : c < 256) : z_Ci 1 zm_Walls_canStandInBooks [.inr 0, .inl (nI i), .inl (nI c)] σ (z_is (z_tf (if i % 3 = 0 then decide (49 ≤ c ∧ c < 58) && decide (n + i / 3 < 12) else if i % 3 = 1 then decide (48 ≤ c ∧ c < 58) else decide (c = 59))) σ) := by
  refine z_Ci_of (by decide) (Nat.le_of_ble_eq_true rfl) (fun Γ hd he => ?_)
  show z_J Γ zm_Walls_canStandInBooks 0 [some (.inr 0), some (.inl (nI i)), some (.inl (nI c))] [] σ
  have er : nI i - nI i / nI 3 * nI 3 = nI (i % 3) := zn_rem (by omega) (by omega) (by omega)
  refine zb_Walls_canStandInBooks_0 (fun k1 k2 => ?_) (fun k => ?_) (fun k => ?_)
  · rw [er, nI_toInt (by omega)] at k1 k2
    have e0 : ¬ i % 3 = 0 := by omega
    have e1 : ¬ i % 3 = 1 := by omega
    rw [if_neg e0, if_neg e1] at he
    refine zb_Walls_canStandInBooks_67 (fun p => ?_) (fun p => ?_)
    · rw [zn_eq (by omega) (by omega)] at p
      refine zb_Walls_canStandInBooks_77 (zb_Walls_canStandInBooks_78 ?_ (Or.inl rfl))
      rw [he, decide_eq_false p]
      exact ⟨_, rfl, rfl, rfl⟩
    · rw [zn_eq (by omega) (by omega)] at p
      refine zb_Walls_canStandInBooks_73 (zb_Walls_canStandInBooks_78 ?_ (Or.inr rfl))
      rw [he, decide_eq_true p]
      exact ⟨_, rfl, rfl, rfl⟩
  · rw [er, zn_eq (by omega) (by omega)] at k
    rw [if_pos k] at he
    have no : ¬ ((49 ≤ c ∧ c < 58) ∧ n + i / 3 < 12) → z_J Γ zm_Walls_canStandInBooks 60 [none, none, none] [] σ := fun q => by
      refine zb_Walls_canStandInBooks_60 (zb_Walls_canStandInBooks_61 ?_ (Or.inl rfl))
      have : (decide (49 ≤ c ∧ c < 58) && decide (n + i / 3 < 12)) = false := by
        rw [Bool.eq_false_iff]
        intro z
        rw [Bool.and_eq_true, decide_eq_true_eq, decide_eq_true_eq] at z
        exact q z
      rw [he, this]
      exact ⟨_, rfl, rfl, rfl⟩
    refine zb_Walls_canStandInBooks_28 (fun p => no ?_) (fun p => ?_)
    · rw [zn_lt (by omega) (by omega)] at p
      omega
    rw [zn_lt (by omega) (by omega)] at p
    refine zb_Walls_canStandInBooks_34 (fun p2 => no ?_) (fun p2 => ?_)
    · rw [zn_lt (by omega) (by omega)] at p2
      omega
    rw [zn_lt (by omega) (by omega)] at p2
    refine zb_Walls_canStandInBooks_40 (fun p3 => no ?_) (fun p3 => ?_)
    · rw [hf, pk_div (by omega) (by omega) (by omega), nI_add, zn_le (by omega) (by omega)] at p3
      omega
    rw [hf, pk_div (by omega) (by omega) (by omega), nI_add, zn_le (by omega) (by omega)] at p3
    refine zb_Walls_canStandInBooks_56 (zb_Walls_canStandInBooks_61 ?_ (Or.inr rfl))
    rw [he, decide_eq_true (show 49 ≤ c ∧ c < 58 by omega), decide_eq_true (show n + i / 3 < 12 by omega)]
    exact ⟨_, rfl, rfl, rfl⟩
  · rw [er, zn_eq (by omega) (by omega)] at k
    rw [if_neg (by omega), if_pos k] at he
    refine zb_Walls_canStandInBooks_62 (cc_isDigit hc _) (by omega) (fun r u hr => ?_)
    obtain ⟨rfl, rfl⟩ := hr
    refine zb_Walls_canStandInBooks_66 ?_ (z_tf01 _)
    rw [he]
    exact ⟨_, rfl, rfl, rfl⟩
theorem cc_badSignOfBooks {n L : Nat} {X : Nat → Nat} (hn : n ≤ 12) (hf : σ.1 33 0 = nI n) (hL : L ≤ 80) (hX : ∀ i, i < L → X i < 256 ∧ σ.1 1 i = nI (X i)) : z_Ci 2 zm_Walls_badSignOfBooks [.inr 0, .inl (nI L)] σ (z_is (w_I (sc_b (bk_ok n X) (decide (L % 3 = 2)) L)) σ) := by
  refine z_Ci_of (by decide) (Nat.le_of_ble_eq_true rfl) (fun Γ hd he => ?_)
  show z_J Γ zm_Walls_badSignOfBooks 0 [some (.inr 0), some (.inl (nI L)), none] [] σ
  refine zb_Walls_badSignOfBooks_0 ?_
  refine zj_forM (fun k Ls w => ∃ i, k = L - i ∧ i ≤ L ∧ Ls = [some (.inr 0), some (.inl (nI L)), some (.inl (nI i))] ∧ (∀ j, j < i → bk_ok n X j = true) ∧ w = σ) (fun k Ls w hI kk => ?_) L _ σ ⟨0, rfl, Nat.zero_le _, rfl, fun j hj => absurd hj (by omega), rfl⟩
  obtain ⟨i, rfl, hi, rfl, hok, rfl⟩ := hI
  refine zb_Walls_badSignOfBooks_2 (fun p => ?_) (fun p => ?_)
  · rw [zn_le (by omega) (by omega)] at p
    have e : i = L := by omega
    subst e
    rw [sc_b_end hok] at he
    have er : nI i - nI i / nI 3 * nI 3 = nI (i % 3) := zn_rem (by omega) (by omega) (by omega)
    refine zb_Walls_badSignOfBooks_35 (fun p2 => ?_) (fun p2 => ?_)
    · rw [er, zn_eq (by omega) (by omega)] at p2
      refine zb_Walls_badSignOfBooks_46 (zb_Walls_badSignOfBooks_47 ?_)
      rw [he, decide_eq_false p2, if_neg (by decide)]
      exact ⟨_, rfl, rfl, rfl⟩
    · rw [er, zn_eq (by omega) (by omega)] at p2
      refine zb_Walls_badSignOfBooks_42 (zb_Walls_badSignOfBooks_47 ?_)
      rw [he, decide_eq_true p2, if_pos rfl]
      exact ⟨_, rfl, rfl, rfl⟩
  rw [zn_le (by omega) (by omega)] at p
  have bad : bk_ok n X i = false → z_J Γ zm_Walls_badSignOfBooks 27 [none, none, some (.inl (nI i))] [] w := fun hb => by
    refine zb_Walls_badSignOfBooks_27 ?_
    rw [he, sc_b_at hok (by omega) hb]
    exact ⟨_, rfl, rfl, rfl⟩
  refine zb_Walls_badSignOfBooks_7 (fun p2 => bad ?_) (fun p2 => ?_)
  · rw [zn_eq (by omega) (by omega)] at p2
    subst p2
    rfl
  rw [zn_eq (by omega) (by omega)] at p2
  obtain ⟨x1, x2⟩ := hX i (by omega)
  refine zb_Walls_badSignOfBooks_13 (k1 := i) (dc := 1) (P := z_is (z_tf (if i % 3 = 0 then decide (49 ≤ X i ∧ X i < 58) && decide (n + i / 3 < 12) else if i % 3 = 1 then decide (48 ≤ X i ∧ X i < 58) else decide (X i = 59))) w) (z_ixn (by omega)) (by rw [x2]; exact cc_canStandInBooks hn hf (by omega) x1) (by omega) (fun r u hr => ?_)
  obtain ⟨rfl, rfl⟩ := hr
  have hb : bk_ok n X i = (if i % 3 = 0 then decide (49 ≤ X i ∧ X i < 58) && decide (n + i / 3 < 12) else if i % 3 = 1 then decide (48 ≤ X i ∧ X i < 58) else decide (X i = 59)) := by
    unfold bk_ok
    rw [decide_eq_true p2, Bool.true_and]
  refine zb_Walls_badSignOfBooks_24 (fun p3 => ?_) (fun p3 => ?_)
  · rw [z_tf_eq0, Bool.not_eq_false, ← hb] at p3
    refine zb_Walls_badSignOfBooks_29 ?_
    rw [nI_add]
    refine kk _ _ u (show L - (i + 1) < L - i by omega) ⟨i + 1, rfl, by omega, rfl, fun j hj => ?_, rfl⟩
    by_cases e : j = i
    · subst e
      exact p3
    · exact hok j (by omega)
  · rw [z_tf_eq0, ← hb] at p3
    exact bad p3
theorem sc_b_lt {ok : Nat → Bool} {fin : Bool} {L p : Nat} (h : sc_b ok fin L = some p) : p ≤ L := by
  unfold sc_b at h
  split at h
  · rename_i i hi
    rw [Option.some.injEq] at h
    subst h
    exact Nat.le_of_lt (List.mem_range.mp (List.mem_of_find?_eq_some hi))
  · split at h
    · exact absurd h (by simp)
    · rw [Option.some.injEq] at h
      omega
theorem sc_b_none {ok : Nat → Bool} {fin : Bool} {L : Nat} (h : sc_b ok fin L = none) : (∀ j, j < L → ok j = true) ∧ fin = true := by
  unfold sc_b at h
  split at h
  · exact absurd h (by simp)
  · rename_i hi
    split at h
    · rename_i hf
      refine ⟨fun j hj => ?_, hf⟩
      rw [List.find?_eq_none] at hi
      have := hi j (List.mem_range.mpr hj)
      simpa using this
    · exact absurd h (by simp)
theorem cp_books (h : cA x σ) : z_Ci 4 zm_Walls_books [.inr 0] σ (fun r u => r = (to_books x).1 ∧ cA (to_books x).2 u ∧ zW σ u) := by
  obtain ⟨t1, t2, t3⟩ := id h.2.2.2.1
  obtain ⟨h0, z0, hX0⟩ := h.t0
  have hn := h.1.n
  have e0 : (0 : Int32) = nI 0 := rfl
  refine z_Ci_of (by decide) (Nat.le_of_ble_eq_true rfl) (fun Γ hd he => ?_)
  show z_J Γ zm_Walls_books 0 [some (.inr 0), none, none, none] [] σ
  refine zb_Walls_books_0 (cc_takeText σ) (by omega) (fun r u hr => ?_)
  obtain ⟨rfl, hu⟩ := hr
  rw [← hu] at h0 z0 hX0
  clear hu
  rw [t2]
  refine zb_Walls_books_4 (fun p => ?_) (fun p => ?_)
  rotate_left
  · rw [e0, zn_eq (by omega) (by omega)] at p
    refine zb_Walls_books_9 ?_
    rw [he, to_books, if_pos p]
    exact ⟨_, rfl, rfl, h0, z0⟩
  rw [e0, zn_eq (by omega) (by omega)] at p
  rw [to_books, if_neg p] at he
  refine zb_Walls_books_11 (cc_badSignOfBooks hn h0.1.fn t1 (fun i hi => ⟨(t3 i hi).1, hX0 i hi⟩)) (by omega) (fun r u2 hr => ?_)
  obtain ⟨rfl, rfl⟩ := hr
  cases hb : bk_b x with
  | some q =>
    rw [hb] at he
    have hq := sc_b_lt hb
    have hb' : sc_b (bk_ok (s_n (x_s x)) (x_X x)) (decide (x_L x % 3 = 2)) (x_L x) = some q := hb
    rw [hb']
    refine zb_Walls_books_16 (fun z => ?_) (fun _ => ?_)
    · exact absurd z (zn_neg1 (by omega))
    refine zb_Walls_books_22 ?_
    rw [he]
    exact ⟨_, rfl, rfl, h0, z0⟩
  | none =>
    rw [hb] at he
    obtain ⟨hok, hfin⟩ := sc_b_none hb
    have hb' : sc_b (bk_ok (s_n (x_s x)) (x_X x)) (decide (x_L x % 3 = 2)) (x_L x) = none := hb
    rw [hb']
    rw [decide_eq_true_eq] at hfin
    refine zb_Walls_books_16 (fun _ => ?_) (fun z => absurd rfl z)
    refine zb_Walls_books_26 ?_
    refine zj_forS (b := (x_L x + 1) / 3) (fun k => [some (.inr 0), some (.inl (nI (x_L x))), none, some (.inl (nI (3 * k)))])
      (fun k w => cR (bk_s (x_s x) (x_X x) k) (x_v x) w 33 ∧ cX (fun q => 33 ≤ q ∧ q ≤ 42) (fun _ => False) u2 w) (fun k w hk hI kk => ?_) (fun w hI => ?_) 0 (Nat.zero_le _) u2 ⟨h0.1, cX.rf⟩
    · obtain ⟨q1, q2⟩ := hI
      have eX : ∀ i, i < x_L x → w.1 1 i = nI (x_X x i) := fun i hi => by rw [(q2.1 1 (by decide) (by decide)).1]; exact hX0 i hi
      have o1 := hok (3 * k) (by omega)
      have o2 := hok (3 * k + 1) (by omega)
      unfold bk_ok at o1 o2
      rw [if_pos (by omega)] at o1
      rw [if_neg (by omega), if_pos (by omega)] at o2
      simp only [Bool.and_eq_true, decide_eq_true_eq] at o1 o2
      have es := (bk_s_n (x_s x) (x_X x) k).1
      refine zb_Walls_books_28 (fun z => ?_) (fun _ => ?_)
      · rw [nI_add, zn_le (by omega) (by omega)] at z
        omega
      refine zb_Walls_books_35 (k1 := 3 * k) (k2 := 3 * k + 1) (dc := 3) (P := fun u => cR (s_add (bk_s (x_s x) (x_X x) k) (x_X x (3 * k) - 48) (x_X x (3 * k + 1) - 48)) (x_v x) u 33 ∧ z_fr (z_F09 33) w u) (z_ixn (by omega)) ⟨nI_add _ _, by omega⟩ ?_ (by omega) (fun w2 h2 => ?_)
      · rw [eX _ (by omega), eX _ (by omega), pk_sub (by omega), pk_sub (by omega)]
        exact cc_addBook z_c33 q1 (by omega) (by omega) (by omega)
      · obtain ⟨r2, F2⟩ := h2
        refine zb_Walls_books_62 ?_
        rw [nI_add, show 3 * k + 3 = 3 * (k + 1) by omega]
        exact kk w2 ⟨r2, q2.tr (F2.cX (by show ¬ (33 ≤ 0 ∧ 0 ≤ 42); omega) (fun q hq => hq))⟩
    · obtain ⟨q1, q2⟩ := hI
      refine zb_Walls_books_28 (fun _ => ?_) (fun z => ?_)
      rotate_left
      · rw [nI_add, zn_le (by omega) (by omega)] at z
        omega
      obtain ⟨nx, n1, n2⟩ := h0.nx
      refine zb_Walls_books_68 (cc_forgetPast (bk_s (x_s x) (x_X x) ((x_L x + 1) / 3)) ⟨nx, n1, by rw [(q2.1 11 (by decide) (by decide)).1]; exact n2⟩) (by omega) (fun w2 h2 => ?_)
      obtain ⟨H2, K2, F2⟩ := h2
      refine zb_Walls_books_72 ?_
      rw [nI_add, pk_div (by omega) (by omega) (by omega), he]
      have F : cX (fun q => (33 ≤ q ∧ q ≤ 42) ∨ q = 11 ∨ q = 6) (fun _ => False) u2 w2 := (q2.mono (fun _ h => Or.inl h) (fun _ h => h)).tr (F2.mono (fun _ h => Or.inr h) (fun _ h => h))
      refine ⟨_, rfl, rfl, ⟨q1.cX33 F2 (by omega), H2, h0.2.2.1.keepX F (by omega), h0.2.2.2.1.keepX F (by omega) id, h0.2.2.2.2.1.keepX F (by omega) id, ?_, K2⟩, z0.tr (F.toW (by omega))⟩
      intro c hc
      change c < s_c (bk_s (x_s x) (x_X x) ((x_L x + 1) / 3)) at hc
      rw [(bk_s_n (x_s x) (x_X x) _).2.1] at hc
      exact h0.2.2.2.2.2.1.keepX F (by omega) c hc
theorem cc_canStandInReaders {n i c : Nat} (hn : n ≤ 4) (hf : σ.1 33 9 = nI n) (hi : i < 80) (hc : c < 256) : z_Ci 1 zm_Walls_canStandInReaders [.inr 0, .inl (nI i), .inl (nI c)] σ (z_is (z_tf (if i % 2 = 1 then decide (c = 59) else decide (48 ≤ c ∧ c < 58) && decide (n + i / 2 < 4))) σ) := by
  refine z_Ci_of (by decide) (Nat.le_of_ble_eq_true rfl) (fun Γ hd he => ?_)
  show z_J Γ zm_Walls_canStandInReaders 0 [some (.inr 0), some (.inl (nI i)), some (.inl (nI c))] [] σ
  have er : nI i - nI i / nI 2 * nI 2 = nI (i % 2) := zn_rem (by omega) (by omega) (by omega)
  refine zb_Walls_canStandInReaders_0 (fun k => ?_) (fun k => ?_)
  · rw [er, zn_eq (by omega) (by omega)] at k
    rw [if_neg k] at he
    refine zb_Walls_canStandInReaders_19 (cc_isDigit hc _) (by omega) (fun r u hr => ?_)
    obtain ⟨rfl, rfl⟩ := hr
    have no : ¬ ((48 ≤ c ∧ c < 58) ∧ n + i / 2 < 4) → z_J Γ zm_Walls_canStandInReaders 45 [none, none, none] [] u := fun q => by
      refine zb_Walls_canStandInReaders_45 (zb_Walls_canStandInReaders_46 ?_ (Or.inl rfl))
      have : (decide (48 ≤ c ∧ c < 58) && decide (n + i / 2 < 4)) = false := by
        rw [Bool.eq_false_iff]
        intro z
        rw [Bool.and_eq_true, decide_eq_true_eq, decide_eq_true_eq] at z
        exact q z
      rw [he, this]
      exact ⟨_, rfl, rfl, rfl⟩
    refine zb_Walls_canStandInReaders_23 (fun p => no (fun q => ?_)) (fun p => ?_)
    · rw [z_tf_eq0, decide_eq_false_iff_not] at p
      exact p q.1
    rw [z_tf_eq0, Bool.not_eq_false, decide_eq_true_eq] at p
    refine zb_Walls_canStandInReaders_26 (fun p3 => no ?_) (fun p3 => ?_)
    · rw [hf, pk_div (by omega) (by omega) (by omega), nI_add, zn_le (by omega) (by omega)] at p3
      omega
    rw [hf, pk_div (by omega) (by omega) (by omega), nI_add, zn_le (by omega) (by omega)] at p3
    refine zb_Walls_canStandInReaders_41 (zb_Walls_canStandInReaders_46 ?_ (Or.inr rfl))
    rw [he, decide_eq_true p, decide_eq_true (show n + i / 2 < 4 by omega)]
    exact ⟨_, rfl, rfl, rfl⟩
  · rw [er, zn_eq (by omega) (by omega)] at k
    rw [if_pos k] at he
    refine zb_Walls_canStandInReaders_7 (fun p => ?_) (fun p => ?_)
    · rw [zn_eq (by omega) (by omega)] at p
      refine zb_Walls_canStandInReaders_17 (zb_Walls_canStandInReaders_18 ?_ (Or.inl rfl))
      rw [he, decide_eq_false p]
      exact ⟨_, rfl, rfl, rfl⟩
    · rw [zn_eq (by omega) (by omega)] at p
      refine zb_Walls_canStandInReaders_13 (zb_Walls_canStandInReaders_18 ?_ (Or.inr rfl))
      rw [he, decide_eq_true p]
      exact ⟨_, rfl, rfl, rfl⟩
theorem cc_badSignOfReaders {n L : Nat} {X : Nat → Nat} (hn : n ≤ 4) (hf : σ.1 33 9 = nI n) (hL : L ≤ 80) (hX : ∀ i, i < L → X i < 256 ∧ σ.1 1 i = nI (X i)) : z_Ci 2 zm_Walls_badSignOfReaders [.inr 0, .inl (nI L)] σ (z_is (w_I (sc_b (rs_ok n X) (decide (L % 2 = 1)) L)) σ) := by
  refine z_Ci_of (by decide) (Nat.le_of_ble_eq_true rfl) (fun Γ hd he => ?_)
  show z_J Γ zm_Walls_badSignOfReaders 0 [some (.inr 0), some (.inl (nI L)), none] [] σ
  refine zb_Walls_badSignOfReaders_0 ?_
  refine zj_forM (fun k Ls w => ∃ i, k = L - i ∧ i ≤ L ∧ Ls = [some (.inr 0), some (.inl (nI L)), some (.inl (nI i))] ∧ (∀ j, j < i → rs_ok n X j = true) ∧ w = σ) (fun k Ls w hI kk => ?_) L _ σ ⟨0, rfl, Nat.zero_le _, rfl, fun j hj => absurd hj (by omega), rfl⟩
  obtain ⟨i, rfl, hi, rfl, hok, rfl⟩ := hI
  refine zb_Walls_badSignOfReaders_2 (fun p => ?_) (fun p => ?_)
  · rw [zn_le (by omega) (by omega)] at p
    have e : i = L := by omega
    subst e
    rw [sc_b_end hok] at he
    have er : nI i - nI i / nI 2 * nI 2 = nI (i % 2) := zn_rem (by omega) (by omega) (by omega)
    refine zb_Walls_badSignOfReaders_35 (fun p2 => ?_) (fun p2 => ?_)
    · rw [er, zn_eq (by omega) (by omega)] at p2
      refine zb_Walls_badSignOfReaders_46 (zb_Walls_badSignOfReaders_47 ?_)
      rw [he, decide_eq_false p2, if_neg (by decide)]
      exact ⟨_, rfl, rfl, rfl⟩
    · rw [er, zn_eq (by omega) (by omega)] at p2
      refine zb_Walls_badSignOfReaders_42 (zb_Walls_badSignOfReaders_47 ?_)
      rw [he, decide_eq_true p2, if_pos rfl]
      exact ⟨_, rfl, rfl, rfl⟩
  rw [zn_le (by omega) (by omega)] at p
  have bad : rs_ok n X i = false → z_J Γ zm_Walls_badSignOfReaders 27 [none, none, some (.inl (nI i))] [] w := fun hb => by
    refine zb_Walls_badSignOfReaders_27 ?_
    rw [he, sc_b_at hok (by omega) hb]
    exact ⟨_, rfl, rfl, rfl⟩
  refine zb_Walls_badSignOfReaders_7 (fun p2 => bad ?_) (fun p2 => ?_)
  · rw [zn_eq (by omega) (by omega)] at p2
    subst p2
    rfl
  rw [zn_eq (by omega) (by omega)] at p2
  obtain ⟨x1, x2⟩ := hX i (by omega)
  refine zb_Walls_badSignOfReaders_13 (k1 := i) (dc := 1) (P := z_is (z_tf (if i % 2 = 1 then decide (X i = 59) else decide (48 ≤ X i ∧ X i < 58) && decide (n + i / 2 < 4))) w) (z_ixn (by omega)) (by rw [x2]; exact cc_canStandInReaders hn hf (by omega) x1) (by omega) (fun r u hr => ?_)
  obtain ⟨rfl, rfl⟩ := hr
  have hb : rs_ok n X i = (if i % 2 = 1 then decide (X i = 59) else decide (48 ≤ X i ∧ X i < 58) && decide (n + i / 2 < 4)) := by
    unfold rs_ok
    rw [decide_eq_true p2, Bool.true_and]
  refine zb_Walls_badSignOfReaders_24 (fun p3 => ?_) (fun p3 => ?_)
  · rw [z_tf_eq0, Bool.not_eq_false, ← hb] at p3
    refine zb_Walls_badSignOfReaders_29 ?_
    rw [nI_add]
    refine kk _ _ u (show L - (i + 1) < L - i by omega) ⟨i + 1, rfl, by omega, rfl, fun j hj => ?_, rfl⟩
    by_cases e : j = i
    · subst e
      exact p3
    · exact hok j (by omega)
  · rw [z_tf_eq0, ← hb] at p3
    exact bad p3
theorem cp_readers (h : cA x σ) : z_Ci 4 zm_Walls_readers [.inr 0] σ (fun r u => r = (to_readers x).1 ∧ cA (to_readers x).2 u ∧ zW σ u) := by
  obtain ⟨t1, t2, t3⟩ := id h.2.2.2.1
  obtain ⟨h0, z0, hX0⟩ := h.t0
  have hn := h.1.r4
  have e0 : (0 : Int32) = nI 0 := rfl
  refine z_Ci_of (by decide) (Nat.le_of_ble_eq_true rfl) (fun Γ hd he => ?_)
  show z_J Γ zm_Walls_readers 0 [some (.inr 0), none, none, none] [] σ
  refine zb_Walls_readers_0 (cc_takeText σ) (by omega) (fun r u hr => ?_)
  obtain ⟨rfl, hu⟩ := hr
  rw [← hu] at h0 z0 hX0
  clear hu
  rw [t2]
  refine zb_Walls_readers_4 (fun p => ?_) (fun p => ?_)
  rotate_left
  · rw [e0, zn_eq (by omega) (by omega)] at p
    refine zb_Walls_readers_9 ?_
    rw [he, to_readers, if_pos p]
    exact ⟨_, rfl, rfl, h0, z0⟩
  rw [e0, zn_eq (by omega) (by omega)] at p
  rw [to_readers, if_neg p] at he
  refine zb_Walls_readers_11 (cc_badSignOfReaders hn h0.1.fr t1 (fun i hi => ⟨(t3 i hi).1, hX0 i hi⟩)) (by omega) (fun r u2 hr => ?_)
  obtain ⟨rfl, rfl⟩ := hr
  cases hb : rs_b x with
  | some q =>
    rw [hb] at he
    have hq := sc_b_lt hb
    have hb' : sc_b (rs_ok (s_r (x_s x)) (x_X x)) (decide (x_L x % 2 = 1)) (x_L x) = some q := hb
    rw [hb']
    refine zb_Walls_readers_16 (fun z => ?_) (fun _ => ?_)
    · exact absurd z (zn_neg1 (by omega))
    refine zb_Walls_readers_22 ?_
    rw [he]
    exact ⟨_, rfl, rfl, h0, z0⟩
  | none =>
    rw [hb] at he
    obtain ⟨hok, hfin⟩ := sc_b_none hb
    have hb' : sc_b (rs_ok (s_r (x_s x)) (x_X x)) (decide (x_L x % 2 = 1)) (x_L x) = none := hb
    rw [hb']
    rw [decide_eq_true_eq] at hfin
    refine zb_Walls_readers_16 (fun _ => ?_) (fun z => absurd rfl z)
    refine zb_Walls_readers_26 ?_
    refine zj_forS (b := (x_L x + 1) / 2) (fun k => [some (.inr 0), some (.inl (nI (x_L x))), none, some (.inl (nI (2 * k)))])
      (fun k w => cR (rs_s (x_s x) (x_X x) k) (x_v x) w 33 ∧ cX (fun q => 33 ≤ q ∧ q ≤ 42) (fun _ => False) u2 w) (fun k w hk hI kk => ?_) (fun w hI => ?_) 0 (Nat.zero_le _) u2 ⟨h0.1, cX.rf⟩
    · obtain ⟨q1, q2⟩ := hI
      have eX : ∀ i, i < x_L x → w.1 1 i = nI (x_X x i) := fun i hi => by rw [(q2.1 1 (by decide) (by decide)).1]; exact hX0 i hi
      have o1 := hok (2 * k) (by omega)
      unfold rs_ok at o1
      rw [if_neg (by omega)] at o1
      simp only [Bool.and_eq_true, decide_eq_true_eq] at o1
      have es := (rs_s_n (x_s x) (x_X x) k).2.2
      refine zb_Walls_readers_28 (fun z => ?_) (fun _ => ?_)
      · rw [zn_le (by omega) (by omega)] at z
        omega
      refine zb_Walls_readers_33 (k1 := 2 * k) (dc := 0) (P := fun u => cR (s_rd (rs_s (x_s x) (x_X x) k) (x_X x (2 * k) - 48)) (x_v x) u 33 ∧ z_fr (z_F09 33) w u) (z_ixn (by omega)) ?_ (by omega) (fun w2 h2 => ?_)
      · rw [eX _ (by omega), pk_sub (by omega)]
        exact cc_addReader z_c33 q1 (by omega) (by omega)
      · obtain ⟨r2, F2⟩ := h2
        refine zb_Walls_readers_49 ?_
        rw [nI_add, show 2 * k + 2 = 2 * (k + 1) by omega]
        exact kk w2 ⟨r2, q2.tr (F2.cX (by show ¬ (33 ≤ 0 ∧ 0 ≤ 42); omega) (fun q hq => hq))⟩
    · obtain ⟨q1, q2⟩ := hI
      refine zb_Walls_readers_28 (fun _ => ?_) (fun z => ?_)
      rotate_left
      · rw [zn_le (by omega) (by omega)] at z
        omega
      obtain ⟨nx, n1, n2⟩ := h0.nx
      refine zb_Walls_readers_55 (cc_forgetPast (rs_s (x_s x) (x_X x) ((x_L x + 1) / 2)) ⟨nx, n1, by rw [(q2.1 11 (by decide) (by decide)).1]; exact n2⟩) (by omega) (fun w2 h2 => ?_)
      obtain ⟨H2, K2, F2⟩ := h2
      refine zb_Walls_readers_59 ?_
      rw [nI_add, pk_div (by omega) (by omega) (by omega), he]
      have F : cX (fun q => (33 ≤ q ∧ q ≤ 42) ∨ q = 11 ∨ q = 6) (fun _ => False) u2 w2 := (q2.mono (fun _ h => Or.inl h) (fun _ h => h)).tr (F2.mono (fun _ h => Or.inr h) (fun _ h => h))
      refine ⟨_, rfl, rfl, ⟨q1.cX33 F2 (by omega), H2, h0.2.2.1.keepX F (by omega), h0.2.2.2.1.keepX F (by omega) id, h0.2.2.2.2.1.keepX F (by omega) id, ?_, K2⟩, z0.tr (F.toW (by omega))⟩
      intro c hc
      change c < s_c (rs_s (x_s x) (x_X x) ((x_L x + 1) / 2)) at hc
      rw [(rs_s_n (x_s x) (x_X x) _).2.1] at hc
      exact h0.2.2.2.2.2.1.keepX F (by omega) c hc
end
