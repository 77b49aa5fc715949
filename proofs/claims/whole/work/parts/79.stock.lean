/-! the program: the mason's stock -/
abbrev bMO (q : Nat) : Prop := (26 ≤ q ∧ q ≤ 29) ∨ (43 ≤ q ∧ q ≤ 52) ∨ q = 55 ∨ q = 60
/-- from a place on the sums are there, before it nothing -/
def bTb (f : Nat → Nat) (bs : List Nat) (i : Nat) (τ : zS) : Prop := (∀ j n, i ≤ j → j ≤ bs.length → n ≤ 6 → τ.1 29 (j * 7 + n) = w_I (b_mt f (bs.drop j) n)) ∧ ∀ j n, j < i → n ≤ 6 → τ.1 29 (j * 7 + n) = -1
section
variable {s : aS} {h : Nat} {bs : List Nat} {v : aV} {σ τ : zS}
theorem z_max1 {a : Nat} (ha : a < 2147483648) : z_max (nI a) (-1) = nI a := by
  unfold z_max
  rw [if_neg]
  intro z
  have h1 : (-1 : Int32) < nI 0 := by decide
  have h2 := (zn_le (a := 0) (by omega) ha).mpr (Nat.zero_le a)
  exact Int32.lt_irrefl (Int32.lt_trans z (Int32.lt_of_lt_of_le h1 h2))
theorem cc_addUp {f : Nat → Nat} (hl : bs.length ≤ 6) (h9 : ∀ b, b ∈ bs → f b ≤ 9) {i : Nat} (hi : i < bs.length) (h2 : σ.1 26 2 = nI bs.length) (hT : bTb f bs (i + 1) σ) : z_Cv 1 zm_Mason_addUp [.inr 26, .inl (nI i), .inl (nI (f (bs.getD i 0)))] σ (fun u => bTb f bs i u ∧ z_fr (fun q => q = 29) σ u) := by
  refine z_Cv_of (by decide) (Nat.le_of_ble_eq_true rfl) (fun Γ hd he => ?_)
  show z_J Γ zm_Mason_addUp 0 [some (.inr 26), some (.inl (nI i)), some (.inl (nI (f (bs.getD i 0)))), none, none] [] σ
  have ed : bs.drop i = bs.getD i 0 :: bs.drop (i + 1) := by
    rw [List.drop_eq_getElem_cons hi]
    congr 1
    simp only [List.getD_eq_getElem?_getD]
    rw [List.getElem?_eq_getElem hi]
    rfl
  have hb9 := h9 _ (l_getD_mem hi)
  have hdl : (bs.drop (i + 1)).length = bs.length - (i + 1) := by simp
  refine zb_Mason_addUp_0 (k1 := i * 7) ⟨pk_mul _ _, by omega⟩ ?_
  refine zj_forM (fun m Ls u => ∃ n, m = bs.length + 1 - i - n ∧ 1 ≤ n ∧ n ≤ bs.length - i + 1 ∧ Ls = [some (.inr 26), some (.inl (nI i)), some (.inl (nI (f (bs.getD i 0)))), some (.inl (nI n)), none] ∧ (∀ n', n' < n → u.1 29 (i * 7 + n') = w_I (b_mt f (bs.drop i) n')) ∧ (∀ n', n ≤ n' → n' ≤ 6 → u.1 29 (i * 7 + n') = -1) ∧ (∀ j n', j ≠ i → n' ≤ 6 → u.1 29 (j * 7 + n') = σ.1 29 (j * 7 + n')) ∧ z_fr (fun q => q = 29) σ u) (fun m Ls u hI kk => ?_) (bs.length + 1 - i - 1) _ _ ⟨1, rfl, Nat.le_refl _, by omega, rfl, fun n' hn' => ?_, fun n' a1 a2 => ?_, fun j n' a1 a2 => ?_, z_fr.pI z_fr.rf rfl⟩
  rotate_left
  · have : n' = 0 := by omega
    subst this
    rw [Nat.add_zero, z_pI_at, show b_mt f (bs.drop i) 0 = some 0 by simp [b_mt]]
    rfl
  · rw [z_pI_ne2 (by omega)]
    exact hT.2 i n' (by omega) a2
  · rw [z_pI_ne2 (by omega)]
  obtain ⟨n, rfl, n1, n2, rfl, i1, i2, i3, i4⟩ := hI
  have e2 : u.1 26 2 = nI bs.length := by rw [(i4 26 (by decide)).1, h2]
  refine zb_Mason_addUp_12 (fun z => ?_) (fun z => ?_)
  · rw [e2, pk_sub (by omega), zn_lt (by omega) (by omega)] at z
    refine zb_Mason_addUp_76 ?_
    rw [he]
    refine ⟨rfl, ⟨fun j n' a1 a2 a3 => ?_, fun j n' a1 a2 => ?_⟩, i4⟩
    · by_cases e : j = i
      · subst e
        rcases Nat.lt_or_ge n' n with q | q
        · exact i1 n' q
        · rw [i2 n' q a3, b_mt_none (by simp; omega)]
          rfl
      · rw [i3 j n' e a3]
        exact hT.1 j n' (by omega) a2 a3
    · rw [i3 j n' (by omega) a2]
      exact hT.2 j n' (by omega) a2
  · rw [e2, pk_sub (by omega), zn_lt (by omega) (by omega)] at z
    obtain ⟨k, rfl⟩ : ∃ k, n = k + 1 := ⟨n - 1, by omega⟩
    obtain ⟨y, hy⟩ := b_mt_some (f := f) (bs := bs.drop (i + 1)) (n := k) (by omega)
    have hy9 := b_mt_le (fun b hb => h9 b (List.mem_of_mem_drop hb)) hy
    have r1 : u.1 29 ((i + 1) * 7 + k) = nI y := by
      rw [i3 (i + 1) k (by omega) (by omega), hT.1 (i + 1) k (Nat.le_refl _) (by omega) (by omega), hy]
      rfl
    have r2 : u.1 29 ((i + 1) * 7 + (k + 1)) = w_I (b_mt f (bs.drop (i + 1)) (k + 1)) := by
      rw [i3 (i + 1) (k + 1) (by omega) (by omega), hT.1 (i + 1) (k + 1) (Nat.le_refl _) (by omega) (by omega)]
    have r3 : z_max (nI (f (bs.getD i 0)) + u.1 29 ((i + 1) * 7 + k)) (u.1 29 ((i + 1) * 7 + (k + 1))) = w_I (b_mt f (bs.drop i) (k + 1)) := by
      rw [r1, r2, nI_add, ed, b_mt, hy]
      cases hz : b_mt f (bs.drop (i + 1)) (k + 1) with
      | none => exact z_max1 (by omega)
      | some z =>
        have hz9 := b_mt_le (fun b hb => h9 b (List.mem_of_mem_drop hb)) hz
        exact zn_max (by omega) (by omega)
    refine zb_Mason_addUp_22 (k1 := (i + 1) * 7 + k) (k2 := (i + 1) * 7 + (k + 1)) (k3 := i * 7 + (k + 1)) (by omega) ⟨by rw [nI_add, pk_mul, nI_add, pk_sub (by omega)]; congr 1, by omega⟩ ⟨by rw [nI_add, pk_mul, nI_add], by omega⟩ ⟨by rw [pk_mul, nI_add], by omega⟩ ?_
    rw [r3, nI_add]
    refine kk _ _ _ (show bs.length + 1 - i - (k + 1 + 1) < bs.length + 1 - i - (k + 1) by omega) ⟨k + 1 + 1, rfl, by omega, by omega, rfl, fun n' a1 => ?_, fun n' a1 a2 => ?_, fun j n' a1 a2 => ?_, z_fr.pI i4 rfl⟩
    · by_cases e : n' = k + 1
      · subst e
        rw [z_pI_at]
      · rw [z_pI_ne2 (by omega)]
        exact i1 n' (by omega)
    · rw [z_pI_ne2 (by omega)]
      exact i2 n' (by omega) a2
    · rw [z_pI_ne2 (by omega)]
      exact i3 j n' a1 a2
/-- books so far -/
def b_Si (v : aV) (fr b : Nat) : List Nat := (List.range b).filter (fun b => decide (v_w v b = fr))
theorem b_Si_S (s : aS) (v : aV) (fr : Nat) : b_S s v fr = b_Si v fr (s_n s) := by
  unfold b_S b_sk b_Si
  rw [List.drop_zero]
  refine List.filter_congr (fun b hb => ?_)
  rw [a_bw_bit]
  rw [List.mem_range] at hb
  simp [hb]
theorem b_Si_s (v : aV) (fr b : Nat) : b_Si v fr (b + 1) = if v_w v b = fr then b_Si v fr b ++ [b] else b_Si v fr b := by
  unfold b_Si
  rw [List.range_succ, List.filter_append]
  by_cases q : v_w v b = fr
  · rw [if_pos q]; simp [q]
  · rw [if_neg q]; simp [q]
theorem b_Si_mem {v : aV} {fr b x : Nat} : x ∈ b_Si v fr b ↔ x < b ∧ v_w v x = fr := by
  unfold b_Si
  rw [List.mem_filter, List.mem_range, decide_eq_true_eq]
theorem b_Si_le {v : aV} {fr b n : Nat} (h : b ≤ n) : (b_Si v fr b).length ≤ (b_Si v fr n).length := ((List.range_sublist.mpr h).filter _).length_le
theorem cR.h0 {w : aV} {u : zS} (hR : cR s w u 43) {b : Nat} (hb : b < s_n s) (hw : v_w w b ≠ 1) {u2 : zS} (hL : cL s w 43 b 0 u u2) : cR s (a_up (v_w w) b 0, v_h w, v_d w, v_f w, v_p w, v_y w) u2 43 := by
  refine (hL.R hR hb (Or.inl rfl)).eqv ⟨fun _ => rfl, fun _ _ _ => rfl, fun _ _ _ => rfl, fun c hc => ?_, rfl, rfl⟩
  exact List.erase_of_not_mem (fun z => hw ((hR.1.mm hc b).mp z).2.1)
theorem cR.cX43 {w : aV} {u : zS} {R K : Nat → Prop} (h : cR s w σ 43) (hF : cX R K σ u) (h1 : ∀ q, 43 ≤ q → q ≤ 52 → ¬ R q) : cR s w u 43 := h.keep (fun j hj => (hF.1 (43 + j) (by omega) (h1 _ (by omega) (by omega))).1)
theorem cc_stockUp (hR : cR s v σ 43) {fr : Nat} (hfr : fr = 0 ∨ fr = 2) (hl : (b_S s v fr).length ≤ 6) (h3 : σ.1 26 3 = nI h) : z_Cv 3 zm_Mason_stockUp [.inr 26, .inr 43, .inl (nI fr)] σ (fun u => ∃ tk w, bSt s tk (b_S s v fr) ∧ bMs s h tk (b_S s v fr) u ∧ cR s w u 43 ∧ (∀ b, b ∈ b_S s v fr → v_w w b = 0) ∧ v_p w = v_p v ∧ v_y w = v_y v ∧ cX bMO (fun _ => False) σ u) := by
  rw [b_Si_S] at hl ⊢
  have hn := hR.n
  refine z_Cv_of (by decide) (Nat.le_of_ble_eq_true rfl) (fun Γ hd he => ?_)
  show z_J Γ zm_Mason_stockUp 0 [some (.inr 26), some (.inr 43), some (.inl (nI fr)), none] [] σ
  refine zb_Mason_stockUp_0 ?_
  refine zj_forS (b := s_n s) (fun b => [some (.inr 26), some (.inr 43), some (.inl (nI fr)), some (.inl (nI b))])
    (fun b u => ∃ tk w, 1 ≤ tk ∧ tk ≤ 9 ∧ (∀ x, x ∈ b_Si v fr b → s_t s x ≤ tk) ∧ u.1 26 2 = nI (b_Si v fr b).length ∧ u.1 26 3 = nI h ∧ u.1 26 4 = nI tk ∧ (∀ i, i < (b_Si v fr b).length → u.1 28 i = nI ((b_Si v fr b).getD i 0)) ∧ cR s w u 43 ∧ (∀ x, v_w w x = if x < b ∧ v_w v x = fr then 0 else v_w v x) ∧ v_p w = v_p v ∧ v_y w = v_y v ∧ cX bMO (fun _ => False) σ u) (fun b u hb hI kk => ?_) (fun u hI => ?_) 0 (Nat.zero_le _) _ ⟨1, v, Nat.le_refl _, by decide, fun x hx => absurd (b_Si_mem.mp hx).1 (by omega), by rw [z_pI_ne2 (by decide), z_pI_at]; rfl, by rw [z_pI_ne2 (by decide), z_pI_ne2 (by decide)]; exact h3, z_pI_at _ _ _ _, fun i hi => absurd hi (by simp [b_Si]), hR.cX43 (R := fun q => q = 26) (K := fun _ => False) (cX.pR (cX.pR cX.rf rfl (by decide)) rfl (by decide)) (by omega), fun x => by rw [if_neg (fun z => absurd z.1 (by omega))], rfl, rfl, cX.pR (cX.pR cX.rf (by omega) (by decide)) (by omega) (by decide)⟩
  · obtain ⟨tk, w, t1, t9, tS, f2, f3, f4, f5, Ru, hww, hp, hy, hF⟩ := hI
    have hwb : v_w w b = v_w v b := by rw [hww b, if_neg (fun z => absurd z.1 (by omega))]
    have h3b := Ru.w3 b
    refine zb_Mason_stockUp_12 (fun z => ?_) (fun _ => ?_)
    · rw [Ru.fn] at z
      exact absurd z (nI_ge hb (by omega))
    refine zb_Mason_stockUp_20 (k1 := b) (z_ixn (by omega)) (fun z => ?_) (fun z => ?_)
    · rw [show u.1 46 b = nI (v_w w b) from Ru.fW (by omega), zn_eq (by omega) (by omega), hwb] at z
      refine zb_Mason_stockUp_82 ?_
      rw [nI_add]
      have eS : b_Si v fr (b + 1) = b_Si v fr b := by rw [b_Si_s, if_neg z]
      refine kk u ⟨tk, w, t1, t9, ?_, ?_, f3, f4, ?_, Ru, fun x => ?_, hp, hy, hF⟩
      · rw [eS]; exact tS
      · rw [eS]; exact f2
      · rw [eS]; exact f5
      · rw [hww x]
        by_cases q : x < b ∧ v_w v x = fr
        · rw [if_pos q, if_pos ⟨by omega, q.2⟩]
        · rw [if_neg q, if_neg]
          rintro ⟨q1, q2⟩
          by_cases e : x = b
          · subst e; exact z q2
          · exact q ⟨by omega, q2⟩
    · rw [show u.1 46 b = nI (v_w w b) from Ru.fW (by omega), zn_eq (by omega) (by omega), hwb] at z
      have eS : b_Si v fr (b + 1) = b_Si v fr b ++ [b] := by rw [b_Si_s, if_pos z]
      have hlt : (b_Si v fr b).length + 1 ≤ 6 := by
        have := b_Si_le (v := v) (fr := fr) (show b + 1 ≤ s_n s by omega)
        rw [eS, List.length_append, List.length_singleton] at this
        omega
      refine zb_Mason_stockUp_30 (fun z2 => ?_) (fun _ => ?_)
      · rw [f2, zn_le (by omega) (by omega)] at z2
        omega
      refine zb_Mason_stockUp_39 (cc_lift z_c43 Ru (t := 0) hb) (by omega) (fun u2 hL => ?_)
      have R2 := Ru.h0 hb (by omega) hL
      have F2 : cX bMO (fun _ => False) u u2 := hL.fr.cX (by show ¬ (43 + 3 ≤ 0 ∧ _); omega) (fun q hq => by have hq' : 43 + 3 ≤ q ∧ q ≤ 43 + 7 := hq; unfold bMO; omega)
      have g26 : u2.1 26 = u.1 26 := (hL.fr 26 (by show ¬ (43 + 3 ≤ 26 ∧ _); omega)).1
      have g28 : u2.1 28 = u.1 28 := (hL.fr 28 (by show ¬ (43 + 3 ≤ 28 ∧ _); omega)).1
      have g44 : u2.1 44 b = nI (s_t s b) := R2.ft hb
      have hs9 := (hR.1.2.2.2.2.2.2.2.1 b hb).2.1
      refine zb_Mason_stockUp_45 (by omega) (k1 := b) (k2 := (b_Si v fr b).length) (z_ixn (by omega)) ⟨by rw [z_pI_ne2 (by decide), g26]; exact f2, by omega⟩ ?_
      rw [g44, g26, f4, zn_max (by omega) (by omega)]
      refine zb_Mason_stockUp_82 ?_
      rw [z_pI_ne (by decide), z_pI_ne2 (by decide), g26, f2, nI_add, nI_add]
      refine kk _ ⟨if tk < s_t s b then s_t s b else tk, _, by split <;> omega, by split <;> omega, fun x hx => ?_, ?_, ?_, ?_, fun i hi => ?_, R2.cX43 (R := fun q => q = 26 ∨ q = 28) (K := fun _ => False) (cX.pR (cX.pR (cX.pR cX.rf (Or.inl rfl) (by decide)) (Or.inr rfl) (by decide)) (Or.inl rfl) (by decide)) (by omega), fun x => ?_, hp, hy, hF.tr (F2.tr (cX.pR (cX.pR (cX.pR cX.rf (by omega) (by decide)) (by omega) (by decide)) (by omega) (by decide)))⟩
      · rw [eS, List.mem_append, List.mem_singleton] at hx
        rcases hx with q | q
        · have := tS x q
          split <;> omega
        · rw [q]
          split <;> omega
      · rw [z_pI_at, eS, List.length_append, List.length_singleton]
      · rw [z_pI_ne2 (by decide), z_pI_ne (by decide), z_pI_ne2 (by decide), g26]
        exact f3
      · rw [z_pI_ne2 (by decide), z_pI_ne (by decide), z_pI_at]
      · rw [eS, List.length_append, List.length_singleton] at hi
        rw [z_pI_ne (by decide), eS]
        simp only [List.getD_eq_getElem?_getD]
        by_cases e : i = (b_Si v fr b).length
        · rw [e, z_pI_at, List.getElem?_append_right (Nat.le_refl _)]
          simp
        · rw [z_pI_ne2 e, z_pI_ne (by decide), g28, f5 i (by omega), List.getElem?_append_left (by omega)]
          simp only [List.getD_eq_getElem?_getD]
      · show a_up (v_w w) b 0 x = _
        by_cases e : x = b
        · subst e
          rw [a_up_s, if_pos ⟨by omega, z⟩]
        · rw [a_up_n e, hww x]
          by_cases q : x < b ∧ v_w v x = fr
          · rw [if_pos q, if_pos ⟨by omega, q.2⟩]
          · rw [if_neg q, if_neg (fun q2 => q ⟨by omega, q2.2⟩)]
  · obtain ⟨tk, w, t1, t9, tS, f2, f3, f4, f5, Ru, hww, hp, hy, hF⟩ := hI
    generalize hbs : b_Si v fr (s_n s) = bs at *
    have hmem : ∀ x, x ∈ bs → x < s_n s ∧ v_w v x = fr := fun x hx => by
      rw [← hbs] at hx
      exact b_Si_mem.mp hx
    have hnd : bs.Nodup := by
      rw [← hbs]
      exact List.nodup_range.filter _
    have h9 : ∀ x, x ∈ bs → s_t s x ≤ 9 := fun x hx => by have := tS x hx; omega
    refine zb_Mason_stockUp_12 (fun _ => ?_) (fun z => absurd (by rw [Ru.fn]; exact Int32.le_refl _) z)
    refine zb_Mason_stockUp_88 (by omega) ?_
    have e26 : (z_pA u 29 (z_fil 49 (-1) (u.1 29))).1 26 2 = nI bs.length := by
      show (if 26 = 29 then z_fil 49 (-1) (u.1 29) else u.1 26) 2 = _
      rw [if_neg (by decide)]
      exact f2
    refine zb_Mason_stockUp_96 (k1 := bs.length * 7) ⟨by rw [e26, pk_mul], by omega⟩ ?_
    rw [z_pI_ne (by decide), e26]
    obtain ⟨ρ, hρ⟩ : ∃ z, z = z_pI (z_pA u 29 (z_fil 49 (-1) (u.1 29))) 29 (bs.length * 7) (nI 0) := ⟨_, rfl⟩
    rw [← hρ]
    have Fρ : cX (fun q => q = 29) (fun _ => False) u ρ := by
      rw [hρ]
      exact cX.pR (cX.pA cX.rf rfl (by decide)) rfl (by decide)
    have a29 : ∀ k, k < 49 → (z_pA u 29 (z_fil 49 (-1) (u.1 29))).1 29 k = -1 := by
      intro k hk
      show (if 29 = 29 then z_fil 49 (-1) (u.1 29) else u.1 29) k = -1
      rw [if_pos rfl]
      exact if_pos hk
    have Tρ : bTb (s_t s) bs bs.length ρ := by
      rw [hρ]
      refine ⟨fun j n a1 a2 a3 => ?_, fun j n a1 a2 => ?_⟩
      · have : j = bs.length := by omega
        subst this
        rw [List.drop_length]
        cases n with
        | zero => rw [Nat.add_zero, z_pI_at]; rfl
        | succ n => rw [z_pI_ne2 (by omega), a29 _ (by omega)]; rfl
      · rw [z_pI_ne2 (by omega), a29 _ (by omega)]
    have goal : z_J Γ zm_Mason_stockUp 116 [some (.inr 26), some (.inr 43), none, some (.inl (if bs.length = 0 then -1 else nI (bs.length - 1)))] [] ρ := by
      refine zj_forM (fun m Ls u' => m ≤ bs.length ∧ Ls = [some (.inr 26), some (.inr 43), none, some (.inl (if m = 0 then -1 else nI (m - 1)))] ∧ bTb (s_t s) bs m u' ∧ cX (fun q => q = 29) (fun _ => False) u u') (fun m Ls u' hI kk => ?_) bs.length _ ρ ⟨Nat.le_refl _, rfl, Tρ, Fρ⟩
      obtain ⟨m1, rfl, m2, m3⟩ := hI
      cases m with
      | zero =>
        rw [if_pos rfl]
        refine zb_Mason_stockUp_116 (fun _ => ?_) (fun z => absurd (by decide) z)
        refine zb_Mason_stockUp_142 ?_
        rw [he]
        refine ⟨rfl, tk, w, ⟨hl, t1, t9, hnd, fun b hb => ⟨(hmem b hb).1, tS b hb⟩⟩, ⟨?_, ?_, ?_, fun i hi => ?_, fun i n a1 a2 => m2.1 i n (Nat.zero_le _) a1 a2⟩, Ru.cX43 m3 (by omega), fun b hb => ?_, hp, hy, hF.tr (m3.mono (by omega) (fun _ h => h))⟩
        · rw [(m3.1 26 (by decide) (by decide)).1]; exact f2
        · rw [(m3.1 26 (by decide) (by decide)).1]; exact f3
        · rw [(m3.1 26 (by decide) (by decide)).1]; exact f4
        · rw [(m3.1 28 (by decide) (by decide)).1]; exact f5 i hi
        · rw [hww b, if_pos (hmem b hb)]
      | succ m =>
        rw [if_neg (by omega), Nat.add_sub_cancel]
        refine zb_Mason_stockUp_116 (fun z => absurd z (by rw [show (0 : Int32) = nI 0 from rfl, zn_lt (by omega) (by omega)]; omega)) (fun _ => ?_)
        have hgm := hmem _ (l_getD_mem (l := bs) (k := m) (by omega))
        have e28 : u'.1 28 m = nI (bs.getD m 0) := by rw [(m3.1 28 (by decide) (by decide)).1]; exact f5 m (by omega)
        have e44 : u'.1 44 (bs.getD m 0) = nI (s_t s (bs.getD m 0)) := (Ru.cX43 m3 (by omega)).ft hgm.1
        refine zb_Mason_stockUp_120 (k1 := m) (k2 := bs.getD m 0) (dc := 1) (P := fun u2 => bTb (s_t s) bs m u2 ∧ z_fr (fun q => q = 29) u' u2) (z_ixn (by omega)) ⟨e28, by omega⟩ (by rw [e44]; exact cc_addUp hl h9 (by omega) (by rw [(m3.1 26 (by decide) (by decide)).1]; exact f2) m2) (by omega) (fun u2 h2 => ?_)
        refine zb_Mason_stockUp_136 ?_
        rw [zn_dn7 m (by omega)]
        exact kk m _ u2 (by omega) ⟨by omega, rfl, h2.1, m3.tr (h2.2.cX (by decide) (fun _ h => h))⟩
    by_cases e0 : bs.length = 0
    · rw [if_pos e0] at goal
      rw [e0]
      exact goal
    · rw [if_neg e0] at goal
      rw [zn_pred (by omega)]
      exact goal
end
