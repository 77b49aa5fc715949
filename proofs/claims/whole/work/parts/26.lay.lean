/-- the same picture but for what is nowhere seen -/
def aE (s : aS) (v w : aV) : Prop := (∀ b, v_w v b = v_w w b) ∧ (∀ b, b < s_n s → (v_w v b = 1 ∨ v_w v b = 2) → v_h v b = v_h w b) ∧ (∀ b, b < s_n s → v_w v b = 2 → v_d v b = v_d w b) ∧ (∀ c, c < s_c s → v_p v c = v_p w c) ∧ v_f v = v_f w ∧ v_y v = v_y w
section
variable {s : aS} {v w : aV} {σ u : zS} {o r : Nat} {E : (Nat → Int32) → Int32}
theorem aI.eqv (h : aI s v) (e : aE s v w) : aI s w := by
  obtain ⟨h1, h2, h3, h5, h6, h7, h8, h10, h11⟩ := h
  obtain ⟨e1, e2, e3, e4, e5, e6⟩ := e
  refine ⟨h1, fun b => by rw [← e1]; exact h2 b, fun b hb => by rw [← e1]; exact h3 b hb, fun c hc => ?_, fun b hb hw => ?_, fun b hb hw => ?_, fun r hr => by rw [← e5]; exact h8 r hr, h10, h11⟩
  · obtain ⟨q1, q2, q3⟩ := h5 c hc
    rw [← e4 c hc]
    refine ⟨q1, q2, fun b => ?_⟩
    rw [q3 b, ← e1]
    constructor
    · rintro ⟨a1, a2, a3⟩
      exact ⟨a1, a2, by rw [← e2 b a1 (Or.inl a2)]; exact a3⟩
    · rintro ⟨a1, a2, a3⟩
      exact ⟨a1, a2, by rw [e2 b a1 (Or.inl a2)]; exact a3⟩
  · rw [← e1] at hw
    rw [← e2 b hb (Or.inl hw)]
    exact h6 b hb hw
  · rw [← e1] at hw
    rw [← e2 b hb (Or.inr hw)]
    exact h7 b hb hw
theorem cR.eqv (h : cR s v σ o) (e : aE s v w) : cR s w σ o := by
  refine ⟨h.1.eqv e, h.2.1, fun b hb => by rw [h.fW hb, e.1], fun b hb => ?_, fun b hb => ?_, fun c hc => by rw [h.fM hc, e.2.2.2.1 c hc], fun c hc k hk => ?_, fun r hr => by rw [h.fF hr, e.2.2.2.2.1], by rw [h.fy, e.2.2.2.2.2]⟩
  · rw [h.fH hb, ← e.1]
    by_cases q : v_w v b = 1 ∨ v_w v b = 2
    · rw [if_pos q, if_pos q, e.2.1 b hb q]
    · rw [if_neg q, if_neg q]
  · rw [h.fD hb, ← e.1]
    by_cases q : v_w v b = 2
    · rw [if_pos q, if_pos q, e.2.2.1 b hb q]
    · rw [if_neg q, if_neg q]
  · rw [← e.2.2.2.1 c hc] at hk ⊢
    exact h.fP hc hk
theorem z_ne2 (ho : z_oC o) (hr : z_oR r) {j : Nat} (hj : j ≤ 9) : o + j ≠ r + 2 := by
  rcases ho with rfl | rfl <;> rcases hr with rfl | rfl <;> omega
theorem cR.fr2 (ho : z_oC o) (hr : z_oR r) (h : cR s v σ o) (hF : z_fr (fun q => q = r + 2) σ u) : cR s v u o := h.keep (fun j hj => (hF (o + j) (z_ne2 ho hr hj)).1)
/-- the rows of a rule that asking it leaves -/
theorem rR.fr2 (h : rR E σ r) (hF : z_fr (fun q => q = r + 2) σ u) : rR E u r := h.keep (hF r (by omega)).1 (hF (r + 1) (by omega)).1
theorem rR.fr37 (ho : z_oC o) (hr : z_oR r) (h : rR E σ r) (hF : z_fr (z_F37 o) σ u) : rR E u r :=
  h.keep (hF r (by show ¬ (o + 3 ≤ r ∧ r ≤ o + 7); rcases ho with rfl | rfl <;> rcases hr with rfl | rfl <;> omega)).1 (hF (r + 1) (by show ¬ (o + 3 ≤ r + 1 ∧ r + 1 ≤ o + 7); rcases ho with rfl | rfl <;> rcases hr with rfl | rfl <;> omega)).1
def a_lay (E : (Nat → Int32) → Int32) (s : aS) (v : aV) (x y : Int32) : Int32 × aV :=
  if z_isn x (s_n s) = true ∧ z_isn y (s_c s) = true then
    (if v_w v x.toNatClampNeg ≠ 0 then (-2, v) else if (v_p v y.toNatClampNeg).length = 4 then (-3, v) else
      if l_ho E s (v_y v) y.toNatClampNeg (v_p v y.toNatClampNeg ++ [x.toNatClampNeg]) = true then (nI (l_h (s_t s) (v_p v y.toNatClampNeg ++ [x.toNatClampNeg])), a_put v x.toNatClampNeg y.toNatClampNeg) else (-4, v))
  else (-1, v)
theorem a_lay_no {x y : Int32} (h : ¬ (z_isn x (s_n s) = true ∧ z_isn y (s_c s) = true)) : a_lay E s v x y = (-1, v) := if_neg h
theorem a_lay_nn {b c : Nat} (hn : s_n s ≤ 12) (hcn : s_c s ≤ 6) (hb : b < s_n s) (hc : c < s_c s) : a_lay E s v (nI b) (nI c) = if v_w v b ≠ 0 then (-2, v) else if (v_p v c).length = 4 then (-3, v) else if l_ho E s (v_y v) c (v_p v c ++ [b]) = true then (nI (l_h (s_t s) (v_p v c ++ [b])), a_put v b c) else (-4, v) := by
  unfold a_lay
  rw [if_pos ⟨z_isn_n (by omega) hb, z_isn_n (by omega) hc⟩, nI_clamp (by omega), nI_clamp (by omega)]
theorem aE_lift_put (hI : aI s v) {b c : Nat} (hb : b < s_n s) (hw : v_w v b = 0 ∨ v_w v b = 3) : aE s (a_lift (a_put v b c) b (v_w v b)) v := by
  have hnm : ∀ c', c' < s_c s → b ∉ v_p v c' := fun c' hc' hm => by
    have := ((hI.mm hc' b).mp hm).2.1
    omega
  refine ⟨fun b' => ?_, fun b' hb' hq => ?_, fun _ _ _ => rfl, fun c' hc' => ?_, rfl, rfl⟩
  · show a_up (a_up (v_w v) b 1) b (v_w v b) b' = v_w v b'
    by_cases e : b' = b
    · subst e
      rw [a_up_s]
    · rw [a_up_n e, a_up_n e]
  · have hq : a_up (a_up (v_w v) b 1) b (v_w v b) b' = 1 ∨ a_up (a_up (v_w v) b 1) b (v_w v b) b' = 2 := hq
    show a_up (v_h v) b c b' = v_h v b'
    by_cases e : b' = b
    · subst e
      rw [a_up_s] at hq
      omega
    · rw [a_up_n e]
  · show (a_upl (v_p v) c (v_p v c ++ [b]) c').erase b = v_p v c'
    unfold a_upl
    split
    · rename_i e
      subst e
      rw [List.erase_append_right _ (hnm _ hc')]
      simp
    · exact List.erase_of_not_mem (hnm c' hc')
theorem cc_layOn (ho : z_oC o) (hr : z_oR r) (hR : cR s v σ o) (hE : rR E σ r) (x y : Int32) : z_Ci 4 zm_City_layOn [.inr o, .inl x, .inl y, .inr r] σ (fun z u => z = (a_lay E s v x y).1 ∧ cR s (a_lay E s v x y).2 u o ∧ z_fr (fun q => z_F37 o q ∨ q = r + 2) σ u) := by
  have hn := hR.n
  have h6 := hR.c6
  refine z_Ci_of (by decide) (Nat.le_of_ble_eq_true rfl) (fun Γ hd he => ?_)
  show z_J Γ zm_City_layOn 0 [some (.inr o), some (.inl x), some (.inl y), some (.inr r)] [] σ
  have no : (¬ (z_isn x (s_n s) = true ∧ z_isn y (s_c s) = true)) → z_J Γ zm_City_layOn 16 [none, none, none, none] [] σ := fun h => by
    refine zb_City_layOn_16 ?_
    rw [he, a_lay_no h]
    exact ⟨_, rfl, rfl, hR, z_fr.rf⟩
  refine zb_City_layOn_0 ho hr (cc_isBook ho hn hR.fn x) (by omega) (fun z σ1 h => ?_)
  obtain ⟨rfl, rfl⟩ := h
  refine zb_City_layOn_5 ho hr (fun h => no (fun q => ?_)) (fun h => ?_)
  · rw [z_tf_eq0] at h
    rw [h] at q
    exact absurd q.1 (by decide)
  rw [z_tf_eq0, Bool.not_eq_false] at h
  refine zb_City_layOn_8 ho hr (cc_isColumn ho hR.fc y) (by omega) (fun z σ2 h2 => ?_)
  obtain ⟨rfl, rfl⟩ := h2
  refine zb_City_layOn_13 ho hr (fun h2 => ?_) (fun h2 => no (fun q => ?_))
  · rw [z_tf_eq0, Bool.not_eq_false] at h2
    obtain ⟨b, hb, rfl⟩ := z_isn_t (by omega) h
    obtain ⟨c, hc, rfl⟩ := z_isn_t (by omega) h2
    rw [a_lay_nn hn h6 hb hc] at he
    clear no h h2
    have h3 := hR.w3 b
    have h4 := (hR.col hc).2.1
    have e0 : (0 : Int32) = nI 0 := rfl
    refine zb_City_layOn_18 ho hr (z_ixn (by omega)) (fun hw => ?_) (fun hw => ?_)
    · rw [hR.fW (by omega), e0, zn_eq (by omega) (by omega)] at hw
      rw [if_neg (fun q => q hw)] at he
      refine zb_City_layOn_30 ho hr (z_ixn (by omega)) (fun hl => ?_) (fun hl => ?_)
      · rw [hR.fM hc, zn_eq (by omega) (by omega)] at hl
        rw [if_neg hl] at he
        refine zb_City_layOn_43 ho hr (cc_put ho hR hb (Or.inl hw) hc (by omega)) (by omega) (fun u hu => ?_)
        obtain ⟨hRu, hFu⟩ := hu
        have eP : v_p (a_put v b c) c = v_p v c ++ [b] := if_pos rfl
        have hEu := hE.fr37 ho hr hFu
        have hho := lc_holdsUp ho hr (hRu.cC hc) hEu
        rw [eP] at hho
        refine zb_City_layOn_49 ho hr hho (by omega) (fun z u2 hz => ?_)
        obtain ⟨rfl, hF2⟩ := hz
        have hRu2 := hRu.fr2 ho hr hF2
        have hF' : z_fr (fun q => z_F37 o q ∨ q = r + 2) σ2 u2 := (hFu.mono (fun q hq => Or.inl hq)).tr (hF2.mono (fun q hq => Or.inr hq))
        refine zb_City_layOn_55 ho (fun hz => ?_) (fun hz => ?_)
        · have hz := z_tf_eq0.mp hz
          refine zb_City_layOn_64 ho (cc_lift ho hRu2 hb) (by omega) (fun u3 h3 => ?_)
          have hR3 := h3.R hRu2 hb (Or.inl rfl)
          have hae := aE_lift_put hR.1 (c := c) hb (Or.inl hw)
          rw [hw] at hae
          refine zb_City_layOn_70 ?_
          rw [he, if_neg (by have hz' : l_ho E s (v_y v) c (v_p v c ++ [b]) = false := hz; rw [hz']; decide)]
          exact ⟨_, rfl, rfl, hR3.eqv hae, hF'.tr (h3.fr.mono (fun q hq => Or.inl hq))⟩
        · rw [z_tf_eq0, Bool.not_eq_false] at hz
          refine zb_City_layOn_58 ho (cc_heightOf ho hRu2 hc) (by omega) (fun z u3 hz3 => ?_)
          obtain ⟨rfl, rfl⟩ := hz3
          refine zb_City_layOn_63 ?_
          rw [he, if_pos (show l_ho E s (v_y v) c (v_p v c ++ [b]) = true from hz)]
          refine ⟨_, rfl, ?_, hRu2, hF'⟩
          show nI (l_hwi (s_t s) (v_p (a_put v b c) c) 0 (v_p (a_put v b c) c).length) = _
          rw [eP]
      · rw [hR.fM hc, zn_eq (by omega) (by omega)] at hl
        rw [if_pos hl] at he
        refine zb_City_layOn_40 ?_
        rw [he]
        exact ⟨_, rfl, rfl, hR, z_fr.rf⟩
    · rw [hR.fW (by omega), e0, zn_eq (by omega) (by omega)] at hw
      rw [if_pos hw] at he
      refine zb_City_layOn_27 ?_
      rw [he]
      exact ⟨_, rfl, rfl, hR, z_fr.rf⟩
  · rw [z_tf_eq0] at h2
    rw [h2] at q
    exact absurd q.2 (by decide)
def a_ln (s : aS) (v : aV) (x y z : Int32) : Int32 × aV :=
  if z_isn x (s_n s) = true ∧ z_isn y (s_r s) = true ∧ nI 1 ≤ z ∧ z ≤ nI 30 then
    (if v_w v x.toNatClampNeg = 2 ∨ v_w v x.toNatClampNeg = 3 then (-2, v) else if nI 3 ≤ z_bc (nI (a_lo v y.toNatClampNeg (s_n s))) then (-3, v) else
      (nI (v_y v + z.toNatClampNeg), a_lend v x.toNatClampNeg y.toNatClampNeg (v_y v + z.toNatClampNeg)))
  else (-1, v)
theorem a_ln_nn {b r n : Nat} (hn : s_n s ≤ 12) (hrn : s_r s ≤ 4) (hb : b < s_n s) (hr : r < s_r s) (h1 : 1 ≤ n) (h30 : n ≤ 30) : a_ln s v (nI b) (nI r) (nI n) = if v_w v b = 2 ∨ v_w v b = 3 then (-2, v) else if nI 3 ≤ z_bc (nI (a_lo v r (s_n s))) then (-3, v) else (nI (v_y v + n), a_lend v b r (v_y v + n)) := by
  unfold a_ln
  rw [if_pos ⟨z_isn_n (by omega) hb, z_isn_n (by omega) hr, nI_le h1 (by omega), nI_le h30 (by omega)⟩, nI_clamp (by omega), nI_clamp (by omega), nI_clamp (by omega)]
theorem zn_btw {x : Int32} {m : Nat} (h1 : ¬ x < nI 1) (h2 : x ≤ nI m) (hm : m < 2147483648) : ∃ n, 1 ≤ n ∧ n ≤ m ∧ x = nI n := by
  have h0 : ¬ x < 0 := by
    rw [Int32.lt_iff_toInt_lt] at h1 ⊢
    have e1 : (nI 1).toInt = 1 := by decide
    have e0 : (0 : Int32).toInt = 0 := by decide
    omega
  obtain ⟨n, hn, rfl⟩ := nI_of2 (M := nI m) (nI_toInt hm) h0 h2
  refine ⟨n, ?_, hn, rfl⟩
  rcases Nat.eq_zero_or_pos n with q | q
  · subst q
    exact absurd (by decide) h1
  · exact q
theorem cc_lendTo (ho : z_oC o) (hR : cR s v σ o) (x y z : Int32) : z_Ci 3 zm_City_lendTo [.inr o, .inl x, .inl y, .inl z] σ (fun a u => a = (a_ln s v x y z).1 ∧ cR s (a_ln s v x y z).2 u o ∧ z_fr (z_F37 o) σ u) := by
  have hn := hR.n
  have h4 := hR.r4
  refine z_Ci_of (by decide) (Nat.le_of_ble_eq_true rfl) (fun Γ hd he => ?_)
  show z_J Γ zm_City_lendTo 0 [some (.inr o), some (.inl x), some (.inl y), some (.inl z)] [] σ
  have no : (¬ (z_isn x (s_n s) = true ∧ z_isn y (s_r s) = true ∧ nI 1 ≤ z ∧ z ≤ nI 30)) → z_J Γ zm_City_lendTo 27 [none, none, none, none] [] σ := fun h => by
    refine zb_City_lendTo_27 ?_
    rw [he, show a_ln s v x y z = (-1, v) from if_neg h]
    exact ⟨_, rfl, rfl, hR, z_fr.rf⟩
  refine zb_City_lendTo_0 ho (cc_isBook ho hn hR.fn x) (by omega) (fun w σ1 h => ?_)
  obtain ⟨rfl, rfl⟩ := h
  refine zb_City_lendTo_5 ho (fun h => no (fun q => ?_)) (fun h => ?_)
  · rw [z_tf_eq0] at h
    rw [h] at q
    exact absurd q.1 (by decide)
  rw [z_tf_eq0, Bool.not_eq_false] at h
  refine zb_City_lendTo_8 ho (cc_isReader ho hR.fr y) (by omega) (fun w σ2 h2 => ?_)
  obtain ⟨rfl, rfl⟩ := h2
  refine zb_City_lendTo_13 ho (fun h2 => no (fun q => ?_)) (fun h2 => ?_)
  · rw [z_tf_eq0] at h2
    rw [h2] at q
    exact absurd q.2.1 (by decide)
  rw [z_tf_eq0, Bool.not_eq_false] at h2
  refine zb_City_lendTo_16 ho (fun h3 => no (fun q => absurd q.2.2.1 (Int32.not_le.mpr h3))) (fun h3 => ?_)
  refine zb_City_lendTo_21 ho (fun h5 => ?_) (fun h5 => no (fun q => h5 q.2.2.2))
  obtain ⟨b, hb, rfl⟩ := z_isn_t (by omega) h
  obtain ⟨r, hr, rfl⟩ := z_isn_t (by omega) h2
  obtain ⟨n, h1, h30, rfl⟩ := zn_btw h3 h5 (by omega)
  rw [a_ln_nn hn h4 hb hr h1 h30] at he
  clear no h h2 h3 h5
  have hw3 := hR.w3 b
  refine zb_City_lendTo_29 ho (z_ixn (by omega)) (fun hw => ?_) (fun hw => ?_)
  · rw [hR.fW (by omega), zn_eq (by omega) (by omega)] at hw
    rw [if_pos (Or.inl hw)] at he
    refine zb_City_lendTo_49 ?_
    rw [he]
    exact ⟨_, rfl, rfl, hR, z_fr.rf⟩
  rw [hR.fW (by omega), zn_eq (by omega) (by omega)] at hw
  refine zb_City_lendTo_39 ho (z_ixn (by omega)) (fun hw2 => ?_) (fun hw2 => ?_)
  · rw [hR.fW (by omega), zn_eq (by omega) (by omega)] at hw2
    rw [if_neg (by omega)] at he
    refine zb_City_lendTo_52 ho (cc_loansOf ho hR (show r < 2147483648 by omega)) (by omega) (fun w σ3 h => ?_)
    obtain ⟨rfl, rfl⟩ := h
    refine zb_City_lendTo_57 ho (by omega) (fun h => ?_) (fun h => ?_)
    · rw [if_neg (Int32.not_le.mpr h)] at he
      refine zb_City_lendTo_67 ho (cc_lift ho hR hb) (by omega) (fun u hu => ?_)
      have hl := hu.lend hR hb hr (d := v_y v + n)
      have ey : u.1 o 12 = nI (v_y v) := by rw [(z_fr37 hu.fr).1]; exact hR.fy
      refine zb_City_lendTo_73 ho (k1 := b) (k2 := b) (k3 := b) (z_ixn (by omega)) (z_ixn (by omega)) (z_ixn (by omega)) ?_
      rw [z_pI_ne (show o ≠ o + 4 by omega), ey, nI_add, z_pI_at, he]
      exact ⟨_, rfl, rfl, hl.1, hl.2⟩
    · rw [if_pos (Int32.not_lt.mp h)] at he
      refine zb_City_lendTo_64 ?_
      rw [he]
      exact ⟨_, rfl, rfl, hR, z_fr.rf⟩
  · rw [hR.fW (by omega), zn_eq (by omega) (by omega)] at hw2
    rw [if_pos (Or.inr hw2)] at he
    refine zb_City_lendTo_49 ?_
    rw [he]
    exact ⟨_, rfl, rfl, hR, z_fr.rf⟩
def a_cb (s : aS) (v : aV) (x : Int32) : Int32 × aV :=
  if z_isn x (s_n s) = true then (if v_w v x.toNatClampNeg = 2 then (nI (v_h v x.toNatClampNeg), a_lift v x.toNatClampNeg 0) else (-2, v)) else (-1, v)
theorem cc_callBack (ho : z_oC o) (hR : cR s v σ o) (x : Int32) : z_Ci 3 zm_City_callBack [.inr o, .inl x] σ (fun a u => a = (a_cb s v x).1 ∧ cR s (a_cb s v x).2 u o ∧ z_fr (z_F37 o) σ u) := by
  have hn := hR.n
  refine z_Ci_of (by decide) (Nat.le_of_ble_eq_true rfl) (fun Γ hd he => ?_)
  show z_J Γ zm_City_callBack 0 [some (.inr o), some (.inl x), none] [] σ
  refine zb_City_callBack_0 ho (cc_isBook ho hn hR.fn x) (by omega) (fun w σ1 h => ?_)
  obtain ⟨rfl, rfl⟩ := h
  refine zb_City_callBack_5 ho (fun h => ?_) (fun h => ?_)
  · rw [z_tf_eq0, Bool.not_eq_false] at h
    obtain ⟨b, hb, rfl⟩ := z_isn_t (by omega) h
    have ea : a_cb s v (nI b) = if v_w v b = 2 then (nI (v_h v b), a_lift v b 0) else (-2, v) := by
      unfold a_cb
      rw [if_pos h, nI_clamp (by omega)]
    rw [ea] at he
    have hw3 := hR.w3 b
    refine zb_City_callBack_10 ho (z_ixn (by omega)) (fun hw => ?_) (fun hw => ?_)
    · rw [hR.fW (by omega), zn_eq (by omega) (by omega)] at hw
      rw [if_pos hw] at he
      refine zb_City_callBack_23 ho (k1 := b) (z_ixn (by omega)) (cc_lift ho hR hb) (by omega) (fun u hu => ?_)
      refine zb_City_callBack_36 ?_
      rw [he, hR.fH hb, if_pos (Or.inr hw)]
      exact ⟨_, rfl, rfl, hu.R hR hb (Or.inl rfl), hu.fr⟩
    · rw [hR.fW (by omega), zn_eq (by omega) (by omega)] at hw
      rw [if_neg hw] at he
      refine zb_City_callBack_20 ?_
      rw [he]
      exact ⟨_, rfl, rfl, hR, z_fr.rf⟩
  · rw [z_tf_eq0] at h
    have ea : a_cb s v x = (-1, v) := by
      unfold a_cb
      rw [if_neg (by rw [h]; decide)]
    rw [ea] at he
    refine zb_City_callBack_8 ?_
    rw [he]
    exact ⟨_, rfl, rfl, hR, z_fr.rf⟩
end
