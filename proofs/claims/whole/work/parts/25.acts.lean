section
variable {s : aS} {v : aV} {σ u : zS} {o : Nat}
/-- the rows of a city that put, lift and lend write -/
abbrev z_F37 (o : Nat) : Nat → Prop := fun q => o + 3 ≤ q ∧ q ≤ o + 7
theorem cL.fr {b t : Nat} (h : cL s v o b t σ u) : z_fr (z_F37 o) σ u := by
  obtain ⟨σ', rfl, hF, -, -⟩ := h
  exact (((hF.mono (fun q hq => by show o + 3 ≤ q ∧ q ≤ o + 7; omega)).pI (by show o + 3 ≤ _ ∧ _ ≤ o + 7; omega)).pI (by show o + 3 ≤ _ ∧ _ ≤ o + 7; omega)).pI (by show o + 3 ≤ _ ∧ _ ≤ o + 7; omega)
theorem z_fr37 (hF : z_fr (z_F37 o) σ u) : u.1 o = σ.1 o ∧ u.1 (o + 1) = σ.1 (o + 1) ∧ u.1 (o + 2) = σ.1 (o + 2) ∧ u.1 (o + 8) = σ.1 (o + 8) ∧ u.1 (o + 9) = σ.1 (o + 9) :=
  ⟨(hF o (by show ¬ (o + 3 ≤ _ ∧ _); omega)).1, (hF (o + 1) (by show ¬ (o + 3 ≤ _ ∧ _); omega)).1, (hF (o + 2) (by show ¬ (o + 3 ≤ _ ∧ _); omega)).1, (hF (o + 8) (by show ¬ (o + 3 ≤ _ ∧ _ ≤ o + 7); omega)).1, (hF (o + 9) (by show ¬ (o + 3 ≤ _ ∧ _ ≤ o + 7); omega)).1⟩
theorem cS.keep37 (h : cS s σ o) (hF : z_fr (z_F37 o) σ u) : cS s u o := by
  obtain ⟨e0, e1, e2, e8, e9⟩ := z_fr37 hF
  unfold cS
  rw [e0, e1, e2, e8]
  exact h
theorem cL.R {b t : Nat} (hR : cR s v σ o) (h : cL s v o b t σ u) (hb : b < s_n s) (ht : t = 0 ∨ t = 3) : cR s (a_lift v b t) u o := by
  have hfr := h.fr
  obtain ⟨σ', rfl, hF, hM, hP⟩ := h
  obtain ⟨e0, e1, e2, e8, e9⟩ := z_fr37 hfr
  have hn := hR.n
  refine ⟨aI_lift hR.1 hb ht, hR.2.1.keep37 hfr, fun b' hb' => ?_, fun b' hb' => ?_, fun b' hb' => ?_, fun c hc => ?_, fun c hc k hk => ?_, fun r hr => ?_, ?_⟩
  · show _ = nI (a_up (v_w v) b t b')
    rw [z_pI_ne (by omega), z_pI_ne (by omega), z_pI_1]
    by_cases e : b' = b
    · subst e
      rw [if_pos ⟨rfl, rfl⟩, a_up_s]
    · rw [if_neg (fun q => e q.2), a_up_n e, (hF (o + 3) (by omega)).1, hR.fW hb']
  · show _ = if a_up (v_w v) b t b' = 1 ∨ a_up (v_w v) b t b' = 2 then nI (v_h v b') else -1
    rw [z_pI_ne (by omega), z_pI_1]
    by_cases e : b' = b
    · subst e
      rw [if_pos ⟨rfl, rfl⟩, a_up_s, if_neg (by omega)]
    · rw [if_neg (fun q => e q.2), a_up_n e, z_pI_ne (by omega), (hF (o + 4) (by omega)).1, hR.fH hb']
  · show _ = if a_up (v_w v) b t b' = 2 then nI (v_d v b') else -1
    rw [z_pI_1]
    by_cases e : b' = b
    · subst e
      rw [if_pos ⟨rfl, rfl⟩, a_up_s, if_neg (by omega)]
    · rw [if_neg (fun q => e q.2), a_up_n e, z_pI_ne (by omega), z_pI_ne (by omega), (hF (o + 5) (by omega)).1, hR.fD hb']
  · rw [z_pI_ne (by omega), z_pI_ne (by omega), z_pI_ne (by omega)]
    exact hM c hc
  · rw [z_pI_ne (by omega), z_pI_ne (by omega), z_pI_ne (by omega)]
    exact hP c hc k hk
  · rw [e9]
    exact hR.fF hr
  · rw [e0]
    exact hR.fy
theorem cL.lend {b r d : Nat} (hR : cR s v σ o) (h : cL s v o b 2 σ u) (hb : b < s_n s) (hr : r < s_r s) : cR s (a_lend v b r d) (z_pI (z_pI u (o + 4) b (nI r)) (o + 5) b (nI d)) o ∧ z_fr (z_F37 o) σ (z_pI (z_pI u (o + 4) b (nI r)) (o + 5) b (nI d)) := by
  have hfr : z_fr (z_F37 o) σ (z_pI (z_pI u (o + 4) b (nI r)) (o + 5) b (nI d)) := (h.fr.pI (by show o + 3 ≤ _ ∧ _ ≤ o + 7; omega)).pI (by show o + 3 ≤ _ ∧ _ ≤ o + 7; omega)
  refine ⟨?_, hfr⟩
  obtain ⟨σ', rfl, hF, hM, hP⟩ := h
  obtain ⟨e0, e1, e2, e8, e9⟩ := z_fr37 hfr
  have hn := hR.n
  refine ⟨aI_lend hR.1 hb hr, hR.2.1.keep37 hfr, fun b' hb' => ?_, fun b' hb' => ?_, fun b' hb' => ?_, fun c hc => ?_, fun c hc k hk => ?_, fun r hr => ?_, ?_⟩
  · show _ = nI (a_up (v_w v) b 2 b')
    rw [z_pI_ne (by omega), z_pI_ne (by omega), z_pI_ne (by omega), z_pI_ne (by omega), z_pI_1]
    by_cases e : b' = b
    · subst e
      rw [if_pos ⟨rfl, rfl⟩, a_up_s]
    · rw [if_neg (fun q => e q.2), a_up_n e, (hF (o + 3) (by omega)).1, hR.fW hb']
  · show _ = if a_up (v_w v) b 2 b' = 1 ∨ a_up (v_w v) b 2 b' = 2 then nI (a_up (v_h v) b r b') else -1
    rw [z_pI_ne (by omega), z_pI_1]
    by_cases e : b' = b
    · subst e
      rw [if_pos ⟨rfl, rfl⟩, a_up_s, a_up_s, if_pos (Or.inr rfl)]
    · rw [if_neg (fun q => e q.2), a_up_n e, a_up_n e, z_pI_ne (by omega), z_pI_ne2 e, z_pI_ne (by omega), (hF (o + 4) (by omega)).1, hR.fH hb']
  · show _ = if a_up (v_w v) b 2 b' = 2 then nI (a_up (v_d v) b d b') else -1
    rw [z_pI_1]
    by_cases e : b' = b
    · subst e
      rw [if_pos ⟨rfl, rfl⟩, a_up_s, a_up_s, if_pos rfl]
    · rw [if_neg (fun q => e q.2), a_up_n e, a_up_n e, z_pI_ne (by omega), z_pI_ne2 e, z_pI_ne (by omega), z_pI_ne (by omega), (hF (o + 5) (by omega)).1, hR.fD hb']
  · rw [z_pI_ne (by omega), z_pI_ne (by omega), z_pI_ne (by omega), z_pI_ne (by omega), z_pI_ne (by omega)]
    exact hM c hc
  · rw [z_pI_ne (by omega), z_pI_ne (by omega), z_pI_ne (by omega), z_pI_ne (by omega), z_pI_ne (by omega)]
    exact hP c hc k hk
  · rw [e9]
    exact hR.fF hr
  · rw [e0]
    exact hR.fy
theorem cc_put (ho : z_oC o) (hR : cR s v σ o) {b c : Nat} (hb : b < s_n s) (hw : v_w v b = 0 ∨ v_w v b = 3) (hc : c < s_c s) (h4 : (v_p v c).length < 4) : z_Cv 0 zm_City_put [.inr o, .inl (nI b), .inl (nI c)] σ (fun u => cR s (a_put v b c) u o ∧ z_fr (z_F37 o) σ u) := by
  refine z_Cv_of (by decide) (Nat.le_of_ble_eq_true rfl) (fun Γ hd he => ?_)
  show z_J Γ zm_City_put 0 [some (.inr o), some (.inl (nI b)), some (.inl (nI c))] [] σ
  have hn := hR.n
  have h6 := hR.c6
  refine zb_City_put_0 ho (z_ixn (by omega)) (fun _ => ?_) (fun h => ?_)
  · refine zb_City_put_11 ho (k1 := c) (k2 := c * 4 + (v_p v c).length) (k3 := c) (k4 := c) (k5 := b) (k6 := b) (z_ixn (by omega)) (by rw [hR.fM hc]; exact z_ixp (by omega)) (z_ixn (by omega)) (z_ixn (by omega)) (z_ixn (by omega)) (z_ixn (by omega)) ?_
    rw [he, z_pI_ne (show o + 6 ≠ o + 7 by omega), hR.fM hc, nI_add]
    have hfr : z_fr (z_F37 o) σ (z_pI (z_pI (z_pI (z_pI σ (o + 7) (c * 4 + (v_p v c).length) (nI b)) (o + 6) c (nI ((v_p v c).length + 1))) (o + 3) b (nI 1)) (o + 4) b (nI c)) := (((z_fr.rf.pI (by show o + 3 ≤ _ ∧ _ ≤ o + 7; omega)).pI (by show o + 3 ≤ _ ∧ _ ≤ o + 7; omega)).pI (by show o + 3 ≤ _ ∧ _ ≤ o + 7; omega)).pI (by show o + 3 ≤ _ ∧ _ ≤ o + 7; omega)
    refine ⟨rfl, ?_, hfr⟩
    obtain ⟨e0, e1, e2, e8, e9⟩ := z_fr37 hfr
    refine ⟨aI_put hR.1 hb (by omega) hc h4, hR.2.1.keep37 hfr, fun b' hb' => ?_, fun b' hb' => ?_, fun b' hb' => ?_, fun c' hc' => ?_, fun c' hc' k hk => ?_, fun r hr => ?_, ?_⟩
    · show _ = nI (a_up (v_w v) b 1 b')
      rw [z_pI_ne (by omega), z_pI_1]
      by_cases e : b' = b
      · subst e
        rw [if_pos ⟨rfl, rfl⟩, a_up_s]
      · rw [if_neg (fun q => e q.2), a_up_n e, z_pI_ne (by omega), z_pI_ne (by omega), hR.fW hb']
    · show _ = if a_up (v_w v) b 1 b' = 1 ∨ a_up (v_w v) b 1 b' = 2 then nI (a_up (v_h v) b c b') else -1
      rw [z_pI_1]
      by_cases e : b' = b
      · subst e
        rw [if_pos ⟨rfl, rfl⟩, a_up_s, a_up_s, if_pos (Or.inl rfl)]
      · rw [if_neg (fun q => e q.2), a_up_n e, a_up_n e, z_pI_ne (by omega), z_pI_ne (by omega), z_pI_ne (by omega), hR.fH hb']
    · show _ = if a_up (v_w v) b 1 b' = 2 then nI (v_d v b') else -1
      rw [z_pI_ne (by omega), z_pI_ne (by omega), z_pI_ne (by omega), z_pI_ne (by omega), hR.fD hb']
      by_cases e : b' = b
      · subst e
        rw [a_up_s, if_neg (by omega), if_neg (by omega)]
      · rw [a_up_n e]
    · show _ = nI (a_upl (v_p v) c (v_p v c ++ [b]) c').length
      rw [z_pI_ne (by omega), z_pI_ne (by omega), z_pI_1]
      by_cases e : c' = c
      · subst e
        rw [if_pos ⟨rfl, rfl⟩]
        simp [a_upl]
      · rw [if_neg (fun q => e q.2), z_pI_ne (by omega), hR.fM hc']
        simp [a_upl, e]
    · have hk : k < (a_upl (v_p v) c (v_p v c ++ [b]) c').length := hk
      show _ = nI ((a_upl (v_p v) c (v_p v c ++ [b]) c').getD k 0)
      rw [z_pI_ne (by omega), z_pI_ne (by omega), z_pI_ne (by omega), z_pI_1]
      by_cases e : c' = c
      · subst e
        have e1 : a_upl (v_p v) c' (v_p v c' ++ [b]) c' = v_p v c' ++ [b] := if_pos rfl
        rw [e1] at hk ⊢
        simp only [List.length_append, List.length_cons, List.length_nil] at hk
        by_cases q : k = (v_p v c').length
        · subst q
          rw [if_pos ⟨rfl, rfl⟩]
          simp
        · rw [if_neg (fun z => q (by omega)), hR.fP hc' (by omega)]
          have : k < (v_p v c').length := by omega
          simp [List.getElem?_append_left this]
      · have e1 : a_upl (v_p v) c (v_p v c ++ [b]) c' = v_p v c' := if_neg e
        rw [e1] at hk ⊢
        have := (hR.col hc').2.1
        rw [if_neg (fun z => e (by omega)), hR.fP hc' hk]
    · rw [e9]
      exact hR.fF hr
    · rw [e0]
      exact hR.fy
  · rw [hR.fM hc, zn_eq (by omega) (by omega)] at h
    omega
end
