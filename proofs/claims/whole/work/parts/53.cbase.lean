/-! the program's own object: what it stands for -/
/-- frames of the program: rows outside R and numbers of 0 outside K stay -/
def cX (R K : Nat → Prop) (σ u : zS) : Prop := (∀ q, q ≠ 0 → ¬ R q → u.1 q = σ.1 q ∧ u.2 q = σ.2 q) ∧ (∀ k, ¬ K k → u.1 0 k = σ.1 0 k) ∧ u.2 0 = σ.2 0
/-- nothing of the model's is touched -/
def zW (σ u : zS) : Prop := ∀ q, 63 ≤ q → u.1 q = σ.1 q ∧ u.2 q = σ.2 q
section
variable {R K R' K' : Nat → Prop} {σ u w : zS}
theorem cX.rf : cX R K σ σ := ⟨fun _ _ _ => ⟨rfl, rfl⟩, fun _ _ => rfl, rfl⟩
theorem cX.tr (h1 : cX R K σ u) (h2 : cX R K u w) : cX R K σ w := ⟨fun q a b => ⟨(h2.1 q a b).1.trans (h1.1 q a b).1, (h2.1 q a b).2.trans (h1.1 q a b).2⟩, fun k a => (h2.2.1 k a).trans (h1.2.1 k a), h2.2.2.trans h1.2.2⟩
theorem cX.mono (h : cX R K σ u) (h1 : ∀ q, R q → R' q) (h2 : ∀ q, K q → K' q) : cX R' K' σ u := ⟨fun q a b => h.1 q a (fun r => b (h1 q r)), fun k a => h.2.1 k (fun r => a (h2 k r)), h.2.2⟩
theorem cX.pK {k : Nat} {x : Int32} (h : cX R K σ u) (hk : K k) : cX R K σ (z_pI u 0 k x) := by
  refine ⟨fun q a b => ?_, fun j hj => ?_, h.2.2⟩
  · rw [z_pI_ne a]
    exact h.1 q a b
  · rw [z_pI_ne2 (show j ≠ k from fun e => hj (e ▸ hk))]
    exact h.2.1 j hj
theorem cX.pR {o k : Nat} {x : Int32} (h : cX R K σ u) (ho : R o) (h0 : o ≠ 0) : cX R K σ (z_pI u o k x) := by
  refine ⟨fun q a b => ?_, fun j hj => ?_, h.2.2⟩
  · rw [z_pI_ne (show q ≠ o from fun e => b (e ▸ ho))]
    exact h.1 q a b
  · rw [z_pI_ne (show 0 ≠ o from fun e => h0 e.symm)]
    exact h.2.1 j hj
theorem cX.pA {o : Nat} {f : Nat → Int32} (h : cX R K σ u) (ho : R o) (h0 : o ≠ 0) : cX R K σ (z_pA u o f) := by
  refine ⟨fun q a b => ?_, fun j hj => ?_, h.2.2⟩
  · rw [z_pA_1, if_neg (show ¬ q = o from fun e => b (e ▸ ho))]
    exact h.1 q a b
  · rw [z_pA_1, if_neg (show ¬ 0 = o from fun e => h0 e.symm)]
    exact h.2.1 j hj
theorem z_fr.cX (h : z_fr R σ u) (h0 : ¬ R 0) (h1 : ∀ q, R q → R' q) : cX R' K σ u := ⟨fun q _ b => h q (fun r => b (h1 q r)), fun k _ => by rw [(h 0 h0).1], (h 0 h0).2⟩
theorem zW.rf : zW σ σ := fun _ _ => ⟨rfl, rfl⟩
theorem zW.tr (h1 : zW σ u) (h2 : zW u w) : zW σ w := fun q hq => ⟨(h2 q hq).1.trans (h1 q hq).1, (h2 q hq).2.trans (h1 q hq).2⟩
theorem cX.toW (h : cX R K σ u) (hR : ∀ q, R q → q < 63) : zW σ u := fun q hq => h.1 q (by omega) (fun r => by have := hR q r; omega)
end
/-- the pages of what can be undone -/
def cH (s : aS) (H : List aV) (σ : zS) : Prop := H.length ≤ 12 ∧ σ.1 11 2 = nI H.length ∧ ∃ nx, nx < 13 ∧ σ.1 11 1 = nI nx ∧ ∀ i w, H[i]? = some w → aI s w ∧ pgR s w (σ.1 (13 + (nx + 13 - H.length + i) % 13))
/-- the page that the next act would keep -/
def cMk (s : aS) (w : aV) (σ : zS) : Prop := aI s w ∧ ∃ nx, nx < 13 ∧ σ.1 11 1 = nI nx ∧ pgR s w (σ.1 (13 + nx))
def cRu (E : (Nat → Int32) → Int32) (σ : zS) : Prop := ((σ.2 0 6 = 53 ∧ σ.2 0 7 = 58) ∨ (σ.2 0 6 = 58 ∧ σ.2 0 7 = 53)) ∧ rR E σ (σ.2 0 6)
def cTx (L : Nat) (X : Nat → Nat) (σ : zS) : Prop := L ≤ 80 ∧ σ.1 0 1 = nI L ∧ ∀ i, i < L → X i < 256 ∧ σ.1 1 i = nI (X i)
def cRow (l : List Int32) (σ : zS) : Prop := l.length ≤ 12 ∧ σ.1 0 3 = nI l.length ∧ ∀ i x, l[i]? = some x → σ.1 2 i = x
def cSe (s : aS) (se : Nat → Option Nat) (σ : zS) : Prop := ∀ c, c < s_c s → (se c = none → σ.1 7 c = -1) ∧ ∀ h, se c = some h → h ≤ 99 ∧ σ.1 7 c = nI h
def cKp (s : aS) (kp : Nat → Option aV) (σ : zS) : Prop := ∀ i, i < 2 → (kp i = none → σ.1 6 i = nI 0) ∧ ∀ w, kp i = some w → σ.1 6 i = nI 1 ∧ aI s w ∧ pgR s w (σ.1 (4 + i))
/-- the program's object stands for x -/
def cA (x : tX) (σ : zS) : Prop := cR (x_s x) (x_v x) σ 33 ∧ cH (x_s x) (x_H x) σ ∧ cRu (x_E x) σ ∧ cTx (x_L x) (x_X x) σ ∧ cRow (x_r x) σ ∧ cSe (x_s x) (x_e x) σ ∧ cKp (x_s x) (x_k x) σ
/-- what the program may always change -/
def c_sO (q : Nat) : Prop := (8 ≤ q ∧ q ≤ 10) ∨ (26 ≤ q ∧ q ≤ 32) ∨ (43 ≤ q ∧ q ≤ 52) ∨ q = 55 ∨ q = 60
abbrev c_qO (q : Nat) : Prop := c_sO q ∨ q = 2
abbrev c_qK (k : Nat) : Prop := k = 3
abbrev c_aO (q : Nat) : Prop := q = 2 ∨ (8 ≤ q ∧ q ≤ 52) ∨ q = 55 ∨ q = 60
section
variable {R K : Nat → Prop} {σ u : zS} {x : tX} {s : aS} {v : aV}
theorem cR.cX33 (h : cR s v σ 33) (hF : cX R K σ u) (h1 : ∀ q, 33 ≤ q → q ≤ 42 → ¬ R q) : cR s v u 33 := h.keep (fun j hj => (hF.1 (33 + j) (by omega) (h1 _ (by omega) (by omega))).1)
theorem cH.keepX {H : List aV} (h : cH s H σ) (hF : cX R K σ u) (h1 : ¬ R 11) (h2 : ∀ q, 13 ≤ q → q ≤ 25 → ¬ R q) : cH s H u := by
  obtain ⟨a, b, nx, c, d, e⟩ := h
  refine ⟨a, by rw [(hF.1 11 (by decide) h1).1]; exact b, nx, c, by rw [(hF.1 11 (by decide) h1).1]; exact d, fun i w hw => ?_⟩
  rw [(hF.1 (13 + (nx + 13 - H.length + i) % 13) (by omega) (h2 _ (by omega) (by omega))).1]
  exact e i w hw
theorem cMk.keepX {w : aV} (h : cMk s w σ) (hF : cX R K σ u) (h1 : ¬ R 11) (h2 : ∀ q, 13 ≤ q → q ≤ 25 → ¬ R q) : cMk s w u := by
  obtain ⟨a, nx, c, d, e⟩ := h
  refine ⟨a, nx, c, by rw [(hF.1 11 (by decide) h1).1]; exact d, ?_⟩
  rw [(hF.1 (13 + nx) (by omega) (h2 _ (by omega) (by omega))).1]
  exact e
theorem cRu.oR {E : (Nat → Int32) → Int32} (h : cRu E σ) : z_oR (σ.2 0 6) := h.1.elim (fun q => Or.inl q.1) (fun q => Or.inr q.1)
theorem cRu.oR2 {E : (Nat → Int32) → Int32} (h : cRu E σ) : z_oR (σ.2 0 7) := h.1.elim (fun q => Or.inr q.2) (fun q => Or.inl q.2)
theorem cRu.keepX {E : (Nat → Int32) → Int32} (h : cRu E σ) (hF : cX R K σ u) (h1 : ¬ R 53 ∧ ¬ R 54 ∧ ¬ R 58 ∧ ¬ R 59) : cRu E u := by
  obtain ⟨a, b⟩ := h
  unfold cRu
  rw [hF.2.2]
  refine ⟨a, ?_⟩
  rcases a with ⟨a1, a2⟩ | ⟨a1, a2⟩
  · rw [a1] at b ⊢
    exact b.keep (hF.1 53 (by decide) h1.1).1 (hF.1 54 (by decide) h1.2.1).1
  · rw [a1] at b ⊢
    exact b.keep (hF.1 58 (by decide) h1.2.2.1).1 (hF.1 59 (by decide) h1.2.2.2).1
theorem cTx.keepX {L : Nat} {X : Nat → Nat} (h : cTx L X σ) (hF : cX R K σ u) (h1 : ¬ R 1) (h2 : ¬ K 1) : cTx L X u := by
  obtain ⟨a, b, c⟩ := h
  refine ⟨a, by rw [hF.2.1 1 h2]; exact b, fun i hi => ?_⟩
  rw [(hF.1 1 (by decide) h1).1]
  exact c i hi
theorem cRow.keepX {l : List Int32} (h : cRow l σ) (hF : cX R K σ u) (h1 : ¬ R 2) (h2 : ¬ K 3) : cRow l u := by
  obtain ⟨a, b, c⟩ := h
  refine ⟨a, by rw [hF.2.1 3 h2]; exact b, fun i x hi => ?_⟩
  rw [(hF.1 2 (by decide) h1).1]
  exact c i x hi
theorem cSe.keepX {se : Nat → Option Nat} (h : cSe s se σ) (hF : cX R K σ u) (h1 : ¬ R 7) : cSe s se u := by
  intro c hc
  rw [(hF.1 7 (by decide) h1).1]
  exact h c hc
theorem cKp.keepX {kp : Nat → Option aV} (h : cKp s kp σ) (hF : cX R K σ u) (h1 : ¬ R 4 ∧ ¬ R 5 ∧ ¬ R 6) : cKp s kp u := by
  intro i hi
  have e : u.1 (4 + i) = σ.1 (4 + i) := by
    rcases (show i = 0 ∨ i = 1 by omega) with rfl | rfl
    · exact (hF.1 4 (by decide) h1.1).1
    · exact (hF.1 5 (by decide) h1.2.1).1
  rw [(hF.1 6 (by decide) h1.2.2).1, e]
  exact h i hi
theorem cA.act (h : cA x σ) (hF : cX c_aO c_qK σ u) {v' : aV} {H' : List aV} {r' : List Int32} (h1 : cR (x_s x) v' u 33) (h2 : cH (x_s x) H' u) (h3 : cRow r' u) : cA (x_act x v' H' r') u := ⟨h1, h2, h.2.2.1.keepX hF (by unfold c_aO; omega), h.2.2.2.1.keepX hF (by unfold c_aO; omega) (by decide), h3, h.2.2.2.2.2.1.keepX hF (by unfold c_aO; omega), h.2.2.2.2.2.2.keepX hF (by unfold c_aO; omega)⟩
theorem cX.toWa (h : cX c_aO K σ u) : zW σ u := h.toW (by unfold c_aO; omega)
theorem cA.row (h : cA x σ) (hF : cX c_qO c_qK σ u) {r' : List Int32} (h3 : cRow r' u) : cA (x_row x r') u ∧ zW σ u := ⟨h.act (hF.mono (by unfold c_qO c_sO c_aO; omega) (fun _ h => h)) (h.1.cX33 hF (by unfold c_qO c_sO; omega)) (h.2.1.keepX hF (by unfold c_qO c_sO; omega) (by unfold c_qO c_sO; omega)) h3, hF.toW (by unfold c_qO c_sO; omega)⟩
theorem cA.low (h : cA x σ) (hF : cX c_sO (fun _ => False) σ u) : cA x u ∧ zW σ u := h.row (hF.mono (fun _ h => Or.inl h) (fun _ h => h.elim)) (h.2.2.2.2.1.keepX hF (by unfold c_sO; omega) id)
theorem z_c33 : z_oC 33 := Or.inl rfl
theorem z_c43 : z_oC 43 := Or.inr rfl
/-! small contracts of the program -/
theorem cc_takeText (σ : zS) : z_Ci 0 zm_Walls_takeText [.inr 0] σ (z_is (σ.1 0 1) (z_pI σ 0 1 (nI 0))) := by
  refine z_Ci_of (by decide) (Nat.le_of_ble_eq_true rfl) (fun Γ hd he => ?_)
  show z_J Γ zm_Walls_takeText 0 [some (.inr 0), none] [] σ
  refine zb_Walls_takeText_0 ?_
  rw [he]
  exact ⟨_, rfl, rfl, rfl⟩
theorem cc_tell (a : Int32) (σ : zS) : z_Cv 0 zm_Walls_tell [.inr 0, .inl a] σ (fun u => cRow [a] u ∧ cX (fun q => q = 2) c_qK σ u) := by
  refine z_Cv_of (by decide) (Nat.le_of_ble_eq_true rfl) (fun Γ hd he => ?_)
  show z_J Γ zm_Walls_tell 0 [some (.inr 0), some (.inl a)] [] σ
  refine zb_Walls_tell_0 (k1 := 0) (z_ixn (by omega)) ?_
  rw [he]
  refine ⟨rfl, ⟨by simp, z_pI_at _ _ _ _, fun i y hy => ?_⟩, cX.pK (cX.pR cX.rf rfl (by decide)) rfl⟩
  match i, hy with
  | 0, hy =>
    simp at hy
    rw [z_pI_ne (by decide), z_pI_at, hy]
theorem cc_tellTwo (a b : Int32) (σ : zS) : z_Cv 0 zm_Walls_tellTwo [.inr 0, .inl a, .inl b] σ (fun u => cRow [a, b] u ∧ cX (fun q => q = 2) c_qK σ u) := by
  refine z_Cv_of (by decide) (Nat.le_of_ble_eq_true rfl) (fun Γ hd he => ?_)
  show z_J Γ zm_Walls_tellTwo 0 [some (.inr 0), some (.inl a), some (.inl b)] [] σ
  refine zb_Walls_tellTwo_0 (k1 := 0) (z_ixn (by omega)) (k2 := 1) (z_ixn (by omega)) ?_
  rw [he]
  refine ⟨rfl, ⟨by simp, z_pI_at _ _ _ _, fun i y hy => ?_⟩, cX.pK (cX.pR (cX.pR cX.rf rfl (by decide)) rfl (by decide)) rfl⟩
  match i, hy with
  | 0, hy =>
    simp at hy
    rw [z_pI_ne (by decide), z_pI_ne2 (by decide), z_pI_at, hy]
  | 1, hy =>
    simp at hy
    rw [z_pI_ne (by decide), z_pI_at, hy]
theorem cc_tellRow {a n : Nat} (ha : z_kd a = (11, n)) (hn : n < 2 ^ 31) {l : List Int32} (hl : l.length ≤ n) (h12 : l.length ≤ 12) (hv : ∀ i y, l[i]? = some y → σ.1 a i = y) : z_Cv 1 zm_Walls_tellRow [.inr 0, .inr a, .inl (nI l.length)] σ (fun u => cRow l u ∧ cX (fun q => q = 2) c_qK σ u) := by
  refine z_Cv_of (by decide) (Nat.le_of_ble_eq_true rfl) (fun Γ hd he => ?_)
  show z_J Γ zm_Walls_tellRow 0 [some (.inr 0), some (.inr a), some (.inl (nI l.length))] [] σ
  refine zb_Walls_tellRow_0 ha hn (by omega) (i1 := 0) (j1 := 0) (l1 := l.length) rfl rfl rfl (by omega) (by omega) (z_gen (fun σ1 h1 => ?_))
  have c1 := z_cp h1
  refine zb_Walls_tellRow_11 ?_
  rw [he]
  refine ⟨rfl, ⟨h12, z_pI_at _ _ _ _, fun i y hy => ?_⟩, cX.pK ?_ rfl⟩
  · have hi : i < l.length := (List.getElem?_eq_some_iff.mp hy).1
    have := c1.1 i hi
    rw [Nat.zero_add] at this
    rw [z_pI_ne (by decide), this]
    exact hv i y hy
  · rw [h1]
    exact cX.pA cX.rf rfl (by decide)
theorem cc_isHeight (a : Int32) (σ : zS) : z_Ci 0 zm_Walls_isHeight [.inl a] σ (z_is (z_tf (decide (nI 0 ≤ a) && decide (a ≤ nI 99))) σ) := by
  refine z_Ci_of (by decide) (Nat.le_of_ble_eq_true rfl) (fun Γ hd he => ?_)
  show z_J Γ zm_Walls_isHeight 0 [some (.inl a)] [] σ
  have e0 : (0 : Int32) = nI 0 := rfl
  have no : (decide (nI 0 ≤ a) && decide (a ≤ nI 99)) = false → z_J Γ zm_Walls_isHeight 14 [none] [] σ := fun q => by
    refine zb_Walls_isHeight_14 ?_
    refine zb_Walls_isHeight_15 ?_ (Or.inl rfl)
    rw [he, q]
    exact ⟨_, rfl, rfl, rfl⟩
  refine zb_Walls_isHeight_0 (fun k => no ?_) (fun k => ?_)
  · rw [e0] at k
    simp [Int32.not_le.mpr k]
  refine zb_Walls_isHeight_4 (fun k2 => no ?_) (fun k2 => ?_)
  · simp [Int32.not_le.mpr k2]
  refine zb_Walls_isHeight_10 ?_
  refine zb_Walls_isHeight_15 ?_ (Or.inr rfl)
  rw [e0] at k
  rw [he, decide_eq_true (Int32.not_lt.mp k), decide_eq_true (Int32.not_lt.mp k2)]
  exact ⟨_, rfl, rfl, rfl⟩
theorem cc_mark {H : List aV} (hR : cR s v σ 33) (hH : cH s H σ) : z_Cv 2 zm_History_mark [.inr 11, .inr 33] σ (fun u => cH s H u ∧ cMk s v u ∧ cX (fun q => 13 ≤ q ∧ q ≤ 25) (fun _ => False) σ u) := by
  obtain ⟨a, b, nx, c, d, e⟩ := hH
  refine z_Cv_of (by decide) (Nat.le_of_ble_eq_true rfl) (fun Γ hd he => ?_)
  show z_J Γ zm_History_mark 0 [some (.inr 11), some (.inr 33)] [] σ
  refine zb_History_mark_0 z_c33 (k1 := nx) ⟨d, c⟩ (cc_writePage z_c33 hR (zk_row12 c) (by omega)) (by omega) (fun u hu => ?_)
  obtain ⟨q1, q2⟩ := hu
  refine zb_History_mark_13 ?_
  rw [he]
  have hX : cX (fun q => q = 13 + nx) (fun _ => False) σ u := q2.cX (by omega) (by omega)
  have f11 := (hX.1 11 (by decide) (by omega)).1
  refine ⟨rfl, ⟨a, by rw [f11]; exact b, nx, c, by rw [f11]; exact d, fun i w hw => ?_⟩, ⟨hR.1, nx, c, by rw [f11]; exact d, ?_⟩, hX.mono (by omega) (fun _ h => h)⟩
  · have hi : i < H.length := (List.getElem?_eq_some_iff.mp hw).1
    rw [(hX.1 (13 + (nx + 13 - H.length + i) % 13) (by omega) (by omega)).1]
    exact e i w hw
  · rw [show 13 + nx = 12 + 1 + nx by omega]
    exact q1
theorem cc_keepMark {H : List aV} {w : aV} (hH : cH s H σ) (hM : cMk s w σ) : z_Cv 1 zm_History_keepMark [.inr 11] σ (fun u => cH s (a_rem H w) u ∧ cX (fun q => q = 11) (fun _ => False) σ u) := by
  obtain ⟨a, b, nx, c, d, e⟩ := hH
  obtain ⟨m1, nx', m2, m3, m4⟩ := hM
  have en : nx' = nx := by
    rw [d, zn_eq (by omega) (by omega)] at m3
    exact m3.symm
  subst en
  refine z_Cv_of (by decide) (Nat.le_of_ble_eq_true rfl) (fun Γ hd he => ?_)
  show z_J Γ zm_History_keepMark 0 [some (.inr 11)] [] σ
  refine zb_History_keepMark_0 (by omega) ?_
  rw [d, z_pI_ne2 (show 2 ≠ 1 by decide), b, nI_add, nI_add, zn_rem (by omega) (by omega) (by omega), zn_min (by omega) (by omega), he]
  have hX : cX (fun q => q = 11) (fun _ => False) σ (z_pI (z_pI σ 11 1 (nI ((nx' + 1) % 13))) 11 2 (nI (if 12 < H.length + 1 then 12 else H.length + 1))) := cX.pR (cX.pR cX.rf rfl (by decide)) rfl (by decide)
  have hl : (a_rem H w).length = if 12 < H.length + 1 then 12 else H.length + 1 := by
    unfold a_rem
    by_cases q : H.length = 12
    · simp [q]
    · rw [if_neg q, if_neg (by omega)]
      simp
  refine ⟨rfl, ⟨?_, ?_, (nx' + 1) % 13, by omega, ?_, fun i y hy => ?_⟩, hX⟩
  · rw [hl]
    split <;> omega
  · rw [z_pI_at, hl]
  · rw [z_pI_ne2 (by decide), z_pI_at]
  · rw [z_pI_ne (by omega), z_pI_ne (by omega), hl]
    have hi : i < (a_rem H w).length := (List.getElem?_eq_some_iff.mp hy).1
    rw [hl] at hi
    unfold a_rem at hy
    by_cases q : H.length = 12
    · rw [if_pos q] at hy
      rw [if_pos (by omega)] at hi ⊢
      rcases Nat.lt_or_ge i 11 with q2 | q2
      · rw [List.getElem?_append_left (by simp; omega), List.getElem?_drop] at hy
        have h1 := e (1 + i) y hy
        rw [show ((nx' + 1) % 13 + 13 - 12 + i) % 13 = (nx' + 13 - H.length + (1 + i)) % 13 by omega]
        exact h1
      · have e1 : i = 11 := by omega
        subst e1
        rw [List.getElem?_append_right (by simp; omega)] at hy
        simp [q] at hy
        subst hy
        rw [show ((nx' + 1) % 13 + 13 - 12 + 11) % 13 = nx' by omega]
        exact ⟨m1, m4⟩
    · rw [if_neg q] at hy
      rw [if_neg (by omega)] at hi ⊢
      rcases Nat.lt_or_ge i H.length with q2 | q2
      · rw [List.getElem?_append_left q2] at hy
        have h1 := e i y hy
        rw [show ((nx' + 1) % 13 + 13 - (H.length + 1) + i) % 13 = (nx' + 13 - H.length + i) % 13 by omega]
        exact h1
      · have e1 : i = H.length := by omega
        subst e1
        rw [List.getElem?_append_right (Nat.le_refl _)] at hy
        simp at hy
        subst hy
        rw [show ((nx' + 1) % 13 + 13 - (H.length + 1) + H.length) % 13 = nx' by omega]
        exact ⟨m1, m4⟩
theorem cc_clear (s : aS) (hH : ∃ nx, nx < 13 ∧ σ.1 11 1 = nI nx) : z_Cv 0 zm_History_clear [.inr 11] σ (fun u => cH s [] u ∧ cX (fun q => q = 11) (fun _ => False) σ u) := by
  obtain ⟨nx, h1, h2⟩ := hH
  refine z_Cv_of (by decide) (Nat.le_of_ble_eq_true rfl) (fun Γ hd he => ?_)
  show z_J Γ zm_History_clear 0 [some (.inr 11)] [] σ
  refine zb_History_clear_0 ?_
  rw [he]
  exact ⟨rfl, ⟨by simp, z_pI_at _ _ _ _, nx, h1, by rw [z_pI_ne2 (by decide)]; exact h2, fun i w hw => absurd hw (by simp)⟩, cX.pR cX.rf rfl (by decide)⟩
theorem cc_restore {H : List aV} (hS : cS s σ 33) (hH : cH s H σ) {w : aV} (hw : H.getLast? = some w) : z_Cv 2 zm_History_restore [.inr 11, .inr 33] σ (fun u => cR s w u 33 ∧ cH s H.dropLast u ∧ cX (fun q => q = 11 ∨ (33 ≤ q ∧ q ≤ 42)) (fun _ => False) σ u) := by
  obtain ⟨a, b, nx, c, d, e⟩ := hH
  have hl : 0 < H.length := by
    cases H with
    | nil => simp at hw
    | cons _ _ => simp
  refine z_Cv_of (by decide) (Nat.le_of_ble_eq_true rfl) (fun Γ hd he => ?_)
  show z_J Γ zm_History_restore 0 [some (.inr 11), some (.inr 33)] [] σ
  have e1 : ((σ.1 11 1 + nI 13) - nI 1) - ((σ.1 11 1 + nI 13) - nI 1) / nI 13 * nI 13 = nI ((nx + 12) % 13) := by
    rw [d, nI_add, zn_pred (by omega), show nx + 13 - 1 = nx + 12 by omega, zn_rem (by omega) (by omega) (by omega)]
  obtain ⟨σ1, hσ1⟩ : ∃ z, z = z_pI (z_pI σ 11 1 (nI ((nx + 12) % 13))) 11 2 (nI (H.length - 1)) := ⟨_, rfl⟩
  have e2 : z_pI (z_pI σ 11 1 (((σ.1 11 1 + nI 13) - nI 1) - ((σ.1 11 1 + nI 13) - nI 1) / nI 13 * nI 13)) 11 2 ((z_pI σ 11 1 (((σ.1 11 1 + nI 13) - nI 1) - ((σ.1 11 1 + nI 13) - nI 1) / nI 13 * nI 13)).1 11 2 - nI 1) = σ1 := by
    rw [e1, z_pI_ne2 (show 2 ≠ 1 by decide), b, zn_pred hl, hσ1]
  have hX1 : cX (fun q => q = 11) (fun _ => False) σ σ1 := by rw [hσ1]; exact cX.pR (cX.pR cX.rf rfl (by decide)) rfl (by decide)
  have f1 : σ1.1 11 1 = nI ((nx + 12) % 13) := by rw [hσ1, z_pI_ne2 (by decide), z_pI_at]
  have f2 : σ1.1 11 2 = nI (H.length - 1) := by rw [hσ1, z_pI_at]
  have hlast : H[H.length - 1]? = some w := by rw [← hw, List.getLast?_eq_getElem?]
  obtain ⟨w1, w2⟩ := e _ w hlast
  have hS1 : cS s σ1 33 := by
    unfold cS
    rw [(hX1.1 33 (by decide) (by decide)).1, (hX1.1 (33 + 1) (by decide) (by decide)).1, (hX1.1 (33 + 2) (by decide) (by decide)).1, (hX1.1 (33 + 8) (by decide) (by decide)).1]
    exact hS
  have hm := cc_readPage (σ := σ1) (a := 12 + 1 + (nx + 12) % 13) z_c33 w1 hS1 (zk_row12 (by omega)) (by omega) (by
    rw [(hX1.1 (12 + 1 + (nx + 12) % 13) (by omega) (by omega)).1, show 12 + 1 + (nx + 12) % 13 = 13 + (nx + 13 - H.length + (H.length - 1)) % 13 by omega]
    exact w2)
  refine zb_History_restore_0 (k1 := (nx + 12) % 13) (dc := 1) (P := fun u => cR s w u 33 ∧ z_fr (z_F09 33) σ1 u) z_c33 ?_ ?_ (by omega) (fun u hu => ?_)
  · rw [e2]
    exact ⟨f1, by omega⟩
  · rw [e2]
    exact hm
  obtain ⟨q1, q2⟩ := hu
  refine zb_History_restore_39 ?_
  rw [he]
  have hX2 : cX (fun q => q = 11 ∨ (33 ≤ q ∧ q ≤ 42)) (fun _ => False) σ1 u := q2.cX (by show ¬ (33 ≤ 0 ∧ 0 ≤ 42); omega) (fun q h => Or.inr h)
  have g11 : u.1 11 = σ1.1 11 := (q2 11 (by show ¬ (33 ≤ 11 ∧ 11 ≤ 42); omega)).1
  have hld : H.dropLast.length = H.length - 1 := List.length_dropLast
  refine ⟨rfl, q1, ⟨by omega, by rw [g11, f2, hld], (nx + 12) % 13, by omega, by rw [g11, f1], fun i y hy => ?_⟩, (hX1.mono (fun _ h => Or.inl h) (fun _ h => h)).tr hX2⟩
  have hi : i < H.dropLast.length := (List.getElem?_eq_some_iff.mp hy).1
  rw [hld] at hi
  rw [(q2 (13 + ((nx + 12) % 13 + 13 - H.dropLast.length + i) % 13) (by show ¬ (33 ≤ _ ∧ _ ≤ 42); omega)).1, (hX1.1 (13 + ((nx + 12) % 13 + 13 - H.dropLast.length + i) % 13) (by omega) (by omega)).1, hld, show ((nx + 12) % 13 + 13 - (H.length - 1) + i) % 13 = (nx + 13 - H.length + i) % 13 by omega]
  refine e i y ?_
  rw [List.getElem?_dropLast, if_pos hi] at hy
  exact hy
theorem cc_keepIfDone {H : List aV} {w : aV} (hH : cH s H σ) (hM : cMk s w σ) (a : Int32) : z_Ci 2 zm_Walls_keepIfDone [.inr 0, .inl a] σ (fun r u => r = a ∧ cH s (if 0 ≤ a then a_rem H w else H) u ∧ cX (fun q => q = 11) (fun _ => False) σ u) := by
  refine z_Ci_of (by decide) (Nat.le_of_ble_eq_true rfl) (fun Γ hd he => ?_)
  show z_J Γ zm_Walls_keepIfDone 0 [some (.inr 0), some (.inl a)] [] σ
  refine zb_Walls_keepIfDone_0 (fun k => ?_) (fun k => ?_)
  · refine zb_Walls_keepIfDone_11 ?_
    rw [he, if_neg (Int32.not_le.mpr k)]
    exact ⟨_, rfl, rfl, hH, cX.rf⟩
  · refine zb_Walls_keepIfDone_4 (cc_keepMark hH hM) (by omega) (fun u hu => ?_)
    refine zb_Walls_keepIfDone_11 ?_
    rw [he, if_pos (Int32.not_lt.mp k)]
    exact ⟨_, rfl, rfl, hu.1, hu.2⟩
theorem cc_forgetPast (s : aS) (hH : ∃ nx, nx < 13 ∧ σ.1 11 1 = nI nx) : z_Cv 1 zm_Walls_forgetPast [.inr 0] σ (fun u => cH s [] u ∧ cKp s (fun _ => none) u ∧ cX (fun q => q = 11 ∨ q = 6) (fun _ => False) σ u) := by
  refine z_Cv_of (by decide) (Nat.le_of_ble_eq_true rfl) (fun Γ hd he => ?_)
  show z_J Γ zm_Walls_forgetPast 0 [some (.inr 0)] [] σ
  refine zb_Walls_forgetPast_0 (cc_clear s hH) (by omega) (fun u hu => ?_)
  refine zb_Walls_forgetPast_7 (k1 := 0) (z_ixn (by omega)) (k2 := 1) (z_ixn (by omega)) ?_
  have e0 : vp_nar .boolean (nI 0) = nI 0 := by decide
  rw [he, e0]
  have hX : cX (fun q => q = 6) (fun _ => False) u (z_pI (z_pI u 6 0 (nI 0)) 6 1 (nI 0)) := cX.pR (cX.pR cX.rf rfl (by decide)) rfl (by decide)
  refine ⟨rfl, hu.1.keepX hX (by decide) (by omega), fun i hi => ⟨fun _ => ?_, fun w hw => absurd hw (by simp)⟩, (hu.2.mono (fun _ h => Or.inl h) (fun _ h => h)).tr (hX.mono (fun _ h => Or.inr h) (fun _ h => h))⟩
  rcases (show i = 0 ∨ i = 1 by omega) with rfl | rfl
  · rw [z_pI_ne2 (by decide), z_pI_at]
  · rw [z_pI_at]
end
