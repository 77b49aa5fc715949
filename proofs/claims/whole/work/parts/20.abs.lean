/-! numbers -/
theorem zn_le {a b : Nat} (ha : a < 2147483648) (hb : b < 2147483648) : nI a ≤ nI b ↔ a ≤ b := nI_leI ha hb
theorem zn_lt {a b : Nat} (ha : a < 2147483648) (hb : b < 2147483648) : nI a < nI b ↔ a < b := nI_ltI ha hb
theorem zn_eq {a b : Nat} (ha : a < 2147483648) (hb : b < 2147483648) : nI a = nI b ↔ a = b := nI_eq ha hb
theorem zn_lit (n : Nat) : (OfNat.ofNat n : Int32) = nI n := rfl
theorem zn_or (a b : Nat) : nI a ||| nI b = nI (a ||| b) := by
  apply Int32.toBitVec_inj.1
  show BitVec.ofNat 32 a ||| BitVec.ofNat 32 b = BitVec.ofNat 32 (a ||| b)
  apply BitVec.eq_of_getLsbD_eq
  intro i hi
  simp [hi]
theorem zn_and (a b : Nat) : nI a &&& nI b = nI (a &&& b) := by
  apply Int32.toBitVec_inj.1
  show BitVec.ofNat 32 a &&& BitVec.ofNat 32 b = BitVec.ofNat 32 (a &&& b)
  apply BitVec.eq_of_getLsbD_eq
  intro i hi
  simp [hi]
theorem zn_s31 : ∀ n, n < 32 → ((nI n &&& 31).toBitVec.smod 32).toNat = n := by decide +kernel
theorem zn_shl {k : Nat} (h : k < 31) : nI 1 <<< (nI k &&& 31) = nI (2 ^ k) := by
  have h2 : 2 ^ k < 2 ^ 31 := Nat.pow_lt_pow_right (by decide) h
  rw [pk_shlN (nI k &&& 31) k (zn_s31 k (by omega)) (by omega), Nat.one_mul]
theorem zn_shr {n k : Nat} (hn : n < 2147483648) (h : k < 32) : nI n >>> (nI k &&& 31) = nI (n / 2 ^ k) := pk_shrN hn _ k (zn_s31 k h)
theorem zn_bit {n k : Nat} (hn : n < 2147483648) (h : k < 32) : (nI n >>> (nI k &&& 31)) &&& nI 1 = nI (n / 2 ^ k % 2) := by
  rw [zn_shr hn h, pk_andN (Nat.lt_of_le_of_lt (Nat.div_le_self _ _) (by omega)) 1 (by decide)]
theorem zn_bit0 {n k : Nat} (hn : n < 2147483648) (h : k < 32) : (nI n >>> (nI k &&& 31)) &&& nI 1 = 0 ↔ n.testBit k = false := by
  rw [zn_bit hn h]
  have e : (0 : Int32) = nI 0 := rfl
  have l : n / 2 ^ k % 2 < 2 := Nat.mod_lt _ (by decide)
  rw [e, zn_eq (by omega) (by omega), Nat.testBit_eq_decide_div_mod_eq]
  simp
theorem zn_bit1 {n k : Nat} (hn : n < 2147483648) (h : k < 32) : (nI n >>> (nI k &&& 31)) &&& nI 1 = nI 1 ↔ n.testBit k = true := by
  rw [zn_bit hn h]
  have l : n / 2 ^ k % 2 < 2 := Nat.mod_lt _ (by decide)
  rw [zn_eq (by omega) (by omega), Nat.testBit_eq_decide_div_mod_eq]
  simp
theorem zn_neg1 {n : Nat} (h : n < 2147483648) : ¬ nI n = (-1 : Int32) := by
  intro e
  have := congrArg Int32.toInt e
  rw [nI_toInt h] at this
  have e1 : (-1 : Int32).toInt = -1 := by decide
  omega
theorem z_ixn {k n : Nat} (h : k < n) : z_ix (nI k) n k := ⟨rfl, h⟩
theorem z_ixp {c k n : Nat} (h : c * 4 + k < n) : z_ix ((nI c * nI 4) + nI k) n (c * 4 + k) := ⟨by rw [pk_mul, nI_add], h⟩
theorem zn_pred {n : Nat} (h : 0 < n) : nI n - nI 1 = nI (n - 1) := pk_sub h
/-- an answer, the state unchanged -/
def z_is (x : Int32) (σ : zS) : Int32 → zS → Prop := fun r u => r = x ∧ u = σ
def z_tf (p : Bool) : Int32 := if p then nI 1 else nI 0
theorem z_tf01 (p : Bool) : z_tf p = 0 ∨ z_tf p = 1 := by cases p <;> simp [z_tf] <;> decide
theorem z_tf_eq0 {p : Bool} : z_tf p = 0 ↔ p = false := by cases p <;> simp [z_tf] <;> decide
/-- what stays: all objects but those of F -/
def z_fr (F : Nat → Prop) (σ u : zS) : Prop := ∀ q, ¬ F q → u.1 q = σ.1 q ∧ u.2 q = σ.2 q
theorem z_fr.rf {F : Nat → Prop} {σ : zS} : z_fr F σ σ := fun _ _ => ⟨rfl, rfl⟩
theorem z_fr.tr {F : Nat → Prop} {σ u w : zS} (h1 : z_fr F σ u) (h2 : z_fr F u w) : z_fr F σ w := fun q hq => ⟨(h2 q hq).1.trans (h1 q hq).1, (h2 q hq).2.trans (h1 q hq).2⟩
theorem z_fr.mono {F G : Nat → Prop} {σ u : zS} (h : z_fr F σ u) (hg : ∀ q, F q → G q) : z_fr G σ u := fun q hq => h q (fun hf => hq (hg q hf))
theorem z_fr.pI {F : Nat → Prop} {σ u : zS} {o k : Nat} {x : Int32} (h : z_fr F σ u) (hF : F o) : z_fr F σ (z_pI u o k x) := by
  intro q hq
  have hne : ¬ q = o := fun e => hq (e ▸ hF)
  refine ⟨?_, (h q hq).2⟩
  rw [← (h q hq).1]
  funext j
  simp [z_pI, z_up, hne]
theorem z_fr.pA {F : Nat → Prop} {σ u : zS} {o : Nat} {f : Nat → Int32} (h : z_fr F σ u) (hF : F o) : z_fr F σ (z_pA u o f) := by
  intro q hq
  have hne : ¬ q = o := fun e => hq (e ▸ hF)
  refine ⟨?_, (h q hq).2⟩
  rw [← (h q hq).1]
  simp [z_pA, hne]
theorem z_pI_at (σ : zS) (o k : Nat) (v : Int32) : (z_pI σ o k v).1 o k = v := by simp [z_pI, z_up]
theorem z_pI_ne {σ : zS} {o k q : Nat} {v : Int32} (h : q ≠ o) : (z_pI σ o k v).1 q = σ.1 q := by
  funext j
  simp [z_pI, z_up, h]
theorem z_pI_ne2 {σ : zS} {o k j : Nat} {v : Int32} (h : j ≠ k) : (z_pI σ o k v).1 o j = σ.1 o j := by simp [z_pI, z_up, h]
theorem z_pI_1 (σ : zS) (o k q j : Nat) (v : Int32) : (z_pI σ o k v).1 q j = if q = o ∧ j = k then v else σ.1 q j := by
  by_cases h : q = o
  · by_cases h2 : j = k <;> simp [z_pI, z_up, h, h2]
  · simp [z_pI, z_up, h]
theorem z_pI_2 (σ : zS) (o k : Nat) (v : Int32) : (z_pI σ o k v).2 = σ.2 := rfl
theorem z_pA_1 (σ : zS) (o q : Nat) (f : Nat → Int32) : (z_pA σ o f).1 q = if q = o then f else σ.1 q := rfl
theorem z_pA_2 (σ : zS) (o : Nat) (f : Nat → Int32) : (z_pA σ o f).2 = σ.2 := rfl
/-! the abstract city: what stays (books, columns, readers, thick, weight, late), what changes (where, holder, due, fines, the columns' books, the day) -/
abbrev aS : Type := Nat × Nat × Nat × (Nat → Nat) × (Nat → Nat) × (Nat → Nat)
abbrev aV : Type := (Nat → Nat) × (Nat → Nat) × (Nat → Nat) × (Nat → Nat) × (Nat → List Nat) × Nat
abbrev s_n (s : aS) : Nat := s.1
abbrev s_c (s : aS) : Nat := s.2.1
abbrev s_r (s : aS) : Nat := s.2.2.1
abbrev s_t (s : aS) : Nat → Nat := s.2.2.2.1
abbrev s_w (s : aS) : Nat → Nat := s.2.2.2.2.1
abbrev s_l (s : aS) : Nat → Nat := s.2.2.2.2.2
abbrev v_w (v : aV) : Nat → Nat := v.1
abbrev v_h (v : aV) : Nat → Nat := v.2.1
abbrev v_d (v : aV) : Nat → Nat := v.2.2.1
abbrev v_f (v : aV) : Nat → Nat := v.2.2.2.1
abbrev v_p (v : aV) : Nat → List Nat := v.2.2.2.2.1
abbrev v_y (v : aV) : Nat := v.2.2.2.2.2
def aI (s : aS) (v : aV) : Prop :=
  (s_n s ≤ 12 ∧ 1 ≤ s_c s ∧ s_c s ≤ 6 ∧ s_r s ≤ 4) ∧
  (∀ b, v_w v b ≤ 3) ∧ (∀ b, s_n s ≤ b → v_w v b = 0) ∧
  (∀ c, c < s_c s → (v_p v c).Nodup ∧ (v_p v c).length ≤ 4 ∧ ∀ b, b ∈ v_p v c ↔ (b < s_n s ∧ v_w v b = 1 ∧ v_h v b = c)) ∧
  (∀ b, b < s_n s → v_w v b = 1 → v_h v b < s_c s) ∧
  (∀ b, b < s_n s → v_w v b = 2 → v_h v b < s_r s) ∧
  (∀ r, s_r s ≤ r → v_f v r = 0) ∧
  (∀ b, b < s_n s → 1 ≤ s_t s b ∧ s_t s b ≤ 9 ∧ s_w s b ≤ 9) ∧ (∀ r, r < s_r s → s_l s r ≤ 9)
/-- the class's rows of what changes -/
def cV (s : aS) (v : aV) (fW fH fD fM fP fF : Nat → Int32) (d : Int32) : Prop :=
  (∀ b, b < 12 → fW b = nI (v_w v b)) ∧
  (∀ b, b < s_n s → fH b = if v_w v b = 1 ∨ v_w v b = 2 then nI (v_h v b) else -1) ∧
  (∀ b, b < s_n s → fD b = if v_w v b = 2 then nI (v_d v b) else -1) ∧
  (∀ c, c < s_c s → fM c = nI (v_p v c).length) ∧
  (∀ c, c < s_c s → ∀ k, k < (v_p v c).length → fP (c * 4 + k) = nI ((v_p v c).getD k 0)) ∧
  (∀ r, r < 4 → fF r = nI (v_f v r)) ∧ d = nI (v_y v)
def cS (s : aS) (σ : zS) (o : Nat) : Prop :=
  σ.1 o 0 = nI (s_n s) ∧ σ.1 o 6 = nI (s_c s) ∧ σ.1 o 9 = nI (s_r s) ∧
  (∀ b, b < s_n s → σ.1 (o + 1) b = nI (s_t s b)) ∧ (∀ b, b < s_n s → σ.1 (o + 2) b = nI (s_w s b)) ∧ (∀ r, r < s_r s → σ.1 (o + 8) r = nI (s_l s r))
/-- the city at o is s, v -/
def cR (s : aS) (v : aV) (σ : zS) (o : Nat) : Prop := aI s v ∧ cS s σ o ∧ cV s v (σ.1 (o + 3)) (σ.1 (o + 4)) (σ.1 (o + 5)) (σ.1 (o + 6)) (σ.1 (o + 7)) (σ.1 (o + 9)) (σ.1 o 12)
section
variable {s : aS} {v : aV} {σ : zS} {o : Nat}
theorem cR.n (h : cR s v σ o) : s_n s ≤ 12 := h.1.1.1
theorem cR.c1 (h : cR s v σ o) : 1 ≤ s_c s := h.1.1.2.1
theorem cR.c6 (h : cR s v σ o) : s_c s ≤ 6 := h.1.1.2.2.1
theorem cR.r4 (h : cR s v σ o) : s_r s ≤ 4 := h.1.1.2.2.2
theorem cR.w3 (h : cR s v σ o) (b : Nat) : v_w v b ≤ 3 := h.1.2.1 b
theorem cR.col (h : cR s v σ o) {c : Nat} (hc : c < s_c s) : (v_p v c).Nodup ∧ (v_p v c).length ≤ 4 ∧ ∀ b, b ∈ v_p v c ↔ (b < s_n s ∧ v_w v b = 1 ∧ v_h v b = c) := h.1.2.2.2.1 c hc
theorem cR.fn (h : cR s v σ o) : σ.1 o 0 = nI (s_n s) := h.2.1.1
theorem cR.fc (h : cR s v σ o) : σ.1 o 6 = nI (s_c s) := h.2.1.2.1
theorem cR.fr (h : cR s v σ o) : σ.1 o 9 = nI (s_r s) := h.2.1.2.2.1
theorem cR.ft (h : cR s v σ o) {b : Nat} (hb : b < s_n s) : σ.1 (o + 1) b = nI (s_t s b) := h.2.1.2.2.2.1 b hb
theorem cR.fw (h : cR s v σ o) {b : Nat} (hb : b < s_n s) : σ.1 (o + 2) b = nI (s_w s b) := h.2.1.2.2.2.2.1 b hb
theorem cR.fl (h : cR s v σ o) {r : Nat} (hr : r < s_r s) : σ.1 (o + 8) r = nI (s_l s r) := h.2.1.2.2.2.2.2 r hr
theorem cR.fW (h : cR s v σ o) {b : Nat} (hb : b < 12) : σ.1 (o + 3) b = nI (v_w v b) := h.2.2.1 b hb
theorem cR.fH (h : cR s v σ o) {b : Nat} (hb : b < s_n s) : σ.1 (o + 4) b = if v_w v b = 1 ∨ v_w v b = 2 then nI (v_h v b) else -1 := h.2.2.2.1 b hb
theorem cR.fD (h : cR s v σ o) {b : Nat} (hb : b < s_n s) : σ.1 (o + 5) b = if v_w v b = 2 then nI (v_d v b) else -1 := h.2.2.2.2.1 b hb
theorem cR.fM (h : cR s v σ o) {c : Nat} (hc : c < s_c s) : σ.1 (o + 6) c = nI (v_p v c).length := h.2.2.2.2.2.1 c hc
theorem cR.fP (h : cR s v σ o) {c k : Nat} (hc : c < s_c s) (hk : k < (v_p v c).length) : σ.1 (o + 7) (c * 4 + k) = nI ((v_p v c).getD k 0) := h.2.2.2.2.2.2.1 c hc k hk
theorem cR.fF (h : cR s v σ o) {r : Nat} (hr : r < 4) : σ.1 (o + 9) r = nI (v_f v r) := h.2.2.2.2.2.2.2.1 r hr
theorem cR.fy (h : cR s v σ o) : σ.1 o 12 = nI (v_y v) := h.2.2.2.2.2.2.2.2
theorem cR.mem (h : cR s v σ o) {c k : Nat} (hc : c < s_c s) (hk : k < (v_p v c).length) : (v_p v c).getD k 0 < s_n s := by
  have hm : (v_p v c).getD k 0 ∈ v_p v c := by
    rw [List.getD_eq_getElem?_getD, List.getElem?_eq_getElem hk]
    exact List.getElem_mem hk
  exact (((h.col hc).2.2 _).mp hm).1
theorem cR.keep {u : zS} (h : cR s v σ o) (hk : ∀ j, j ≤ 9 → u.1 (o + j) = σ.1 (o + j)) : cR s v u o := by
  have e0 : u.1 o = σ.1 o := hk 0 (by omega)
  refine ⟨h.1, ?_, ?_⟩
  · unfold cS
    rw [e0, hk 1 (by omega), hk 2 (by omega), hk 8 (by omega)]
    exact h.2.1
  · rw [e0, hk 3 (by omega), hk 4 (by omega), hk 5 (by omega), hk 6 (by omega), hk 7 (by omega), hk 9 (by omega)]
    exact h.2.2
end
