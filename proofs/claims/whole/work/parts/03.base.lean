abbrev zS : Type := (Nat → Nat → Int32) × (Nat → Nat → Nat)
abbrev zV : Type := Int32 ⊕ Nat
def z_en (ad : Nat → Nat) : zV → Value
  | .inl x => .int x
  | .inr o => .ref (ad o)
/-- the kinds of the objects: class or array kind, number of fields or length -/
def z_kl : List (Nat × Nat) := [(7, 16), (10, 80), (11, 12), (13, 2), (11, 71), (11, 71), (12, 2), (11, 6), (0, 5), (11, 20), (11, 60), (3, 3), (13, 13), (11, 71), (11, 71), (11, 71), (11, 71), (11, 71), (11, 71), (11, 71), (11, 71), (11, 71), (11, 71), (11, 71), (11, 71), (11, 71), (4, 6), (11, 12), (11, 6), (11, 49), (2, 1), (5, 2), (11, 4), (1, 16), (11, 12), (11, 12), (11, 12), (11, 12), (11, 12), (11, 6), (11, 24), (11, 4), (11, 4), (1, 16), (11, 12), (11, 12), (11, 12), (11, 12), (11, 12), (11, 6), (11, 24), (11, 4), (11, 4), (6, 9), (11, 40), (11, 40), (11, 40), (12, 5), (6, 9), (11, 40), (11, 40), (11, 40), (12, 5), (8, 48), (11, 53), (11, 12), (11, 12), (11, 4), (9, 80), (11, 20), (11, 24), (11, 12), (11, 12), (9, 40), (11, 6), (11, 4), (11, 636), (11, 53), (11, 53), (11, 320), (11, 24), (11, 24), (11, 4), (11, 6), (12, 37), (11, 106), (12, 2), (11, 2), (9, 40)]
def zK : Nat := 89
def z_kd (o : Nat) : Nat × Nat := z_kl.getD o (14, 0)
/-- kinds of fields: 0 number, 1 a reference that stays, 2 one that changes -/
def z_fkl : List (List Nat) := [[1, 1, 0, 0, 0], [0, 1, 1, 1, 1, 1, 0, 1, 1, 0, 1, 1, 0, 0, 0, 0], [0], [1, 0, 0], [1, 1, 0, 0, 0, 1], [1, 0], [1, 0, 1, 1, 0, 1, 0, 0, 0], [1, 0, 1, 0, 1, 1, 2, 2, 1, 1, 1, 1, 1, 1, 1, 1], [1, 0, 1, 1, 0, 0, 1, 1, 0, 1, 0, 0, 2, 0, 0, 0, 0, 1, 1, 1, 2, 1, 0, 0, 1, 1, 1, 0, 1, 1, 0, 0, 1, 1, 1, 0, 0, 1, 0, 0, 1, 0, 1, 0, 0, 1, 1, 1]]
def z_fk (c k : Nat) : Nat := (z_fkl.getD c []).getD k 0
def z_ofl : List (List Nat) := [[1, 2, 0, 0, 0], [0, 1, 2, 3, 4, 5, 0, 6, 7, 0, 8, 9, 0, 0, 0, 0], [0], [1, 0, 0], [1, 2, 0, 0, 0, 3], [1, 0], [1, 0, 2, 3, 0, 4, 0, 0, 0], [1, 0, 2, 0, 33, 43, 0, 0, 8, 11, 3, 6, 7, 26, 30, 31], [1, 0, 2, 3, 0, 0, 4, 5, 0, 6, 0, 0, 0, 0, 0, 0, 0, 7, 8, 9, 0, 10, 0, 0, 11, 12, 13, 0, 14, 15, 0, 0, 16, 17, 18, 0, 0, 19, 0, 0, 20, 0, 21, 0, 0, 22, 23, 24]]
def z_of (c k : Nat) : Nat := (z_ofl.getD c []).getD k 0
def z_rv (ad : Nat → Nat) (r : Nat) : Value := if r < zK then .ref (ad r) else .null
def z_fv (ad : Nat → Nat) (σ : zS) (o c k : Nat) : Value := if z_fk c k = 0 then .int (σ.1 o k) else if z_fk c k = 1 then .ref (ad (o + z_of c k)) else z_rv ad (σ.2 o k)
def z_cell (cy : Nat → ClassId) (ad : Nat → Nat) (σ : zS) (o : Nat) : va_E :=
  if (z_kd o).1 < 9 then .inr ((z_kd o).1, (List.range (z_kd o).2).map (fun k => z_fv ad σ o (z_kd o).1 k))
  else if (z_kd o).1 = 13 then .inl (cy 13, (z_kd o).2, .inr (.inr (.inr (.inr (fun j => some (ad (o + 1 + j)))))))
  else .inl (cy (z_kd o).1, (z_kd o).2, .inl (σ.1 o))
def z_ws (cy : Nat → ClassId) (ad : Nat → Nat) (σ : zS) : va_W := (List.range zK).map (fun o => (ad o, z_cell cy ad σ o))
def z_ty (cy : Nat → ClassId) : List (ClassId × FieldType) := [(cy 9, .byte), (cy 10, .char), (cy 11, .int), (cy 12, .boolean), (cy 13, .array .int)]
theorem z_lt {o c n : Nat} (h : z_kd o = (c, n)) (hc : c < 14) : o < zK := by
  rcases Nat.lt_or_ge o zK with q | q
  · exact q
  · exfalso
    have e : z_kd o = (14, 0) := by
      unfold z_kd
      rw [List.getD_eq_getElem?_getD, List.getElem?_eq_none (show z_kl.length ≤ o from q)]
      rfl
    rw [e] at h
    have h1 := congrArg Prod.fst h
    simp only at h1
    omega
theorem z_at {cy : Nat → ClassId} {ad : Nat → Nat} {σ : zS} {o : Nat} (h : o < zK) : (z_ws cy ad σ)[o]? = some (ad o, z_cell cy ad σ o) := by
  simp [z_ws, h]
theorem z_ob {cy : Nat → ClassId} {ad : Nat → Nat} {σ : zS} {o c n : Nat} (h : z_kd o = (c, n)) (hc : c < 9) : z_cell cy ad σ o = .inr (c, (List.range n).map (fun k => z_fv ad σ o c k)) := by
  unfold z_cell
  rw [h]
  simp [hc]
theorem z_ar {cy : Nat → ClassId} {ad : Nat → Nat} {σ : zS} {o c n : Nat} (h : z_kd o = (c, n)) (h1 : 9 ≤ c) (h2 : c < 13) : z_cell cy ad σ o = .inl (cy c, n, .inl (σ.1 o)) := by
  unfold z_cell
  rw [h]
  have e1 : ¬ c < 9 := by omega
  have e2 : ¬ c = 13 := by omega
  simp [e1, e2]
theorem z_aa {cy : Nat → ClassId} {ad : Nat → Nat} {σ : zS} {o n : Nat} (h : z_kd o = (13, n)) : z_cell cy ad σ o = .inl (cy 13, n, .inr (.inr (.inr (.inr (fun j => some (ad (o + 1 + j))))))) := by
  unfold z_cell
  rw [h]
  simp
def z_up (f : Nat → Nat → Int32) (o k : Nat) (v : Int32) : Nat → Nat → Int32 := fun a b => if a = o then (if b = k then v else f a b) else f a b
/-- a number is written -/
def z_pI (σ : zS) (o k : Nat) (v : Int32) : zS := (z_up σ.1 o k v, σ.2)
/-- a reference is written -/
def z_pR (σ : zS) (o k r : Nat) : zS := (σ.1, fun a b => if a = o ∧ b = k then r else σ.2 a b)
/-- a whole row is written -/
def z_pA (σ : zS) (o : Nat) (f : Nat → Int32) : zS := (fun a => if a = o then f else σ.1 a, σ.2)
theorem z_set {cy : Nat → ClassId} {ad : Nat → Nat} {σ σ1 : zS} {o : Nat} {e : va_E} (h : o < zK) (hc : z_cell cy ad σ1 o = e) (he : ∀ a, a ≠ o → z_cell cy ad σ1 a = z_cell cy ad σ a) : (z_ws cy ad σ).set o (ad o, e) = z_ws cy ad σ1 := by
  apply List.ext_getElem?
  intro i
  rw [List.getElem?_set]
  by_cases hi : o = i
  · subst hi
    rw [if_pos rfl, if_pos (by simpa [z_ws] using h), z_at h, hc]
  · rw [if_neg hi]
    rcases Nat.lt_or_ge i zK with q | q
    · rw [z_at q, z_at q, he i (fun e => hi e.symm)]
    · rw [List.getElem?_eq_none (by simpa [z_ws] using q), List.getElem?_eq_none (by simpa [z_ws] using q)]
theorem z_cell_pI {cy : Nat → ClassId} {ad : Nat → Nat} {σ : zS} {o k a : Nat} {v : Int32} (h : a ≠ o) : z_cell cy ad (z_pI σ o k v) a = z_cell cy ad σ a := by
  have e : ∀ j, z_up σ.1 o k v a j = σ.1 a j := fun j => by simp [z_up, h]
  have e2 : z_up σ.1 o k v a = σ.1 a := funext e
  simp only [z_cell, z_fv, z_pI, e2]
theorem z_cell_pR {cy : Nat → ClassId} {ad : Nat → Nat} {σ : zS} {o k a : Nat} {r : Nat} (h : a ≠ o) : z_cell cy ad (z_pR σ o k r) a = z_cell cy ad σ a := by
  simp only [z_cell, z_fv, z_pR, h, false_and, if_false]
theorem z_cell_pA {cy : Nat → ClassId} {ad : Nat → Nat} {σ : zS} {o a : Nat} {f : Nat → Int32} (h : a ≠ o) : z_cell cy ad (z_pA σ o f) a = z_cell cy ad σ a := by
  simp only [z_cell, z_fv, z_pA, h, if_false]
theorem z_set_A {cy : Nat → ClassId} {ad : Nat → Nat} {σ : zS} {o c n : Nat} {f : Nat → Int32} (h : z_kd o = (c, n)) (h1 : 9 ≤ c) (h2 : c < 13) : (z_ws cy ad σ).set o (ad o, .inl (cy c, n, .inl f)) = z_ws cy ad (z_pA σ o f) :=
  z_set (z_lt h (by omega)) (by rw [z_ar h h1 h2]; simp [z_pA]) (fun a ha => z_cell_pA ha)
theorem z_pA_pI (σ : zS) (o k : Nat) (v : Int32) : z_pA σ o (upd (σ.1 o) k v) = z_pI σ o k v := by
  unfold z_pA z_pI
  congr 1
  funext a b
  by_cases h : a = o
  · subst h
    simp [z_up, upd]
  · simp [z_up, h]
theorem z_set_aI {cy : Nat → ClassId} {ad : Nat → Nat} {σ : zS} {o c n k : Nat} {v : Int32} (h : z_kd o = (c, n)) (h1 : 9 ≤ c) (h2 : c < 13) : (z_ws cy ad σ).set o (ad o, .inl (cy c, n, .inl (upd (σ.1 o) k v))) = z_ws cy ad (z_pI σ o k v) := by
  rw [z_set_A h h1 h2, z_pA_pI]
theorem z_set_fI {cy : Nat → ClassId} {ad : Nat → Nat} {σ : zS} {o c n k : Nat} {v : Int32} (h : z_kd o = (c, n)) (hc : c < 9) (hf : z_fk c k = 0) : (z_ws cy ad σ).set o (ad o, .inr (c, ((List.range n).map (fun k => z_fv ad σ o c k)).set k (.int v))) = z_ws cy ad (z_pI σ o k v) := by
  refine z_set (z_lt h (by omega)) ?_ (fun a ha => z_cell_pI ha)
  rw [z_ob h hc]
  congr 2
  apply List.ext_getElem?
  intro i
  rw [List.getElem?_set]
  by_cases hi : k = i
  · subst hi
    by_cases hn : k < n
    · simp [hn, z_fv, hf, z_pI, z_up]
    · simp [hn]
  · rw [if_neg hi]
    have hi2 : ¬ i = k := fun e => hi e.symm
    by_cases hn : i < n
    · simp [hn, z_fv, z_pI, z_up, hi2]
    · simp [hn]
theorem z_set_fR {cy : Nat → ClassId} {ad : Nat → Nat} {σ : zS} {o c n k r : Nat} (h : z_kd o = (c, n)) (hc : c < 9) (hf : z_fk c k = 2) (hr : r < zK) : (z_ws cy ad σ).set o (ad o, .inr (c, ((List.range n).map (fun k => z_fv ad σ o c k)).set k (.ref (ad r)))) = z_ws cy ad (z_pR σ o k r) := by
  refine z_set (z_lt h (by omega)) ?_ (fun a ha => z_cell_pR ha)
  rw [z_ob h hc]
  congr 2
  apply List.ext_getElem?
  intro i
  rw [List.getElem?_set]
  by_cases hi : k = i
  · subst hi
    by_cases hn : k < n
    · simp [hn, z_fv, hf, z_pR, z_rv, hr]
    · simp [hn]
  · rw [if_neg hi]
    have hi2 : ¬ i = k := fun e => hi e.symm
    by_cases hn : i < n
    · simp [hn, z_fv, z_pR, hi2]
    · simp [hn]
/-- the locals -/
def z_lk (ad : Nat → Nat) (ls : Array Slot) (nL : Nat) (L : List (Option zV)) : Prop := ls.size = nL ∧ lv_wf ls ∧ L.length = nL ∧ ∀ (i : Nat) (v : zV), L[i]? = some (some v) → ls[i]? = some (.val (z_en ad v))
def z_lv (ad : Nat → Nat) (L : List (Option zV)) : List (Nat × Value) := (List.range L.length).filterMap (fun i => (L.getD i none).map (fun v => (i, z_en ad v)))
theorem z_lv_mem {ad : Nat → Nat} {L : List (Option zV)} {q : Nat × Value} : q ∈ z_lv ad L ↔ ∃ v, L[q.1]? = some (some v) ∧ q.2 = z_en ad v := by
  unfold z_lv
  rw [List.mem_filterMap]
  constructor
  · rintro ⟨i, hi, h⟩
    rw [List.getD_eq_getElem?_getD] at h
    have hi := List.mem_range.mp hi
    rw [List.getElem?_eq_getElem hi] at h
    cases hv : L[i] with
    | none => simp [hv] at h
    | some v =>
      simp only [hv, Option.getD_some, Option.map_some, Option.some.injEq] at h
      subst h
      exact ⟨v, by rw [List.getElem?_eq_getElem hi, hv], rfl⟩
  · rintro ⟨v, h1, h2⟩
    refine ⟨q.1, List.mem_range.mpr (List.getElem?_eq_some_iff.mp h1).1, ?_⟩
    rw [List.getD_eq_getElem?_getD, h1]
    simp [← h2]
theorem z_lk.has {ad : Nat → Nat} {ls : Array Slot} {nL : Nat} {L : List (Option zV)} (h : z_lk ad ls nL L) : lv_has ls nL (z_lv ad L) := by
  refine ⟨h.1, h.2.1, fun q hq => ?_⟩
  obtain ⟨v, h1, h2⟩ := z_lv_mem.mp hq
  rw [h2]
  exact h.2.2.2 _ _ h1
theorem z_en_cat (ad : Nat → Nat) (v : zV) : (z_en ad v).category = 1 := by cases v <;> rfl
theorem z_lk.put {ad : Nat → Nat} {ls : Array Slot} {nL : Nat} {L : List (Option zV)} {i : Nat} {w : zV} (hL : L.length = nL) (h : lv_has ls nL ((i, z_en ad w) :: (z_lv ad L).filter (fun q => !(q.1 == i) && !(q.1 + 1 == i && q.2.category == 2)))) : z_lk ad ls nL (L.set i (some w)) := by
  refine ⟨h.1, h.2.1, by simpa using hL, fun j v hj => ?_⟩
  rw [List.getElem?_set] at hj
  by_cases hi : i = j
  · subst hi
    by_cases hl : i < L.length
    · simp [hl] at hj
      subst hj
      exact h.2.2 (i, z_en ad w) List.mem_cons_self
    · simp [hl] at hj
  · rw [if_neg hi] at hj
    refine h.2.2 (j, z_en ad v) (List.mem_cons_of_mem _ (List.mem_filter.mpr ⟨z_lv_mem.mpr ⟨v, hj, rfl⟩, ?_⟩))
    have hi2 : ¬ j = i := fun e => hi e.symm
    simp [hi2, z_en_cat]
theorem z_args_mem {ad : Nat → Nat} : ∀ (av : List zV) (k i : Nat) (v : zV), av[i]? = some v → (k + i, z_en ad v) ∈ lv_args k (av.map (z_en ad))
  | [], _, _, _, h => by simp at h
  | w :: t, k, 0, v, h => by
    simp at h
    subst h
    simp [lv_args]
  | w :: t, k, i + 1, v, h => by
    have h1 : t[i]? = some v := by simpa using h
    have h2 := z_args_mem (ad := ad) t (k + 1) i v h1
    have e : k + (i + 1) = k + 1 + i := by omega
    rw [e]
    simp only [List.map_cons, lv_args, z_en_cat]
    exact List.mem_cons_of_mem _ h2
theorem z_sl_len {ad : Nat → Nat} : ∀ (av : List zV), (lg_sl (av.map (z_en ad))).length = av.length
  | [] => rfl
  | w :: t => by
    have h := z_sl_len (ad := ad) t
    simp only [lg_sl] at h
    simp [lg_sl, z_en_cat, h]
theorem z_lk.entry {ad : Nat → Nat} {av : List zV} {n : Nat} (h : av.length ≤ n) : z_lk ad ((lg_sl (av.map (z_en ad)) ++ List.replicate (n - (lg_sl (av.map (z_en ad))).length) Slot.unset).toArray) n (av.map some ++ List.replicate (n - av.length) none) := by
  have h0 := lv_entry (av.map (z_en ad)) (n := n) (by rw [z_sl_len]; exact h)
  refine ⟨h0.1, h0.2.1, by simp; omega, fun i v hi => ?_⟩
  have hiv : av[i]? = some v := by
    rcases Nat.lt_or_ge i av.length with q | q
    · rw [List.getElem?_append_left (by simpa using q), List.getElem?_map, List.getElem?_eq_getElem q] at hi
      simp at hi
      rw [List.getElem?_eq_getElem q, hi]
    · rw [List.getElem?_append_right (by simpa using q), List.getElem?_replicate] at hi
      split at hi <;> simp at hi
  have h1 := z_args_mem (ad := ad) av 0 i v hiv
  have h2 := h0.2.2 _ h1
  simpa using h2
