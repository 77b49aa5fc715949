/-! a row of rows is made: 'multianewarray' of two dimensions, ints within -/
/-- the row of rows when i of its rows stand -/
def yO (cA : ClassId) (n h i : Nat) : Cell := arrV cA n (fun j => if j < i then Value.ref (h + 1 + j) else .null)
theorem yO_step (cA : ClassId) (n h i : Nat) : (yO cA n h i).setSlot i (.ref (h + 1 + i)) = yO cA n h (i + 1) := by
  unfold yO
  rw [arrV_store]
  congr 1
  funext j
  unfold updV
  by_cases e : j = i
  · subst e
    rw [if_pos rfl, if_pos (by omega)]
  · rw [if_neg e]
    show (if j < i then Value.ref (h + 1 + j) else .null) = _
    by_cases hj : j < i
    · rw [if_pos hj, if_pos (by omega)]
    · rw [if_neg hj, if_neg (by omega)]
section
variable {E : CtlPost} {e : Env} {d : Bool} {acts : List Action} {s : State}
theorem y_wpRow {c cc : ClassId} {k : Class} {m : Int32} (hk : s.vm.classes[c]? = some k) (hkind : k.kind = .array cc .int) (hm : ¬ m < 0) (h1 : ¬ m.toNatClampNeg > e.platform.arrayLengthLimit) (h2 : ¬ m.toNatClampNeg * 4 > e.platform.maxHeapBytes)
    (h3 : s.heap.size < e.platform.maxCells) (h4 : s.slotsUsed + m.toNatClampNeg ≤ e.platform.maxSlots) {Q : Addr → Pre} (hq : ∀ acts', Q s.heap.size d acts' (s.pushCell (arrV c m.toNatClampNeg (fun _ => .int 0)))) : wp (multianewarray.make c [m]) Q E e d acts s := by
  rw [multianewarray.make]
  simp only [wp_bind', Jvm.W.ite, hm, if_false, wp_pure', Jvm.W.theClass, hk, hkind, Option.some.injEq, exists_eq_left']
  refine Jvm.W.newArray_of hk hkind h1 h2 h3 h4 rfl (fun acts' => ?_)
  have := hq acts'
  rw [← arrV_new] at this
  exact this
end
section
variable {p : Program} {l : Launch} {e : Env} {R : Room} {s : State} {m : MethodId} {args : Array Value} {below : List Frame} {meth : Method} {c : Code} {T : State} {locs : List Loc} {cells slots : Nat}
/-- i rows stand behind T -/
def yI (p : Program) (l : Launch) (e : Env) (R : Room) (s : State) (m : MethodId) (args : Array Value) (below : List Frame) (meth : Method) (c : Code) (T : State) (locs : List Loc) (cells slots : Nat) (cA cI : ClassId) (n k i : Nat) (T' : State) : Prop :=
  (∃ L : List Loc, (∀ q ∈ L, q.base = T.heap.size) ∧ Stand p l e R s m args below meth c T' (locs ++ L) (cells + 1 + i) (slots + n + i * k)) ∧ T'.vm = T.vm ∧ T'.slotsUsed = T.slotsUsed + n + i * k ∧ T'.heap.size = T.heap.size + 1 + i ∧ T'.heap[T.heap.size]? = some (yO cA n T.heap.size i) ∧
  (∀ j, j < i → T'.heap[T.heap.size + 1 + j]? = some (arrV cI k (fun _ => .int 0))) ∧ ∀ q, q < T.heap.size → T'.heap[q]? = T.heap[q]?
theorem yI_0 (X : Stand p l e R s m args below meth c T locs cells slots) (cA cI : ClassId) (n k : Nat) : yI p l e R s m args below meth c T locs cells slots cA cI n k 0 (T.pushCell (yO cA n T.heap.size 0)) := by
  have h := X.pushed (yO cA n T.heap.size 0)
  have e1 : (yO cA n T.heap.size 0).slots.size = n := arrV_size _ _ _
  rw [e1] at h
  refine ⟨⟨[], fun q hq => (by cases hq), (by simpa using h)⟩, rfl, (by simp [e1]), (by simp), State.heap_pushCell_size _ _, fun j hj => absurd hj (Nat.not_lt_zero j), fun q hq => State.heap_pushCell_of_lt _ _ hq⟩
theorem yI_s {cA cI : ClassId} {n k i : Nat} {T' : State} (h : yI p l e R s m args below meth c T locs cells slots cA cI n k i T') : yI p l e R s m args below meth c T locs cells slots cA cI n k (i + 1) ((T'.pushCell (arrV cI k (fun _ => .int 0))).setCell T.heap.size (yO cA n T.heap.size (i + 1))) := by
  obtain ⟨⟨L, hL, X⟩, hv, hu, hz, ho, hr, hq⟩ := h
  have hlt : T.heap.size < T'.heap.size := by omega
  have X1 := X.pushed (arrV cI k (fun _ => .int 0))
  rw [arrV_size] at X1
  have hc : (T'.pushCell (arrV cI k (fun _ => .int 0))).heap[T.heap.size]? = some (yO cA n T.heap.size i) := by rw [State.heap_pushCell_of_lt (h := hlt)]; exact ho
  have X2 := X1.stored hc i (.ref (T.heap.size + 1 + i))
  rw [yO_step] at X2
  have e3 : slots + n + (i + 1) * k = slots + n + i * k + k := by rw [Nat.succ_mul]; omega
  refine ⟨⟨L ++ [⟨T.heap.size, i⟩], fun q hq => ?_, ?_⟩, hv, ?_, ?_, State.heap_setCell_self hc, fun j hj => ?_, fun q h => ?_⟩
  · rcases List.mem_append.mp hq with h | h
    · exact hL q h
    · rw [List.mem_singleton.mp h]
  · rw [← List.append_assoc, e3]; exact X2
  · show (T'.pushCell _).slotsUsed = _
    rw [Nat.succ_mul]
    simp [hu, arrV_size]; omega
  · show ((T'.pushCell _).heap.setIfInBounds _ _).size = _
    rw [Array.size_setIfInBounds]
    simp [hz]; omega
  · rw [State.heap_setCell_other (show T.heap.size ≠ T.heap.size + 1 + j by omega)]
    rcases Nat.lt_or_ge j i with g | g
    · rw [State.heap_pushCell_of_lt (h := (by omega : T.heap.size + 1 + j < T'.heap.size))]
      exact hr j g
    · have ej : T.heap.size + 1 + j = T'.heap.size := by omega
      rw [ej]
      exact State.heap_pushCell_size _ _
  · rw [State.heap_setCell_other (show T.heap.size ≠ q by omega), State.heap_pushCell_of_lt (h := (by omega : q < T'.heap.size))]
    exact hq q h
/-- the state when i rows stand -/
def yT (T : State) (cA cI : ClassId) (n k : Nat) : Nat → State
  | 0 => T.pushCell (yO cA n T.heap.size 0)
  | i + 1 => ((yT T cA cI n k i).pushCell (arrV cI k (fun _ => .int 0))).setCell T.heap.size (yO cA n T.heap.size (i + 1))
theorem yT_I (X : Stand p l e R s m args below meth c T locs cells slots) (cA cI : ClassId) (n k : Nat) : ∀ i, yI p l e R s m args below meth c T locs cells slots cA cI n k i (yT T cA cI n k i)
  | 0 => yI_0 X cA cI n k
  | i + 1 => yI_s (yT_I X cA cI n k i)
/-- the loop of the rows, at the machine's own words -/
theorem y_wpRows {E : CtlPost} {d : Bool} {acts : List Action} (X : Stand p l e R s m args below meth c T locs cells slots) {g : JFrame} {cA cI cc : ClassId} {kA kI : Class} {n k : Nat} (hA : T.vm.classes[cA]? = some kA) (hAk : kA.kind = .array cI (.array .int)) (hI : T.vm.classes[cI]? = some kI) (hIk : kI.kind = .array cc .int)
    (hn : n < 1000) (hk : k < 1000) (hcells : cells + (1 + n) ≤ R.cells) (hslots : slots + (n + n * k) ≤ R.slots) {Q : Addr → Pre} (hq : ∀ d' acts', Q T.heap.size d' acts' ((yT T cA cI n k n).setTop g)) : wp (multianewarray.make cA [nI n, nI k]) Q E e d acts (T.setTop g) := by
  have en : (nI n).toNatClampNeg = n := nI_clamp (by omega)
  have ek : (nI k).toNatClampNeg = k := nI_clamp (by omega)
  have h0n : ¬ nI n < 0 := nI_pos (by omega)
  have h0k : ¬ nI k < 0 := nI_pos (by omega)
  have hlim := Launch.admits_arrayLengthLimit X.admits
  have hmax := Launch.admits_maxHeapBytes X.admits
  have c1 : T.heap.size + (1 + n) ≤ e.platform.maxCells := X.cellsAbove hcells
  have c2 : T.slotsUsed + (n + n * k) ≤ e.platform.maxSlots := X.slotsAbove hslots
  have hfind : ([nI k].find? (· < 0)) = none := by simp [h0k]
  have hnn : (yO cA n T.heap.size 0) = { cls := cA, slots := Array.replicate n .null } := by
    unfold yO
    have h := arrV_new cA n .null
    rw [show (fun j => if j < 0 then Value.ref (T.heap.size + 1 + j) else .null) = (fun _ => Value.null) from funext fun j => if_neg (Nat.not_lt_zero j)]
    exact h.symm
  rw [multianewarray.make]
  simp only [wp_bind', Jvm.W.ite, h0n, if_false, wp_pure', Jvm.W.theClass, State.vm_setTop, hA, hAk, Option.some.injEq, exists_eq_left', en]
  refine Jvm.W.newArray_of (k := kA) hA hAk (by rw [hlim]; omega) (by rw [hmax]; show ¬ n * 4 > 536870912; omega) (by show T.heap.size < _; omega) (by show T.slotsUsed + n ≤ _; omega) rfl (fun acts' => ?_)
  simp only [hfind]
  rw [ite_self, wp_bind', Std.Legacy.Range.forIn_eq_forIn_range']
  have hsz : ([:n] : Std.Legacy.Range).size = n := by simp [Std.Legacy.Range.size]
  rw [hsz]
  show wp (forIn (List.range' 0 n 1) PUnit.unit _) _ E e d acts' _
  refine wp_forIn_inv (fun rest s' => ∃ i, i ≤ n ∧ rest = List.range' i (n - i) ∧ s' = (yT T cA cI n k i).setTop g) _ _ ⟨0, Nat.zero_le _, rfl, ?_⟩ ?_ ?_
  · rw [yT, hnn]; rfl
  · rintro x rest s' d' acts2 Q' ⟨i, hi, hl, rfl⟩ hnext
    have hT' := yT_I X cA cI n k i
    have hlt : i < n := by
      rcases Nat.lt_or_ge i n with h | h
      · exact h
      · rw [show n - i = 0 from by omega] at hl; simp at hl
    rw [show n - i = (n - (i + 1)) + 1 from by omega, List.range'_succ] at hl
    obtain ⟨rfl, rfl⟩ := List.cons.inj hl
    generalize eT : yT T cA cI n k x = T' at hT'
    obtain ⟨⟨L, hL, XT⟩, hv, hu, hz, ho, hr, hqq⟩ := id hT'
    have hmul : x * k + k ≤ n * k := by
      have := Nat.mul_le_mul_right k (show x + 1 ≤ n from hlt)
      rw [Nat.succ_mul] at this; exact this
    simp only [wp_bind']
    refine y_wpRow (c := cI) (k := kI) (cc := cc) (by show T'.vm.classes[cI]? = _; rw [hv]; exact hI) hIk h0k (by rw [hlim, ek]; omega) (by rw [hmax, ek]; omega) (by show T'.heap.size < _; omega) (by show T'.slotsUsed + _ ≤ _; rw [ek]; omega) (fun acts3 => ?_)
    rw [ek]
    have hlt0 : T.heap.size < T'.heap.size := by omega
    simp only [wp_bind', Jvm.W.writeLoc, wp_pure']
    refine ⟨yO cA n T.heap.size x, ?_, (by intro h; cases h), (by rw [show (yO cA n T.heap.size x).slots.size = n from arrV_size _ _ _]; exact hlt), ?_, hnext _ _ _ ⟨x + 1, hlt, rfl, ?_⟩⟩
    · show (T'.pushCell _).heap[T.heap.size]? = _
      rw [State.heap_pushCell_of_lt (h := hlt0)]; exact ho
    · show (State.fitsSlot _ cA .none x _) = true
      simp [State.fitsSlot, State.slotType?, hv, hA, hAk, fits]
    · rw [show (T'.setTop g).heap.size = T.heap.size + 1 + x from hz, yO_step, yT, eT]
      rfl
  · rintro s' d' acts2 ⟨i, hi, hl, rfl⟩
    have hin : i = n := by
      rcases Nat.lt_or_ge i n with h | h
      · rw [show n - i = (n - (i + 1)) + 1 from by omega, List.range'_succ] at hl; cases hl
      · omega
    subst hin
    simp only [wp_pure']
    exact hq _ _
end
