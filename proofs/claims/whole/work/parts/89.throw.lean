/-! an exception of the JDK's is made and thrown: what the tables and the statics must say, and the walk -/
def yN : String := "java/util/NoSuchElementException"
def yNr : String := "java/lang/RuntimeException"
def yNe : String := "java/lang/Exception"
/-- the words on the tables -/
def yX_ws : List Cond := Bundle.throwableAtoms ++ Bundle.throwableSAtoms ++ Bundle.passSAtoms yN yNr 13 prog_21_method_4_code ++ Bundle.passSAtoms yNr yNe 7 prog_16_method_2_code ++ Bundle.passSAtoms yNe Bundle.tN 7 prog_12_method_2_code ++
  [.methodLink zr_Walls 144 (Bundle.initS yN), .classLink zr_Walls 140 yN, .initialized yN, .instantiable yN 6, .castable yN yN, .selects yN Bundle.tFill0 Bundle.tFill0, .selects yN Bundle.tFill Bundle.tFill,
   .lays yN Bundle.tN "cause" "Ljava/lang/Throwable;", .lays yN Bundle.tN "stackTrace" Bundle.steD, .lays yN Bundle.tN "suppressedExceptions" Bundle.listD, .lays yN Bundle.tN "detailMessage" "Ljava/lang/String;",
   .fieldLink Bundle.tN 198 Bundle.tN "backtrace" "Ljava/lang/Object;", .lays Bundle.tN Bundle.tN "backtrace" "Ljava/lang/Object;", .lays yN Bundle.tN "backtrace" "Ljava/lang/Object;"]
def yX_str : List (Nat × String) := [(142, "no such book"), (169, "nothing such of a book"), (174, "no such column"), (192, "nothing such of a column"), (197, "no such reader"), (208, "nothing such of a reader"), (378, "no such number of the row")]
def yX_f : List (String × String) := [("UNASSIGNED_STACK", Bundle.steD), ("SUPPRESSED_SENTINEL", Bundle.listD)]
/-- what a throw needs, at a state U whose cells outside A stay -/
def yX (A : Nat → Prop) (U : State) : Prop := (∀ w ∈ yX_ws, w.onTables = true → w.before #[] U = true) ∧ (∀ q ∈ yX_str, ∃ a, vk_R zr_Walls q.1 q.2 a U) ∧
  (∃ c k a cell, U.vm.findClass Bundle.tN = some c ∧ U.vm.classes[c]? = some k ∧ k.statics = some a ∧ U.heap[a]? = some cell ∧ ¬ A a) ∧
  ∀ q ∈ yX_f, (Cond.laysStatic Bundle.tN q.1 q.2).before #[] U = true ∧ (Cond.isRef (.static Bundle.tN q.1 q.2)).before #[] U = true
theorem yX_face : ∀ w ∈ yX_ws, w.keepsFace = true := by
  have h : yX_ws.all (fun w => w.keepsFace) = true := by decide +kernel
  exact fun w hw => List.all_eq_true.mp h w hw
theorem y_pair {n d : String} {s U : State} (hv : s.vm = U.vm) {c : ClassId} {k : Class} {a : Nat} {cell : Cell} (hc : U.vm.findClass Bundle.tN = some c) (hk : U.vm.classes[c]? = some k) (ha : k.statics = some a) (h1 : s.heap[a]? = some cell) (h2 : U.heap[a]? = some cell)
    {A1 A2 : Array Value} (hl : (Cond.laysStatic Bundle.tN n d).before A1 s = true) (hr : (Cond.isRef (.static Bundle.tN n d)).before A1 s = true) : (Cond.laysStatic Bundle.tN n d).before A2 U = true ∧ (Cond.isRef (.static Bundle.tN n d)).before A2 U = true := by
  obtain ⟨c', k', i, f, a', cell', e1, e2, e3, e4, e5, e6, e7, e8, e9⟩ := Cond.laysStatic_spec hl
  have e2' : U.fieldFound? Bundle.tN n d = some (c', k', i, f) := by
    have : U.fieldFound? Bundle.tN n d = s.fieldFound? Bundle.tN n d := by simp only [State.fieldFound?, hv]
    rw [this]; exact e2
  rw [hv] at e1
  cases e1.symm.trans hc
  have hk' := (State.fieldFound?_spec e2').1
  cases hk'.symm.trans hk
  cases e4.symm.trans ha
  cases e5.symm.trans h1
  refine ⟨?_, ?_⟩
  · simp [Cond.before, Cond.holds, Cond.value, e1, e2', e3, e4, h2, e6, e7, e8, e9]
  · obtain ⟨u, hu⟩ := Cond.staticRefV e2 e3 e4 e5 e6 hr
    have hok := u.ok
    cases hv2 : u.v <;> rw [hv2] at hu hok <;> first | (simp [Value.isRef] at hok; done) | simp [Cond.before, Cond.holds, Cond.value, Term.eval, State.fieldNamed?, e2', e3, e4, h2, e6, hu]
theorem yX.to {A B : Nat → Prop} {s U : State} (h : yX A s) (hW : s.WarmedH U.vm) (hq : ∀ q, q < s.heap.size → ¬ A q → U.heap[q]? = s.heap[q]?) (hAB : ∀ q, B q → A q) : yX B U := by
  obtain ⟨h1, h2, ⟨c, k, a, cell, g1, g2, g3, g4, g5⟩, h4⟩ := h
  have hal := hW.alike
  obtain ⟨k', hk', he⟩ := hal.2.2 _ _ g2
  have hst : k'.statics = some a := by rw [he]; exact g3
  have hca : U.heap[a]? = some cell := by rw [hq a (Array.getElem?_eq_some_iff.mp g4).1 g5]; exact g4
  refine ⟨fun w hw ht => ?_, fun q hq => ?_, ⟨c, k', a, cell, by rw [hal.findClass]; exact g1, hk', hst, hca, fun hb => g5 (hAB a hb)⟩, fun q hq => ?_⟩
  · exact va_tabs (u := s.setVm U.vm) ht rfl (Cond.before_shiftedFace (State.Shifted.of_warmed hW) w (yX_face w hw) (h1 w hw ht))
  · obtain ⟨x, hx⟩ := h2 q hq
    exact ⟨x, hx.warm hW⟩
  · have h5 := h4 q hq
    exact y_pair (s := s.setVm U.vm) (U := U) rfl (by rw [hal.findClass]; exact g1) hk' hst g4 hca (Cond.before_shiftedFace (State.Shifted.of_warmed hW) _ rfl h5.1) (Cond.before_shiftedFace (State.Shifted.of_warmed hW) _ rfl h5.2)
theorem yX.w {A : Nat → Prop} {s : State} (h : yX A s) {w : Cond} (hw : w ∈ yX_ws) (ht : w.onTables = true) (args : Array Value) : w.before args s = true := va_tabs (u := s) ht rfl (h.1 w hw ht)
theorem yX.thr {A : Nat → Prop} {s : State} (h : yX A s) (args : Array Value) : ∀ w ∈ Bundle.throwableAtoms, w.before args s = true := by
  intro w hw
  have hm : w ∈ yX_ws := by
    unfold yX_ws
    simp only [List.mem_append]
    exact Or.inl (Or.inl (Or.inl (Or.inl (Or.inl hw))))
  have hc : ∀ w ∈ Bundle.throwableAtoms, w.onTables = true ∨ w = .laysStatic Bundle.tN "UNASSIGNED_STACK" Bundle.steD ∨ w = .laysStatic Bundle.tN "SUPPRESSED_SENTINEL" Bundle.listD := by
    simp [Bundle.throwableAtoms, Cond.onTables]
  rcases hc w hw with h1 | rfl | rfl
  · exact h.w hm h1 args
  · exact (h.2.2.2 _ (by simp [yX_f] : ("UNASSIGNED_STACK", Bundle.steD) ∈ yX_f)).1
  · exact (h.2.2.2 _ (by simp [yX_f] : ("SUPPRESSED_SENTINEL", Bundle.listD) ∈ yX_f)).1
theorem yX_tS : ∀ w ∈ Bundle.throwableSAtoms, w ∈ yX_ws ∧ w.onTables = true := by
  simp [yX_ws, Bundle.throwableSAtoms, Cond.onTables]
theorem yX_t1 : ∀ w ∈ Bundle.passSAtoms yN yNr 13 prog_21_method_4_code, w ∈ yX_ws ∧ w.onTables = true := by
  intro w hw
  refine ⟨by unfold yX_ws; simp only [List.mem_append]; exact Or.inl (Or.inl (Or.inl (Or.inr hw))), ?_⟩
  revert w
  simp [Bundle.passSAtoms, Cond.onTables]
theorem yX_t2 : ∀ w ∈ Bundle.passSAtoms yNr yNe 7 prog_16_method_2_code, w ∈ yX_ws ∧ w.onTables = true := by
  intro w hw
  refine ⟨by unfold yX_ws; simp only [List.mem_append]; exact Or.inl (Or.inl (Or.inr hw)), ?_⟩
  revert w
  simp [Bundle.passSAtoms, Cond.onTables]
theorem yX_t3 : ∀ w ∈ Bundle.passSAtoms yNe Bundle.tN 7 prog_12_method_2_code, w ∈ yX_ws ∧ w.onTables = true := by
  intro w hw
  refine ⟨by unfold yX_ws; simp only [List.mem_append]; exact Or.inl (Or.inr hw), ?_⟩
  revert w
  simp [Bundle.passSAtoms, Cond.onTables]
theorem yd_1_0 : decode prog_21_method_4_code 0 = .ok (.aload_n 0, 1) := by decide +kernel
theorem yd_1_1 : decode prog_21_method_4_code 1 = .ok (.aload_n 1, 1) := by decide +kernel
theorem yd_1_2 : decode prog_21_method_4_code 2 = .ok (.invokespecial 13, 3) := by decide +kernel
theorem yd_1_5 : decode prog_21_method_4_code 5 = .ok (.return_, 1) := by decide +kernel
theorem yd_2_0 : decode prog_16_method_2_code 0 = .ok (.aload_n 0, 1) := by decide +kernel
theorem yd_2_1 : decode prog_16_method_2_code 1 = .ok (.aload_n 1, 1) := by decide +kernel
theorem yd_2_2 : decode prog_16_method_2_code 2 = .ok (.invokespecial 7, 3) := by decide +kernel
theorem yd_2_5 : decode prog_16_method_2_code 5 = .ok (.return_, 1) := by decide +kernel
theorem yd_3_0 : decode prog_12_method_2_code 0 = .ok (.aload_n 0, 1) := by decide +kernel
theorem yd_3_1 : decode prog_12_method_2_code 1 = .ok (.aload_n 1, 1) := by decide +kernel
theorem yd_3_2 : decode prog_12_method_2_code 2 = .ok (.invokespecial 7, 3) := by decide +kernel
theorem yd_3_5 : decode prog_12_method_2_code 5 = .ok (.return_, 1) := by decide +kernel
