theorem yX_tbl : ∀ w ∈ yX_ws, w ∈ lw_tbl := by decide +kernel
theorem l_yX {b : Nat} {s : State} (ht : ∀ w ∈ lw_tbl, w.before #[Value.ref b] s = true) (hg : (Jvm.Cond.and given_1 narrow_1).before #[Value.ref b] s = true) {cw : ClassId} (hc : s.vm.findClass zr_Walls = some cw) : yX (fun q => s.heap.size ≤ q) s := by
  have hs := flat_of_before _ hg
  have g1 : (Cond.isRef (.static Bundle.tN "UNASSIGNED_STACK" Bundle.steD)).before #[Value.ref b] s = true := hs _ (by decide +kernel)
  have g2 : (Cond.isRef (.static Bundle.tN "SUPPRESSED_SENTINEL" Bundle.listD)).before #[Value.ref b] s = true := hs _ (by decide +kernel)
  have e1 := ht _ (l_in l_s1)
  have e2 := ht _ (l_in l_s2)
  obtain ⟨c', k', i, f, a', cell', q1, q2, q3, q4, q5, q6, q7, q8, q9⟩ := Cond.laysStatic_spec e1
  have hk := (State.fieldFound?_spec q2).1
  refine ⟨fun w hw hon => va_tabs (u := s) hon rfl (ht w (yX_tbl w hw)), fun q hq => ?_, ⟨c', k', a', cell', q1, hk, q4, q5, Nat.not_le.mpr (Array.getElem?_eq_some_iff.mp q5).1⟩, fun q hq => ?_⟩
  · simp only [yX_str, List.mem_cons, List.not_mem_nil, or_false] at hq
    rcases hq with rfl | rfl | rfl | rfl | rfl | rfl | rfl
    · exact l_str hc (ht _ (l_in l_t142))
    · exact l_str hc (ht _ (l_in l_t169))
    · exact l_str hc (ht _ (l_in l_t174))
    · exact l_str hc (ht _ (l_in l_t192))
    · exact l_str hc (ht _ (l_in l_t197))
    · exact l_str hc (ht _ (l_in l_t208))
    · exact l_str hc (ht _ (l_in l_t378))
  · simp only [yX_f, List.mem_cons, List.not_mem_nil, or_false] at hq
    rcases hq with rfl | rfl
    · exact y_pair (U := s) rfl q1 hk q4 q5 q5 e1 g1
    · exact y_pair (U := s) rfl q1 hk q4 q5 q5 e2 g2
