/-! what the tables say at the law's entry -/
theorem l_in {w : Cond} (h : w ∈ tables_1) : w ∈ lw_tbl := List.mem_append_right _ h
theorem l_arr {args : Array Value} {s : State} {ty : FieldType} (h : (Cond.arrayClass ty).before args s = true) : ∃ cA, ArrOfT s cA ty ∧ s.vm.findClass ("[" ++ ty.toString) = some cA := by
  obtain ⟨cA, kA, comp, h1, h2, h3⟩ := Cond.arrayClass_spec h
  exact ⟨cA, fun n z => ⟨fun k h => (by cases h), kA, h2, comp, h3⟩, h1⟩
theorem l_arr2 {args : Array Value} {s : State} (h : (Cond.arrayOver (.array .int)).before args s = true) : ∃ cA cI k, ArrOfT s cA (.array .int) ∧ s.vm.findClass ("[" ++ (FieldType.array .int).toString) = some cA ∧ s.vm.findClass ("[" ++ FieldType.int.toString) = some cI ∧ s.vm.classes[cA]? = some k ∧ k.kind = .array cI (.array .int) := by
  obtain ⟨comp, cA, kA, h1, -, h2, h3, h4⟩ := arrayOverA_spec h
  exact ⟨cA, comp, kA, fun n z => ⟨fun k h => (by cases h), kA, h2, comp, h3⟩, h4, h1, h2, h3⟩
theorem l_over : Cond.arrayOver (.array .int) ∈ tables_1 := List.mem_of_getElem? (i := 181) (by decide +kernel)
theorem l_K {args : Array Value} {s : State} (hz : ∀ w ∈ zTB, w.before args s = true) (ho : (Cond.arrayOver (.array .int)).before args s = true) : ∃ (D : va_G) (cy : Nat → ClassId) (cJ : ClassId), va_K D zC (z_ty cy) s ∧ (∃ k, s.vm.classes[cy 13]? = some k ∧ k.kind = .array (cy 11) (.array .int)) ∧ ArrOfT s cJ .long ∧ s.vm.findClass ("[" ++ FieldType.long.toString) = some cJ := by
  obtain ⟨c0, i0, k0⟩ := u_known hz zu_Acts (hz _ yn_Acts)
  obtain ⟨c1, i1, k1⟩ := u_known hz zu_City (hz _ yn_City)
  obtain ⟨c2, i2, k2⟩ := u_known hz zu_Duel (hz _ yn_Duel)
  obtain ⟨c3, i3, k3⟩ := u_known hz zu_History (hz _ yn_History)
  obtain ⟨c4, i4, k4⟩ := u_known hz zu_Mason (hz _ yn_Mason)
  obtain ⟨c5, i5, k5⟩ := u_known hz zu_Orders (hz _ yn_Orders)
  obtain ⟨c6, i6, k6⟩ := u_known hz zu_Rule (hz _ yn_Rule)
  obtain ⟨c7, i7, k7⟩ := u_known hz zu_Walls (hz _ yn_Walls)
  obtain ⟨c8, i8, k8⟩ := u_known hz zu_Model (hz _ yn_Model)
  obtain ⟨a9, r9, n9⟩ := l_arr (hz _ yx_a9)
  obtain ⟨a10, r10, n10⟩ := l_arr (hz _ yx_a10)
  obtain ⟨a11, r11, n11⟩ := l_arr (hz _ yx_a11)
  obtain ⟨a12, r12, n12⟩ := l_arr (hz _ yx_a12)
  obtain ⟨a13, cI, kA, r13, n13, nI', hk1, hk2⟩ := l_arr2 ho
  obtain ⟨aJ, rJ, nJ⟩ := l_arr (hz _ yx_aJ)
  have eI : cI = a11 := Option.some.inj (nI'.symm.trans n11)
  subst eI
  refine ⟨(fun k => match k with | 0 => c0 | 1 => c1 | 2 => c2 | 3 => c3 | 4 => c4 | 5 => c5 | 6 => c6 | 7 => c7 | _ => c8, fun k => match k with | 0 => i0 | 1 => i1 | 2 => i2 | 3 => i3 | 4 => i4 | 5 => i5 | 6 => i6 | 7 => i7 | _ => i8), (fun k => match k with | 9 => a9 | 10 => a10 | 11 => cI | 12 => a12 | _ => a13), aJ, ⟨fun k q hq => ?_, fun k q hq => ?_⟩, ⟨kA, hk1, hk2⟩, rJ, nJ⟩
  · match k, hq with
    | 0, hq => cases hq; exact k0
    | 1, hq => cases hq; exact k1
    | 2, hq => cases hq; exact k2
    | 3, hq => cases hq; exact k3
    | 4, hq => cases hq; exact k4
    | 5, hq => cases hq; exact k5
    | 6, hq => cases hq; exact k6
    | 7, hq => cases hq; exact k7
    | 8, hq => cases hq; exact k8
    | k + 9, hq => simp [zC] at hq
  · match k, hq with
    | 0, hq => cases hq; exact ⟨r9, n9⟩
    | 1, hq => cases hq; exact ⟨r10, n10⟩
    | 2, hq => cases hq; exact ⟨r11, n11⟩
    | 3, hq => cases hq; exact ⟨r12, n12⟩
    | 4, hq => cases hq; exact ⟨r13, n13⟩
    | k + 5, hq => simp [z_ty] at hq
theorem l_n19 : yN_19 ∈ tables_1 := List.mem_of_getElem? (i := 29) (by decide +kernel)
theorem l_n39 : yN_39 ∈ tables_1 := List.mem_of_getElem? (i := 151) (by decide +kernel)
theorem l_n46 : yN_46 ∈ tables_1 := List.mem_of_getElem? (i := 176) (by decide +kernel)
theorem l_n65 : yN_65 ∈ tables_1 := List.mem_of_getElem? (i := 196) (by decide +kernel)
theorem l_n72 : yN_72 ∈ tables_1 := List.mem_of_getElem? (i := 222) (by decide +kernel)
theorem l_n79 : yN_79 ∈ tables_1 := List.mem_of_getElem? (i := 233) (by decide +kernel)
theorem l_nC : zN_C ∈ tables_1 := List.mem_of_getElem? (i := 401) (by decide +kernel)
theorem l_nR : zN_R ∈ tables_1 := List.mem_of_getElem? (i := 446) (by decide +kernel)
theorem l_nA : zN_A ∈ tables_1 := List.mem_of_getElem? (i := 622) (by decide +kernel)
theorem l_s1 : Cond.laysStatic Bundle.tN "UNASSIGNED_STACK" Bundle.steD ∈ tables_1 := List.mem_of_getElem? (i := 908) (by decide +kernel)
theorem l_s2 : Cond.laysStatic Bundle.tN "SUPPRESSED_SENTINEL" Bundle.listD ∈ tables_1 := List.mem_of_getElem? (i := 910) (by decide +kernel)
theorem l_t142 : Cond.stringRef zr_Walls 142 "no such book" ∈ tables_1 := List.mem_of_getElem? (i := 920) (by decide +kernel)
theorem l_t169 : Cond.stringRef zr_Walls 169 "nothing such of a book" ∈ tables_1 := List.mem_of_getElem? (i := 948) (by decide +kernel)
theorem l_t174 : Cond.stringRef zr_Walls 174 "no such column" ∈ tables_1 := List.mem_of_getElem? (i := 956) (by decide +kernel)
theorem l_t192 : Cond.stringRef zr_Walls 192 "nothing such of a column" ∈ tables_1 := List.mem_of_getElem? (i := 962) (by decide +kernel)
theorem l_t197 : Cond.stringRef zr_Walls 197 "no such reader" ∈ tables_1 := List.mem_of_getElem? (i := 971) (by decide +kernel)
theorem l_t208 : Cond.stringRef zr_Walls 208 "nothing such of a reader" ∈ tables_1 := List.mem_of_getElem? (i := 973) (by decide +kernel)
theorem l_t378 : Cond.stringRef zr_Walls 378 "no such number of the row" ∈ tables_1 := List.mem_of_getElem? (i := 981) (by decide +kernel)
theorem l_V {args : Array Value} {s : State} {cy : Nat → ClassId} (ht : ∀ w ∈ lw_tbl, w.before args s = true) (hk : ∃ k, s.vm.classes[cy 13]? = some k ∧ k.kind = .array (cy 11) (.array .int)) : yV cy s := by
  refine ⟨fun w hw => va_Nw.of (yN_on w hw) (A := args) (ht w (l_in ?_)), hk⟩
  simp only [yN_all, List.mem_cons, List.not_mem_nil, or_false] at hw
  rcases hw with rfl | rfl | rfl | rfl | rfl | rfl
  · exact l_n19
  · exact l_n39
  · exact l_n46
  · exact l_n65
  · exact l_n72
  · exact l_n79
theorem l_Nw {args : Array Value} {s : State} (ht : ∀ w ∈ lw_tbl, w.before args s = true) : z_Nw s := ⟨va_Nw.of rfl (ht _ (l_in l_nC)), va_Nw.of rfl (ht _ (l_in l_nR)), va_Nw.of rfl (ht _ (l_in l_nA))⟩
theorem l_str {args : Array Value} {s : State} {q : Nat × String} {cw : ClassId} (hc : s.vm.findClass zr_Walls = some cw) (h : (Cond.stringRef zr_Walls q.1 q.2).before args s = true) : ∃ a, vk_R zr_Walls q.1 q.2 a s := by
  obtain ⟨k, cf, i, a, -, -, -, -, -, h6⟩ := Cond.stringRef_spec hc h
  exact ⟨a, vk_R.of h h6⟩
