def yl_book : zM := (⟨"WallsOfBooksLaw", "book", "(LWallsOfBooks;II[J)I"⟩, method_3_code, 5, some .int)
theorem yl_book_w : Cond.codeWith yl_book.1 yl_book.2.1 5 (some .int) [(0, 10, 13, 13)] ∈ zTB := zi_t (List.mem_of_getElem? (i := 875) (by decide +kernel)) (by decide +kernel)
theorem zd_Lbook_0 : decode yl_book.2.1 0 = .ok (.aload_n 3, 1) := by decide +kernel
theorem zd_Lbook_1 : decode yl_book.2.1 1 = .ok (.iconst 0, 1) := by decide +kernel
theorem zd_Lbook_2 : decode yl_book.2.1 2 = .ok (.aload_n 0, 1) := by decide +kernel
theorem zd_Lbook_3 : decode yl_book.2.1 3 = .ok (.iload_n 1, 1) := by decide +kernel
theorem zd_Lbook_4 : decode yl_book.2.1 4 = .ok (.iload_n 2, 1) := by decide +kernel
theorem zd_Lbook_5 : decode yl_book.2.1 5 = .ok (.invokevirtual 7, 3) := by decide +kernel
theorem zd_Lbook_8 : decode yl_book.2.1 8 = .ok (.i2l, 1) := by decide +kernel
theorem zd_Lbook_9 : decode yl_book.2.1 9 = .ok (.lastore, 1) := by decide +kernel
theorem zd_Lbook_10 : decode yl_book.2.1 10 = .ok (.goto 7, 3) := by decide +kernel
theorem zd_Lbook_13 : decode yl_book.2.1 13 = .ok (.astore 4, 2) := by decide +kernel
theorem zd_Lbook_15 : decode yl_book.2.1 15 = .ok (.iconst 1, 1) := by decide +kernel
theorem zd_Lbook_16 : decode yl_book.2.1 16 = .ok (.ireturn, 1) := by decide +kernel
theorem zd_Lbook_17 : decode yl_book.2.1 17 = .ok (.iconst 0, 1) := by decide +kernel
theorem zd_Lbook_18 : decode yl_book.2.1 18 = .ok (.ireturn, 1) := by decide +kernel
theorem yl_book_c : Cond.methodLink "WallsOfBooksLaw" 7 zm_Walls_book.1 ∈ zTB := zi_t (List.mem_of_getElem? (i := 877) (by decide +kernel)) (by decide +kernel)
def yl_column : zM := (⟨"WallsOfBooksLaw", "column", "(LWallsOfBooks;II[J)I"⟩, method_4_code, 5, some .int)
theorem yl_column_w : Cond.codeWith yl_column.1 yl_column.2.1 5 (some .int) [(0, 10, 13, 13)] ∈ zTB := zi_t (List.mem_of_getElem? (i := 951) (by decide +kernel)) (by decide +kernel)
theorem zd_Lcolumn_0 : decode yl_column.2.1 0 = .ok (.aload_n 3, 1) := by decide +kernel
theorem zd_Lcolumn_1 : decode yl_column.2.1 1 = .ok (.iconst 0, 1) := by decide +kernel
theorem zd_Lcolumn_2 : decode yl_column.2.1 2 = .ok (.aload_n 0, 1) := by decide +kernel
theorem zd_Lcolumn_3 : decode yl_column.2.1 3 = .ok (.iload_n 1, 1) := by decide +kernel
theorem zd_Lcolumn_4 : decode yl_column.2.1 4 = .ok (.iload_n 2, 1) := by decide +kernel
theorem zd_Lcolumn_5 : decode yl_column.2.1 5 = .ok (.invokevirtual 15, 3) := by decide +kernel
theorem zd_Lcolumn_8 : decode yl_column.2.1 8 = .ok (.i2l, 1) := by decide +kernel
theorem zd_Lcolumn_9 : decode yl_column.2.1 9 = .ok (.lastore, 1) := by decide +kernel
theorem zd_Lcolumn_10 : decode yl_column.2.1 10 = .ok (.goto 7, 3) := by decide +kernel
theorem zd_Lcolumn_13 : decode yl_column.2.1 13 = .ok (.astore 4, 2) := by decide +kernel
theorem zd_Lcolumn_15 : decode yl_column.2.1 15 = .ok (.iconst 1, 1) := by decide +kernel
theorem zd_Lcolumn_16 : decode yl_column.2.1 16 = .ok (.ireturn, 1) := by decide +kernel
theorem zd_Lcolumn_17 : decode yl_column.2.1 17 = .ok (.iconst 0, 1) := by decide +kernel
theorem zd_Lcolumn_18 : decode yl_column.2.1 18 = .ok (.ireturn, 1) := by decide +kernel
theorem yl_column_c : Cond.methodLink "WallsOfBooksLaw" 15 zm_Walls_column.1 ∈ zTB := zi_t (List.mem_of_getElem? (i := 952) (by decide +kernel)) (by decide +kernel)
def yl_reader : zM := (⟨"WallsOfBooksLaw", "reader", "(LWallsOfBooks;II[J)I"⟩, method_5_code, 5, some .int)
theorem yl_reader_w : Cond.codeWith yl_reader.1 yl_reader.2.1 5 (some .int) [(0, 10, 13, 13)] ∈ zTB := zi_t (List.mem_of_getElem? (i := 965) (by decide +kernel)) (by decide +kernel)
theorem zd_Lreader_0 : decode yl_reader.2.1 0 = .ok (.aload_n 3, 1) := by decide +kernel
theorem zd_Lreader_1 : decode yl_reader.2.1 1 = .ok (.iconst 0, 1) := by decide +kernel
theorem zd_Lreader_2 : decode yl_reader.2.1 2 = .ok (.aload_n 0, 1) := by decide +kernel
theorem zd_Lreader_3 : decode yl_reader.2.1 3 = .ok (.iload_n 1, 1) := by decide +kernel
theorem zd_Lreader_4 : decode yl_reader.2.1 4 = .ok (.iload_n 2, 1) := by decide +kernel
theorem zd_Lreader_5 : decode yl_reader.2.1 5 = .ok (.invokevirtual 18, 3) := by decide +kernel
theorem zd_Lreader_8 : decode yl_reader.2.1 8 = .ok (.i2l, 1) := by decide +kernel
theorem zd_Lreader_9 : decode yl_reader.2.1 9 = .ok (.lastore, 1) := by decide +kernel
theorem zd_Lreader_10 : decode yl_reader.2.1 10 = .ok (.goto 7, 3) := by decide +kernel
theorem zd_Lreader_13 : decode yl_reader.2.1 13 = .ok (.astore 4, 2) := by decide +kernel
theorem zd_Lreader_15 : decode yl_reader.2.1 15 = .ok (.iconst 1, 1) := by decide +kernel
theorem zd_Lreader_16 : decode yl_reader.2.1 16 = .ok (.ireturn, 1) := by decide +kernel
theorem zd_Lreader_17 : decode yl_reader.2.1 17 = .ok (.iconst 0, 1) := by decide +kernel
theorem zd_Lreader_18 : decode yl_reader.2.1 18 = .ok (.ireturn, 1) := by decide +kernel
theorem yl_reader_c : Cond.methodLink "WallsOfBooksLaw" 18 zm_Walls_reader.1 ∈ zTB := zi_t (List.mem_of_getElem? (i := 966) (by decide +kernel)) (by decide +kernel)
def yl_row : zM := (⟨"WallsOfBooksLaw", "row", "(LWallsOfBooks;I[J)I"⟩, method_6_code, 4, some .int)
theorem yl_row_w : Cond.codeWith yl_row.1 yl_row.2.1 4 (some .int) [(0, 9, 12, 13)] ∈ zTB := zi_t (List.mem_of_getElem? (i := 976) (by decide +kernel)) (by decide +kernel)
theorem zd_Lrow_0 : decode yl_row.2.1 0 = .ok (.aload_n 2, 1) := by decide +kernel
theorem zd_Lrow_1 : decode yl_row.2.1 1 = .ok (.iconst 0, 1) := by decide +kernel
theorem zd_Lrow_2 : decode yl_row.2.1 2 = .ok (.aload_n 0, 1) := by decide +kernel
theorem zd_Lrow_3 : decode yl_row.2.1 3 = .ok (.iload_n 1, 1) := by decide +kernel
theorem zd_Lrow_4 : decode yl_row.2.1 4 = .ok (.invokevirtual 21, 3) := by decide +kernel
theorem zd_Lrow_7 : decode yl_row.2.1 7 = .ok (.i2l, 1) := by decide +kernel
theorem zd_Lrow_8 : decode yl_row.2.1 8 = .ok (.lastore, 1) := by decide +kernel
theorem zd_Lrow_9 : decode yl_row.2.1 9 = .ok (.goto 6, 3) := by decide +kernel
theorem zd_Lrow_12 : decode yl_row.2.1 12 = .ok (.astore_n 3, 1) := by decide +kernel
theorem zd_Lrow_13 : decode yl_row.2.1 13 = .ok (.iconst 1, 1) := by decide +kernel
theorem zd_Lrow_14 : decode yl_row.2.1 14 = .ok (.ireturn, 1) := by decide +kernel
theorem zd_Lrow_15 : decode yl_row.2.1 15 = .ok (.iconst 0, 1) := by decide +kernel
theorem zd_Lrow_16 : decode yl_row.2.1 16 = .ok (.ireturn, 1) := by decide +kernel
theorem yl_row_c : Cond.methodLink "WallsOfBooksLaw" 21 zm_Walls_row.1 ∈ zTB := zi_t (List.mem_of_getElem? (i := 977) (by decide +kernel)) (by decide +kernel)
theorem yl_cl : Cond.classLink "WallsOfBooksLaw" 13 yN ∈ zTB := zi_t (List.mem_of_getElem? (i := 876) (by decide +kernel)) (by decide +kernel)
theorem yl_in : Cond.initialized "WallsOfBooksLaw" ∈ zTB := zi_t (List.mem_of_getElem? (i := 0) (by decide +kernel)) (by decide +kernel)
/-- the cells that a helper may change -/
def lA (ad : Nat → Nat) (qo sz : Nat) : Nat → Prop := fun q => (∃ o, o < zK ∧ q = ad o) ∨ q = qo ∨ sz ≤ q
def lO (cJ : ClassId) (v : Int64) : Cell := vp_cell cJ (1, .inr (.inl (fun _ => v)))
theorem lO_set (cJ : ClassId) (v w : Int64) : (lO cJ v).setSlot 0 (.long w) = lO cJ w := by
  unfold lO
  rw [vp_cell_l, vp_cell_l, arrV_store]
  unfold arrV
  congr 2
  funext j
  have : (j : Nat) = 0 := by omega
  show updV _ 0 _ (j : Nat) = _
  rw [this]
  simp [updV]
def lPc (D : va_G) (cy : Nat → ClassId) (ad : Nat → Nat) (cJ : ClassId) (qo sz : Nat) (σ : zS) (v : Int64) (As : List zV) : Array Value → State → Prop := va_Pc (.ref (ad 0) :: (As.map (z_en ad) ++ [.ref qo])) (fun U => U.heap.size = sz ∧ va_P D zC (z_ws cy ad σ) U.heap ∧ va_K D zC (z_ty cy) U ∧ va_D (fun _ => True) (z_ws cy ad σ) ∧ z_Nw U ∧ yX (lA ad qo sz) U ∧ U.heap[qo]? = some (lO cJ v) ∧ ArrOfT U cJ .long ∧ ∀ o, o < zK → qo ≠ ad o)
/-- how a question that may be refused is answered through a helper -/
def lZ (x : tX) (o : Option Int32) (σ : zS) (k : Int32) (v : Int64) (u : zS) : Prop := (match o with
  | some y => k = 0 ∧ v = y.toInt64
  | none => k = 1) ∧ cA x u ∧ zW σ u
def lQc (D : va_G) (cy : Nat → ClassId) (ad : Nat → Nat) (cJ : ClassId) (qo sz : Nat) (x : tX) (o : Option Int32) (σ : zS) : Array Value → State → Outcome → State → Prop := fun _ st oc t => ∃ k v u, oc = .returned (some (.int k)) ∧ lZ x o σ k v u ∧ z_B D cy ad (lA ad qo sz) u t ∧ t.heap[qo]? = some (lO cJ v) ∧ va_F (lA ad qo sz) st t
theorem lP_blind {D : va_G} {cy : Nat → ClassId} {ad : Nat → Nat} {cJ : ClassId} {qo sz : Nat} {σ : zS} {v : Int64} {As : List zV} : FrameBlind (lPc D cy ad cJ qo sz σ v As) := by
  intro a U g mk q
  obtain ⟨q0, q1, qP, qK, qD, qN, qX, q2, q3, q4⟩ := q
  refine ⟨q0, q1, qP, va_K.moved (u := U) (U := U.calling g mk a) (Vm.Alike.refl U.vm) qK, qD, ⟨va_tabs (A := #[]) (u := U) rfl rfl qN.1, va_tabs (A := #[]) (u := U) rfl rfl qN.2.1, va_tabs (A := #[]) (u := U) rfl rfl qN.2.2⟩, ?_, q2, arrOfT_moved (Vm.Alike.refl U.vm) q3, q4⟩
  exact qX.to (U := U.calling g mk a) (State.WarmedH.refl U) (fun _ _ _ => rfl) (fun _ h => h)
section
variable {p : Program} {l : Launch} {e : Env} {s : State} {m : MethodId} {args : Array Value} {below : List Frame} {meth : Method} {c' : Code} {D : va_G} {cy : Nat → ClassId} {ad : Nat → Nat} {d : Nat} {Po : Option Int32 → zS → Prop} {mi : zM} {x : tX} {σ : zS} {cJ : ClassId} {qo : Nat} {o : Option Int32} {Qf : State → Prop} {R : Room}
/-- behind the call: the answer is laid into the row -/
theorem lh_good {y : Int32} {v : Int64} {u : zS} {H : Heap} {locs : List Loc} {ls : Array Slot} {pc off pc2 : Nat} (C : z_Cx ⟨p, l, e, R, s, m, args, below, meth, c', ⟨0, 0⟩, Qf, D, cy, ad, lA ad qo s.heap.size, d, Po⟩ mi) (hret : mi.2.2.2 = some .int) (ho : o = some y) (hu : cA x u ∧ zW σ u) (hP : va_P D zC (z_ws cy ad u) H) (hD : va_D (lA ad qo s.heap.size) (z_ws cy ad u)) (hS : va_S (lA ad qo s.heap.size) s.heap H locs) (hq : H[qo]? = some (lO cJ v)) (hAr : ArrOfT s cJ .long) (hne : ∀ o, o < zK → qo ≠ ad o)
    (d0 : decode mi.2.1 pc = .ok (.i2l, 1)) (d1 : decode mi.2.1 (pc + 1) = .ok (.lastore, 1)) (d2 : decode mi.2.1 (pc + 2) = .ok (.goto off, 3)) (hpc : ((pc + 2 : Nat) : Int) + (off : Int) = (pc2 : Int)) (d3 : decode mi.2.1 pc2 = .ok (.iconst 0, 1)) (d4 : decode mi.2.1 (pc2 + 1) = .ok (.ireturn, 1)) :
    W p l e R s m args below meth c' H locs 0 0 (MQ below (lQc D cy ad cJ qo s.heap.size x o σ) args s 1 6 (lA ad qo s.heap.size)) (F0 m pc ls [.int y, .int 0, .ref qo]) := by
  refine lv_i2l C.1 C.2.1 d0 rfl ?_
  refine W.last C.1 C.2.1 hq (hAr 1 (fun _ => .long v)) (fun h => by cases h) (by show ¬ ((0 : Int32) < 0 ∨ (arrV _ _ _).slots.size ≤ _); rw [arrV_size]; show ¬ ((0 : Int32) < 0 ∨ 1 ≤ Int32.toNatClampNeg 0); decide) rfl rfl d1 (fun H1 e1 z1 o1 => ?_)
  rw [show (0 : Int32).toNatClampNeg = 0 from rfl, lO_set] at e1
  refine lv_goto C.1 C.2.1 d2 hpc ?_
  refine lv_iconst (v := 0) C.1 C.2.1 d3 (by decide) ?_
  refine W.widen (k := 1) (n := 6) (by omega) (by omega) ?_
  have hP1 : va_P D zC (z_ws cy ad u) H1 := hP.kept (fun k q hk => o1 _ (fun e => by
    have hl : k < zK := by
      have := (List.getElem?_eq_some_iff.mp hk).1
      simpa [z_ws] using this
    rw [z_at hl] at hk
    cases hk
    exact hne k hl e.symm))
  have hF : ∀ q, q < s.heap.size → ¬ lA ad qo s.heap.size q → H1[q]? = s.heap[q]? := fun q h1 h2 => by
    rw [o1 q (fun e => h2 (Or.inr (Or.inl e)))]
    exact hS.2.1 q h1 h2
  refine W.iret C.1 C.2.1 (C.2.2.1.trans hret) (fun t ht hW => ⟨0, y.toInt64, u, rfl, ?_, ⟨by rw [ht]; exact hP1, va_K.moved hW.alike C.2.2.2.2.2.2.2.2.1, hD⟩, by rw [ht]; exact e1, ⟨by rw [ht, z1]; exact hS.1, fun q h1 h2 => by rw [ht]; exact hF q h1 h2⟩⟩) (fun q hq => ?_) d4 C.2.2.2.2.2.2.1
  · rcases List.mem_append.mp hq with h | h
    · exact hS.2.2 q h
    · rw [List.mem_singleton.mp h]; exact Or.inr (Or.inl rfl)
  · rw [ho]
    exact ⟨⟨rfl, rfl⟩, hu⟩
/-- the handler -/
theorem lh_bad {v : Int64} {H : Heap} {locs : List Loc} {ls : Array Slot} {pc : Nat} (C : z_Cx ⟨p, l, e, R, s, m, args, below, meth, c', ⟨0, 0⟩, Qf, D, cy, ad, lA ad qo s.heap.size, d, Po⟩ mi) (hret : mi.2.2.2 = some .int) (ho : o = none) (hu : cA x σ) (hP : va_P D zC (z_ws cy ad σ) H) (hD : va_D (lA ad qo s.heap.size) (z_ws cy ad σ)) (hS : va_S (lA ad qo s.heap.size) s.heap H locs) (hq : H[qo]? = some (lO cJ v)) (d3 : decode mi.2.1 pc = .ok (.iconst 1, 1)) (d4 : decode mi.2.1 (pc + 1) = .ok (.ireturn, 1)) :
    W p l e R s m args below meth c' H locs 1 6 (MQ below (lQc D cy ad cJ qo s.heap.size x o σ) args s 1 6 (lA ad qo s.heap.size)) (F0 m pc ls []) := by
  refine lv_iconst (v := 1) C.1 C.2.1 d3 (by decide) ?_
  refine W.iret C.1 C.2.1 (C.2.2.1.trans hret) (fun t ht hW => ⟨1, v, σ, rfl, ?_, ⟨by rw [ht]; exact hP, va_K.moved hW.alike C.2.2.2.2.2.2.2.2.1, hD⟩, by rw [ht]; exact hq, ⟨by rw [ht]; exact hS.1, fun q h1 h2 => by rw [ht]; exact hS.2.1 q h1 h2⟩⟩) hS.2.2 d4 C.2.2.2.2.2.2.1
  rw [ho]
  exact ⟨rfl, hu, zW.rf⟩
end
def yRh : Room := { frames := 10, cells := 1, slots := 6, locals := 400 }
abbrev yWh (mi : zM) (hh : List (Nat × Nat × Nat × Nat)) : List Cond := Cond.codeWith mi.1 mi.2.1 mi.2.2.1 mi.2.2.2 hh :: zTB
theorem lh_three {mi mc : zM} {idx : Nat} {x : tX} {σ : zS} {a b : Int32} {o : Option Int32} (hL : mi.2.2.1 = 5) (hret : mi.2.2.2 = some .int) (hcls : mi.1.cls = "WallsOfBooksLaw") (hpn : plainName mi.1.cls = true) (hA : cA x σ) (hgood : ∀ y, o = some y → z_Ci 6 mc [.inr 0, .inl a, .inl b] σ (fun r u => r = y ∧ cA x u ∧ zW σ u)) (hthr : o = none → y_Ct 7 mc [.inr 0, .inl a, .inl b] σ)
    (hcw : zC[7]? = some (mc.1.cls, zt_Walls, 16)) (hmv : z_mv mc 2) (hml : Cond.methodLink "WallsOfBooksLaw" idx mc.1 ∈ zTB)
    (d0 : decode mi.2.1 0 = .ok (.aload_n 3, 1)) (d1 : decode mi.2.1 1 = .ok (.iconst 0, 1)) (d2 : decode mi.2.1 2 = .ok (.aload_n 0, 1)) (d3 : decode mi.2.1 3 = .ok (.iload_n 1, 1)) (d4 : decode mi.2.1 4 = .ok (.iload_n 2, 1)) (d5 : decode mi.2.1 5 = .ok (.invokevirtual idx, 3)) (d8 : decode mi.2.1 8 = .ok (.i2l, 1)) (d9 : decode mi.2.1 9 = .ok (.lastore, 1)) (d10 : decode mi.2.1 10 = .ok (.goto 7, 3)) (d13 : decode mi.2.1 13 = .ok (.astore 4, 2)) (d15 : decode mi.2.1 15 = .ok (.iconst 1, 1)) (d16 : decode mi.2.1 16 = .ok (.ireturn, 1)) (d17 : decode mi.2.1 17 = .ok (.iconst 0, 1)) (d18 : decode mi.2.1 18 = .ok (.ireturn, 1)) :
    ∀ (l : Launch), l.flags = flags0 → ∀ (D : va_G) (cy : Nat → ClassId) (ad : Nat → Nat) (cJ : ClassId) (qo sz : Nat) (v : Int64), Met l mi.1 (yWh mi [(0, 10, 13, 13)]) yRh (lPc D cy ad cJ qo sz σ v [.inl a, .inl b]) (lQc D cy ad cJ qo sz x o σ) 1 6 (lA ad qo sz) := by
  intro l hfl D cy ad cJ qo sz v
  refine va_MetW (cc := mi.2.1) (maxL := mi.2.2.1) (ret := mi.2.2.2) (hh := [(0, 10, 13, 13)]) hpn rfl ?_
  intro p e s m args below meth c' s₁ B hml' hv
  obtain ⟨rfl, hsz, hP, hK, hD0, hN, hX, hq, hAr, hne⟩ := hv
  subst hsz
  have hts := atoms_spec (ws := yWh mi [(0, 10, 13, 13)]) B.pre
  have hown := findClass_of_methodNamed B.named
  obtain ⟨m9, meth9, c9, hn9, hm9, hc9, -, -, htab, -⟩ := Cond.codeWith_spec (hts _ List.mem_cons_self)
  cases B.named.symm.trans hn9
  cases B.method.symm.trans hm9
  cases (Stand.of_body B).code.symm.trans hc9
  have hD : va_D (lA ad qo s.heap.size) (z_ws cy ad σ) := ⟨hD0.1, fun k q hk => by
    have hl : k < zK := by
      have := (List.getElem?_eq_some_iff.mp hk).1
      simpa [z_ws] using this
    rw [z_at hl] at hk
    cases hk
    exact Or.inl ⟨k, hl, rfl⟩⟩
  have C : z_Cx ⟨p, l, e, yRh, s, m, (Value.ref (ad 0) :: ([(.inl a : zV), .inl b].map (z_en ad) ++ [.ref qo])).toArray, below, meth, c', ⟨0, 0⟩, MQ below (lQc D cy ad cJ qo s.heap.size x o σ) (Value.ref (ad 0) :: ([(.inl a : zV), .inl b].map (z_en ad) ++ [.ref qo])).toArray s 1 6 (lA ad qo s.heap.size), D, cy, ad, lA ad qo s.heap.size, 10, fun _ _ => False⟩ mi :=
    ⟨B.exec, B.bytes, B.returns, hml', hown, fun w hw => hts w (List.mem_cons_of_mem _ hw), B.notSynchronized, ⟨by decide, by decide, by decide, by decide⟩, hK, fun q hq => Or.inr (Or.inr hq), fun t ht => by obtain ⟨o, h1, h2, ⟨⟨r, u, ho, hf, hb⟩, hF⟩, h4⟩ := ht; exact hf.elim, hN⟩
  have hS : va_S (lA ad qo s.heap.size) s.heap s.heap [] := va_S.rf
  have hl := lv_entry ([Value.ref (ad 0), .int a, .int b, .ref qo]) (n := 5) (Nat.le_of_ble_eq_true rfl)
  rw [hL, show (Value.ref (ad 0) :: ([(.inl a : zV), .inl b].map (z_en ad) ++ [.ref qo])).toArray = [Value.ref (ad 0), .int a, .int b, .ref qo].toArray from rfl, lg_entry_eq]
  generalize (lg_sl ([Value.ref (ad 0), .int a, .int b, .ref qo]) ++ List.replicate (5 - (lg_sl ([Value.ref (ad 0), .int a, .int b, .ref qo])).length) Slot.unset).toArray = ls at hl ⊢
  have hl : lv_has ls 5 [(0, .ref (ad 0)), (1, .int a), (2, .int b), (3, .ref qo)] := hl
  refine lv_aload_n C.1 C.2.1 d0 rfl (lv_at hl 3 rfl) ?_
  refine lv_iconst (v := 0) C.1 C.2.1 d1 (by decide) ?_
  refine lv_aload_n C.1 C.2.1 d2 rfl (lv_at hl 0 rfl) ?_
  refine lv_iload_n C.1 C.2.1 d3 rfl (lv_at hl 1 rfl) ?_
  refine lv_iload_n C.1 C.2.1 d4 rfl (lv_at hl 2 rfl) ?_
  have hqlt : qo < s.heap.size := (Array.getElem?_eq_some_iff.mp hq).1
  cases ho : o with
  | some y =>
    rw [ho] at C
    refine y_callVi2 (o := 0) (As := [.inl a, .inl b]) (rest := [.int 0, .ref qo]) C (hgood y ho) (by decide) rfl (by decide) hcw (by rw [hcls]; exact hml) hmv d5 rfl (Nat.le_of_ble_eq_true rfl) hP hD hS (by rw [hL]; exact hl.1) (fun r u H1 locs1 hr hP1 hD1 hS1 hz hk => ?_)
    obtain ⟨rfl, hu⟩ := hr
    exact lh_good C hret rfl hu hP1 hD1 hS1 (by rw [hk qo hqlt hne]; exact hq) hAr hne d8 d9 d10 (by decide) d17 d18
  | none =>
    rw [ho] at C
    refine y_callVt (o := 0) (As := [.inl a, .inl b]) (rest := [.int 0, .ref qo]) C (hthr ho) hfl (by decide) rfl (by decide) hcw (by rw [hcls]; exact hml) hmv d5 rfl (Nat.le_of_ble_eq_true rfl) hP hD hS (by rw [hL]; exact hl.1) hX (by decide) (by decide) htab (by decide) (by decide) (by rw [hcls]; exact yl_cl) (fun xa H1 locs1 hP1 hD1 hS1 hz hk => ?_)
    refine lv_astore C.1 C.2.1 d13 hl (by decide) rfl (fun ls2 hl2 => ?_)
    exact lh_bad C hret rfl hA hP1 hD1 hS1 (by rw [hk qo hqlt hne]; exact hq) d15 d16
theorem lh_one {mi mc : zM} {idx : Nat} {x : tX} {σ : zS} {a : Int32} {o : Option Int32} (hL : mi.2.2.1 = 4) (hret : mi.2.2.2 = some .int) (hcls : mi.1.cls = "WallsOfBooksLaw") (hpn : plainName mi.1.cls = true) (hA : cA x σ) (hgood : ∀ y, o = some y → z_Ci 1 mc [.inr 0, .inl a] σ (fun r u => r = y ∧ cA x u ∧ zW σ u)) (hthr : o = none → y_Ct 7 mc [.inr 0, .inl a] σ)
    (hcw : zC[7]? = some (mc.1.cls, zt_Walls, 16)) (hmv : z_mv mc 1) (hml : Cond.methodLink "WallsOfBooksLaw" idx mc.1 ∈ zTB)
    (d0 : decode mi.2.1 0 = .ok (.aload_n 2, 1)) (d1 : decode mi.2.1 1 = .ok (.iconst 0, 1)) (d2 : decode mi.2.1 2 = .ok (.aload_n 0, 1)) (d3 : decode mi.2.1 3 = .ok (.iload_n 1, 1)) (d4 : decode mi.2.1 4 = .ok (.invokevirtual idx, 3)) (d7 : decode mi.2.1 7 = .ok (.i2l, 1)) (d8 : decode mi.2.1 8 = .ok (.lastore, 1)) (d9 : decode mi.2.1 9 = .ok (.goto 6, 3)) (d12 : decode mi.2.1 12 = .ok (.astore_n 3, 1)) (d13 : decode mi.2.1 13 = .ok (.iconst 1, 1)) (d14 : decode mi.2.1 14 = .ok (.ireturn, 1)) (d15 : decode mi.2.1 15 = .ok (.iconst 0, 1)) (d16 : decode mi.2.1 16 = .ok (.ireturn, 1)) :
    ∀ (l : Launch), l.flags = flags0 → ∀ (D : va_G) (cy : Nat → ClassId) (ad : Nat → Nat) (cJ : ClassId) (qo sz : Nat) (v : Int64), Met l mi.1 (yWh mi [(0, 9, 12, 13)]) yRh (lPc D cy ad cJ qo sz σ v [.inl a]) (lQc D cy ad cJ qo sz x o σ) 1 6 (lA ad qo sz) := by
  intro l hfl D cy ad cJ qo sz v
  refine va_MetW (cc := mi.2.1) (maxL := mi.2.2.1) (ret := mi.2.2.2) (hh := [(0, 9, 12, 13)]) hpn rfl ?_
  intro p e s m args below meth c' s₁ B hml' hv
  obtain ⟨rfl, hsz, hP, hK, hD0, hN, hX, hq, hAr, hne⟩ := hv
  subst hsz
  have hts := atoms_spec (ws := yWh mi [(0, 9, 12, 13)]) B.pre
  have hown := findClass_of_methodNamed B.named
  obtain ⟨m9, meth9, c9, hn9, hm9, hc9, -, -, htab, -⟩ := Cond.codeWith_spec (hts _ List.mem_cons_self)
  cases B.named.symm.trans hn9
  cases B.method.symm.trans hm9
  cases (Stand.of_body B).code.symm.trans hc9
  have hD : va_D (lA ad qo s.heap.size) (z_ws cy ad σ) := ⟨hD0.1, fun k q hk => by
    have hl : k < zK := by
      have := (List.getElem?_eq_some_iff.mp hk).1
      simpa [z_ws] using this
    rw [z_at hl] at hk
    cases hk
    exact Or.inl ⟨k, hl, rfl⟩⟩
  have C : z_Cx ⟨p, l, e, yRh, s, m, (Value.ref (ad 0) :: ([(.inl a : zV)].map (z_en ad) ++ [.ref qo])).toArray, below, meth, c', ⟨0, 0⟩, MQ below (lQc D cy ad cJ qo s.heap.size x o σ) (Value.ref (ad 0) :: ([(.inl a : zV)].map (z_en ad) ++ [.ref qo])).toArray s 1 6 (lA ad qo s.heap.size), D, cy, ad, lA ad qo s.heap.size, 10, fun _ _ => False⟩ mi :=
    ⟨B.exec, B.bytes, B.returns, hml', hown, fun w hw => hts w (List.mem_cons_of_mem _ hw), B.notSynchronized, ⟨by decide, by decide, by decide, by decide⟩, hK, fun q hq => Or.inr (Or.inr hq), fun t ht => by obtain ⟨o, h1, h2, ⟨⟨r, u, ho, hf, hb⟩, hF⟩, h4⟩ := ht; exact hf.elim, hN⟩
  have hS : va_S (lA ad qo s.heap.size) s.heap s.heap [] := va_S.rf
  have hl := lv_entry ([Value.ref (ad 0), .int a, .ref qo]) (n := 4) (Nat.le_of_ble_eq_true rfl)
  rw [hL, show (Value.ref (ad 0) :: ([(.inl a : zV)].map (z_en ad) ++ [.ref qo])).toArray = [Value.ref (ad 0), .int a, .ref qo].toArray from rfl, lg_entry_eq]
  generalize (lg_sl ([Value.ref (ad 0), .int a, .ref qo]) ++ List.replicate (4 - (lg_sl ([Value.ref (ad 0), .int a, .ref qo])).length) Slot.unset).toArray = ls at hl ⊢
  have hl : lv_has ls 4 [(0, .ref (ad 0)), (1, .int a), (2, .ref qo)] := hl
  refine lv_aload_n C.1 C.2.1 d0 rfl (lv_at hl 2 rfl) ?_
  refine lv_iconst (v := 0) C.1 C.2.1 d1 (by decide) ?_
  refine lv_aload_n C.1 C.2.1 d2 rfl (lv_at hl 0 rfl) ?_
  refine lv_iload_n C.1 C.2.1 d3 rfl (lv_at hl 1 rfl) ?_
  have hqlt : qo < s.heap.size := (Array.getElem?_eq_some_iff.mp hq).1
  cases ho : o with
  | some y =>
    rw [ho] at C
    refine y_callVi2 (o := 0) (As := [.inl a]) (rest := [.int 0, .ref qo]) C (hgood y ho) (by decide) rfl (by decide) hcw (by rw [hcls]; exact hml) hmv d4 rfl (Nat.le_of_ble_eq_true rfl) hP hD hS (by rw [hL]; exact hl.1) (fun r u H1 locs1 hr hP1 hD1 hS1 hz hk => ?_)
    obtain ⟨rfl, hu⟩ := hr
    exact lh_good C hret rfl hu hP1 hD1 hS1 (by rw [hk qo hqlt hne]; exact hq) hAr hne d7 d8 d9 (by decide) d15 d16
  | none =>
    rw [ho] at C
    refine y_callVt (o := 0) (As := [.inl a]) (rest := [.int 0, .ref qo]) C (hthr ho) hfl (by decide) rfl (by decide) hcw (by rw [hcls]; exact hml) hmv d4 rfl (Nat.le_of_ble_eq_true rfl) hP hD hS (by rw [hL]; exact hl.1) hX (by decide) (by decide) htab (by decide) (by decide) (by rw [hcls]; exact yl_cl) (fun xa H1 locs1 hP1 hD1 hS1 hz hk => ?_)
    refine lv_astore_n C.1 C.2.1 d12 rfl hl (by decide) rfl (fun ls2 hl2 => ?_)
    exact lh_bad C hret rfl hA hP1 hD1 hS1 (by rw [hk qo hqlt hne]; exact hq) d13 d14
def lC (mi : zM) (hh : List (Nat × Nat × Nat × Nat)) (As : List zV) (x : tX) (o : Option Int32) (σ : zS) : Prop := ∀ (l : Launch), l.flags = flags0 → ∀ (D : va_G) (cy : Nat → ClassId) (ad : Nat → Nat) (cJ : ClassId) (qo sz : Nat) (v : Int64), Met l mi.1 (yWh mi hh) yRh (lPc D cy ad cJ qo sz σ v As) (lQc D cy ad cJ qo sz x o σ) 1 6 (lA ad qo sz)
theorem lh_book {x : tX} {σ : zS} (h : cA x σ) (a b : Int32) : lC yl_book [(0, 10, 13, 13)] [.inl a, .inl b] x (x_book x a b) σ := lh_three (mi := yl_book) (mc := zm_Walls_book) (o := x_book x a b) rfl rfl rfl (by decide) h (fun y hy => cp_book h a b hy) (fun hn => ct_book h a b hn) rfl zq_Walls_book yl_book_c zd_Lbook_0 zd_Lbook_1 zd_Lbook_2 zd_Lbook_3 zd_Lbook_4 zd_Lbook_5 zd_Lbook_8 zd_Lbook_9 zd_Lbook_10 zd_Lbook_13 zd_Lbook_15 zd_Lbook_16 zd_Lbook_17 zd_Lbook_18
theorem lh_column {x : tX} {σ : zS} (h : cA x σ) (a b : Int32) : lC yl_column [(0, 10, 13, 13)] [.inl a, .inl b] x (x_col x a b) σ := lh_three (mi := yl_column) (mc := zm_Walls_column) (o := x_col x a b) rfl rfl rfl (by decide) h (fun y hy => cp_column h a b hy) (fun hn => ct_column h a b hn) rfl zq_Walls_column yl_column_c zd_Lcolumn_0 zd_Lcolumn_1 zd_Lcolumn_2 zd_Lcolumn_3 zd_Lcolumn_4 zd_Lcolumn_5 zd_Lcolumn_8 zd_Lcolumn_9 zd_Lcolumn_10 zd_Lcolumn_13 zd_Lcolumn_15 zd_Lcolumn_16 zd_Lcolumn_17 zd_Lcolumn_18
theorem lh_reader {x : tX} {σ : zS} (h : cA x σ) (a b : Int32) : lC yl_reader [(0, 10, 13, 13)] [.inl a, .inl b] x (x_rdr x a b) σ := lh_three (mi := yl_reader) (mc := zm_Walls_reader) (o := x_rdr x a b) rfl rfl rfl (by decide) h (fun y hy => cp_reader h a b hy) (fun hn => ct_reader h a b hn) rfl zq_Walls_reader yl_reader_c zd_Lreader_0 zd_Lreader_1 zd_Lreader_2 zd_Lreader_3 zd_Lreader_4 zd_Lreader_5 zd_Lreader_8 zd_Lreader_9 zd_Lreader_10 zd_Lreader_13 zd_Lreader_15 zd_Lreader_16 zd_Lreader_17 zd_Lreader_18
theorem lh_row {x : tX} {σ : zS} (h : cA x σ) (a : Int32) : lC yl_row [(0, 9, 12, 13)] [.inl a] x (x_rowAt x a) σ := lh_one (mi := yl_row) (mc := zm_Walls_row) (o := x_rowAt x a) rfl rfl rfl (by decide) h (fun y hy => cp_row h a hy) (fun hn => ct_row h a hn) rfl zq_Walls_row yl_row_c zd_Lrow_0 zd_Lrow_1 zd_Lrow_2 zd_Lrow_3 zd_Lrow_4 zd_Lrow_7 zd_Lrow_8 zd_Lrow_9 zd_Lrow_12 zd_Lrow_13 zd_Lrow_14 zd_Lrow_15 zd_Lrow_16

