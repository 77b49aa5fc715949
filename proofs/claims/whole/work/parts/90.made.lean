section
variable {p : Program} {l : Launch} {e : Env} {R : Room} {s : State} {m : MethodId} {args : Array Value} {below : List Frame} {meth : Method} {c : Code} {T : State} {locs : List Loc} {cells slots : Nat} {A : Nat → Prop}
set_option maxHeartbeats 2000000 in
/-- the constructor of the exception, from its call to its return -/
theorem y_made (X : Stand p l e R s m args below meth c T locs cells slots) (hexec : p.tables.exec = Jvm.exec) (htr : e.platform.stackTraces = false) (hown : s.vm.findClass zr_Walls = some m.cls) (hX : yX A s) (hkeep : ∀ q, q < s.heap.size → ¬ A q → T.heap[q]? = s.heap[q]?)
    {a : Addr} {cX : ClassId} {kX : Class} (hfX : s.vm.findClass yN = some cX) (hkX : s.vm.classes[cX]? = some kX) (hcell : T.heap[a]? = some (freshCell cX kX)) (hnew : s.heap.size ≤ a) {msg : Value} (hmsg : msg.isRef = true)
    {g : JFrame} (hg : g.method = m) (hsize : g.locals.size = c.maxLocals) {rest : List Value} (hstack : g.stack = msg :: .ref a :: rest) (hd : decode c.code g.pc = .ok (.invokespecial 144, 3)) (hF : 5 < R.frames) (hL : 2 * g.monitorRoom + (rest.map fun v => v.category).sum + 81 ≤ R.locals) :
    ∃ (vm' : Vm) (ce : Cell) (L : List Loc), Stand p l e R s m args below meth c ((T.setVm vm').setCell a ce) (locs ++ L) cells slots ∧ (∀ q ∈ L, q.base = a) ∧ ce.cls = cX ∧ ce.vm = .none ∧
      ∀ target, Steps p.tables e below (((T.setVm vm').setCell a ce).setTop { g with pc := g.pc + 3, stack := rest }) target → Steps p.tables e below (T.setTop g) target := by
  have howns : e.platform.frameOwnsMonitors = true := by rw [X.admits.platform]
  have hfin : e.platform.finalization = false := by rw [X.admits.platform]
  have hpl : e.platform.magicAccessors = ({} : Platform).magicAccessors := by rw [X.admits.platform]
  have hw : ∀ w, w ∈ yX_ws → w.onTables = true → w.holds args s none s [] = true := fun w h1 h2 => hX.w h1 h2 args
  obtain ⟨Th, Z0, LT, -, Y⟩ := ThrowableC.of_atoms (args := args) howns hfin hpl (hX.thr args)
  obtain ⟨Z, M, LZ, LM, hnZ⟩ := Init0T.ofS_atoms (args := args) hpl LT Y (fun w h => hX.w (yX_tS w h).1 (yX_tS w h).2 args)
  obtain ⟨P1, L1, n1, u1⟩ := PassC.ofS_atoms (args := args) (s := s) hpl (X := yN) (Y := yNr) (by decide) (by decide) yd_1_0 yd_1_1 yd_1_2 yd_1_5 (fun w h => hX.w (yX_t1 w h).1 (yX_t1 w h).2 args)
  obtain ⟨P2, L2, n2, u2⟩ := PassC.ofS_atoms (args := args) (s := s) hpl (X := yNr) (Y := yNe) (by decide) (by decide) yd_2_0 yd_2_1 yd_2_2 yd_2_5 (fun w h => hX.w (yX_t2 w h).1 (yX_t2 w h).2 args)
  obtain ⟨P3, L3, n3, u3⟩ := PassC.ofS_atoms (args := args) (s := s) hpl (X := yNe) (Y := Bundle.tN) (by decide) (by decide) yd_3_0 yd_3_1 yd_3_2 yd_3_5 (fun w h => hX.w (yX_t3 w h).1 (yX_t3 w h).2 args)
  have hfound : s.vm.findClass yN = some P1.m.cls := findClass_of_methodNamed n1
  cases Option.some.inj (hfX.symm.trans hfound)
  obtain ⟨c1, k1, hc1, hk1, hord, -, -, -⟩ := Cond.instantiable_spec (hw (.instantiable yN 6) (by simp [yX_ws]) rfl)
  cases Option.some.inj (hc1.symm.trans hfound)
  cases Option.some.inj (hkX.symm.trans hk1)
  have hs0 : selectMethod e.platform s.vm P1.m.cls Th.fill0 = .method Th.fill0 := by
    obtain ⟨c2, r2, m2, q1, q2, q3, q4, -⟩ := Cond.selects_spec (hw (.selects yN Bundle.tFill0 Bundle.tFill0) (by simp [yX_ws]) rfl)
    cases Option.some.inj (q1.symm.trans hfound)
    cases Option.some.inj (q2.symm.trans (State.methodFound?_of_named Y.fill0 (by decide)))
    cases Option.some.inj (q3.symm.trans Y.fill0)
    rw [Launch.admits_selectMethod X.admits]; exact q4
  have hsF : selectMethod e.platform s.vm P1.m.cls Th.fill = .method Th.fill := by
    obtain ⟨c2, r2, m2, q1, q2, q3, q4, -⟩ := Cond.selects_spec (hw (.selects yN Bundle.tFill Bundle.tFill) (by simp [yX_ws]) rfl)
    cases Option.some.inj (q1.symm.trans hfound)
    cases Option.some.inj (q2.symm.trans (State.methodFound?_of_named Y.fill (by decide)))
    cases Option.some.inj (q3.symm.trans Y.fill)
    rw [Launch.admits_selectMethod X.admits]; exact q4
  -- the statics
  obtain ⟨cT, kT, aT, cellT, g1, g2, g3, g4, g5⟩ := hX.2.2.1
  cases Option.some.inj (g1.symm.trans Y.found)
  cases Option.some.inj (g2.symm.trans LT.cls)
  have eaS : aT = Th.aS := Option.some.inj (g3.symm.trans LT.statics)
  subst eaS
  obtain ⟨cellS, hcS, hiss⟩ := Y.statics
  have hf1 := (hX.2.2.2 _ (by simp [yX_f] : ("UNASSIGNED_STACK", Bundle.steD) ∈ yX_f)).2
  have hf2 := (hX.2.2.2 _ (by simp [yX_f] : ("SUPPRESSED_SENTINEL", Bundle.listD) ∈ yX_f)).2
  obtain ⟨u0, hu0⟩ := Cond.staticRefV Y.unassigned LT.unassignedStatic LT.statics hcS hiss hf1
  obtain ⟨sen, hsen⟩ := Cond.staticRefV Y.sentinel LT.sentinelStatic LT.statics hcS hiss hf2
  have hcT : T.heap[Th.aS]? = some cellS := by rw [hkeep _ (Array.getElem?_eq_some_iff.mp hcS).1 g5]; exact hcS
  have hne : Th.aS ≠ a := Nat.ne_of_lt (Nat.lt_of_lt_of_le (Array.getElem?_eq_some_iff.mp hcS).1 hnew)
  have hkn : cellS.vm ≠ .unknown := fun hu => by rw [hu] at hiss; cases hiss
  -- the fields
  obtain ⟨ci, i198, fB, hk198, hg198, ha198, hsB, -, hnB, htB, hffB⟩ := Cond.ownField (t := .object "java/lang/Object") Y.found LT.cls (by decide +kernel) (hw (.fieldLink Bundle.tN 198 Bundle.tN "backtrace" "Ljava/lang/Object;") (by simp [yX_ws]) rfl) (hw (.lays Bundle.tN Bundle.tN "backtrace" "Ljava/lang/Object;") (by simp [yX_ws]) rfl) e.platform hpl
  obtain ⟨iM, hffM⟩ := Y.msg
  obtain ⟨tyC, dC, hdC, hdnC⟩ := Cond.laysAt hfound hk1 Y.cause (hw (.lays yN Bundle.tN "cause" "Ljava/lang/Throwable;") (by simp [yX_ws]) rfl)
  obtain ⟨tyS, dS, hdS, hdnS⟩ := Cond.laysAt hfound hk1 Y.stack (hw (.lays yN Bundle.tN "stackTrace" Bundle.steD) (by simp [yX_ws]) rfl)
  obtain ⟨tyP, dP, hdP, hdnP⟩ := Cond.laysAt hfound hk1 Y.supp (hw (.lays yN Bundle.tN "suppressedExceptions" Bundle.listD) (by simp [yX_ws]) rfl)
  obtain ⟨tyM, dM, hdM, hdnM⟩ := Cond.laysAt hfound hk1 hffM (hw (.lays yN Bundle.tN "detailMessage" "Ljava/lang/String;") (by simp [yX_ws]) rfl)
  obtain ⟨tyB, dB, hdB, hdnB⟩ := Cond.laysAt hfound hk1 hffB (hw (.lays yN Bundle.tN "backtrace" "Ljava/lang/Object;") (by simp [yX_ws]) rfl)
  have b1 := Cond.laysApart hdB hdC hdnB hdnC (by rw [hnB, Y.causeName]; decide)
  have b2 := Cond.laysApart hdB hdS hdnB hdnS (by rw [hnB, Y.stackName]; decide)
  have b3 := Cond.laysApart hdB hdP hdnB hdnP (by rw [hnB, Y.suppName]; decide)
  have hskip : SkipFacts Th e.platform s (fun u => u) u0 ((preparedCellV Th.toThrowableT (freshCell P1.m.cls kX) a u0 sen).withEntry T.cur) := by
    refine ⟨{ ci198 := ci, i198 := i198, fBack := fB }, ⟨hk198, hg198, ha198, hsB⟩, ?_, fun _ _ => rfl⟩
    have h0 := fresh_default (c := P1.m.cls) tyB
    rw [htB] at h0
    simpa [preparedCellV, Cell.setSlot, Cell.withEntry, Array.getElem?_setIfInBounds, b1, b2, b3, b1.symm, b2.symm, b3.symm, defaultValue] using h0
  -- the call
  obtain ⟨tm, methC, cdC, kC, vm₁, hnC, -, -, -, -, -, -, -, hW₁, st1⟩ := Steps.initColdS (tb := p.tables) (e := e) (below := below) (s := s) (U := T) X.here hexec X.warmed hpl hown (t := Bundle.initS yN) rfl rfl (by decide)
    (hw (.methodLink zr_Walls 144 (Bundle.initS yN)) (by simp [yX_ws]) rfl) (hX.w (w := .instanceMethod (Bundle.initS yN)) (by simp [yX_ws, Bundle.passSAtoms]) rfl args) (bytes := prog_21_method_4_code) (maxL := 2) (hX.w (w := .code (Bundle.initS yN) prog_21_method_4_code 2 none) (by simp [yX_ws, Bundle.passSAtoms]) rfl args)
    (f := g) hg (a := a) (msg := msg) (rest := rest) hstack hd
  cases Option.some.inj (hnC.symm.trans n1)
  have e12 : P1.sup = P2.m := Option.some.inj (u1.symm.trans n2)
  have e23 : P2.sup = P3.m := Option.some.inj (u2.symm.trans n3)
  have e34 : P3.sup = Z.m Th.toThrowableT := Option.some.inj (u3.symm.trans hnZ)
  have hLs : ∀ P, P ∈ [P1, P2, P3] → P.LinksS e.platform s := fun P hP => by
    simp only [List.mem_cons, List.not_mem_nil, or_false] at hP
    rcases hP with rfl | rfl | rfl
    · exact L1
    · exact L2
    · exact L3
  obtain ⟨vm₂, X₂, st2⟩ := (X.noted hW₁).ctorMessageOffV hexec (g := { g with stack := rest }) hg hsize Th LT Z LZ M LM [P1, P2, P3] hLs ⟨e12, e23, e34, trivial⟩ (u0 := u0) (sen := sen) (self := a) hmsg (cell := freshCell P1.m.cls kX) (cellS := cellS)
    hcell (fun _ => by simp) (by simp) rfl rfl hs0 hsF hcT hne hkn hu0 hsen
    (Takes.of_laid hk1 hord tyC (by rw [Y.causeType]; rfl)) (Takes.of_laid hk1 hord tyS (by rw [Y.stackType]; exact fits_refV_array _ u0)) (Takes.of_laid hk1 hord tyP (by rw [Y.suppType]; exact fits_refV_object _ sen))
    (Takes.of_laid hk1 hord tyM (by rw [Y.msgType]; exact fits_refV_object _ ⟨msg, hmsg⟩)) Y.objLocals hskip htr [] hd (by simpa using hF) (by simpa using hL)
  rw [State.setVm_twice] at X₂ st2
  refine ⟨vm₂, _, _, X₂, fun q hq => ?_, rfl, rfl, fun target h => st1 target (fun acts => by rw [doInvoke_state]; exact st2 target h)⟩
  simp only [List.mem_cons, List.not_mem_nil, or_false] at hq
  rcases hq with rfl | rfl | rfl | rfl | rfl <;> rfl
end
