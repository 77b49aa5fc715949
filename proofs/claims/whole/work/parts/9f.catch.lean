/-! calls out of the law: with what stays beside the world; thrown and caught -/
/-- one handler that covers pc and takes the class: the frame goes on there -/
theorem y_caught {tb : Tables} {e : Env} {s target : State} {g : JFrame} {c : Code} {below : List Frame} {a : Addr} {meth : Method} {vm' : Vm} (h : At s g.method c below) (hm : s.vm.method? g.method = some meth) (hc : meth.code = some c) {x : ExceptionTableEntry} (ht : c.exceptionTable.toList = [x]) (hx : covers x g.pc = true) (h0 : x.catchType ≠ 0)
    {cE : ClassId} {cell : Cell} (hg : (resolveClass g.method.cls x.catchType).Gives e.toSetting s.vm (.ok cE) vm') (hal : s.vm.Alike vm') (hsz : vm'.classes.size ≤ s.vm.classes.size) (hcell : s.heap[a]? = some cell) (hobj : ∀ k, cell.vm ≠ .statics k) (hk1 : ∃ k, s.vm.classes[cell.cls]? = some k) (hk2 : ∃ k, s.vm.classes[cE]? = some k) (hfit : s.vm.assignable cell.cls cE = true)
    (hrest : Steps tb e below ((s.setVm vm').setTop { g with pc := x.handlerPc, stack := [.ref a] }) target) : Steps tb e below ((s.setTop g).pushFrame (.throwing a)) target := by
  obtain ⟨hgo, hw⟩ := h.throwing a
  obtain ⟨g₀, hg₀⟩ := Option.isSome_iff_exists.mp h.top
  obtain ⟨r, hr⟩ := State.topJava?_eq_some.mp hg₀
  obtain ⟨k1, hk1⟩ := hk1
  obtain ⟨k2, hk2⟩ := hk2
  obtain ⟨k1', hk1', -⟩ := hal.2.2 _ _ hk1
  obtain ⟨k2', hk2', -⟩ := hal.2.2 _ _ hk2
  have hfit' : vm'.assignable cell.cls cE = true := by rw [hal.assignable]; exact hfit
  refine Steps.head hgo hw ?_
  rw [stepThread_throwing (frames_entered h.top _)]
  generalize hU : (s.setTop g).pushFrame (.throwing a) = U
  have hUv : U.vm = s.vm := by rw [← hU]; rfl
  have hUh : U.heap = s.heap := by rw [← hU]; rfl
  have key : (stepThrowing e U a (.java g :: s.frames.tail)).Is ((U.setVm vm').setFrames (.java { g with pc := x.handlerPc, stack := [.ref a] } :: s.frames.tail)) [] := by
    have hg' : (resolveClass g.method.cls x.catchType).Gives e.toSetting U.vm (.ok cE) vm' := by rw [hUv]; exact hg
    obtain ⟨o1, o2⟩ := hg'.op (op := VmOp.resolveClass g.method.cls x.catchType) rfl
    have hsz' : vm'.classes.size ≤ U.vm.classes.size := by rw [hUv]; exact hsz
    have hfind : ∀ (Q : Handler → Pre) (E : CtlPost) (d : Bool) (acts : List Action), wp (findHandler g a) Q E e d acts U ↔ Q (.found x.handlerPc) d acts (U.setVm vm') := by
      intro Q E d acts
      have hx' := hx
      simp only [covers] at hx'
      rw [Jvm.W.findHandler_eq (s := U) (f := g) (a := a) (by rw [hUv]; exact hm) hc, ht]
      simp [findHandler.go, hx', h0, o1, o2, hUh, hcell, hobj, hk1', hk2', hfit', hsz', VmOp.dirties, VmOp.acts]
    simp only [stepThrowing, searchFrame, vmDo]
    generalize hres : Sem.go _ e false [] U = res
    obtain ⟨as, rfl, ha⟩ := Sem.eq_ok_of hres (a := Handler.found x.handlerPc) (s' := U.setVm vm') (acts' := []) (by simp [hfind _ _ _ _])
    exact ⟨rfl, ha⟩
  rw [key.1, ← hU]
  have hr' : (s.setVm vm').frames = .java g₀ :: r := hr
  rw [State.setTop_of_frames _ hr'] at hrest
  rw [hr, List.tail_cons]
  have e1 : ((((s.setTop g).pushFrame (.throwing a)).setVm vm').setFrames (.java { g with pc := x.handlerPc, stack := [.ref a] } :: r)) = (s.setVm vm').setFrames (.java { g with pc := x.handlerPc, stack := [.ref a] } :: r) := by
    rw [State.pushFrame, State.setTop_of_frames _ hr]
    show ((((s.setFrames _).setFrames _).setVm vm').setFrames _) = _
    rw [State.setFrames_setFrames]
    show (((s.setVm vm').setFrames _).setFrames _) = _
    rw [State.setFrames_setFrames]
  rw [e1]
  exact hrest
