section
variable {p : Program} {l : Launch} {e : Env} {R : Room} {s : State} {m : MethodId} {args : Array Value} {below : List Frame} {meth : Method} {c' : Code} {cells slots : Nat} {Qf : State → Prop} {D : va_G} {cy : Nat → ClassId} {ad : Nat → Nat} {A : Nat → Prop} {d : Nat} {Po : Option Int32 → zS → Prop} {mi : zM} {pc : Nat} {σ : zS} {H : Heap} {locs : List Loc} {ls : Array Slot} {rest : List Value}
/-- a call of the world's object o; what lies beside the world stays -/
theorem y_callVi2 (C : z_Cx ⟨p, l, e, R, s, m, args, below, meth, c', ⟨cells, slots⟩, Qf, D, cy, ad, A, d, Po⟩ mi) {dc : Nat} {mc : zM} {o c n idx : Nat} {T : u_T} {As : List zV} {P : Int32 → zS → Prop} {st : List Value} (hm : z_Ci dc mc (.inr o :: As) σ P) (hdp : dc < d) (hk : z_kd o = (c, n)) (hc9 : c < 9) (hc : zC[c]? = some (mc.1.cls, T, n)) (hml : Cond.methodLink mi.1.cls idx mc.1 ∈ zTB) (hmv : z_mv mc As.length) (hd : decode mi.2.1 pc = .ok (.invokevirtual idx, 3)) (hst : st = (As.map (z_en ad)).reverse ++ .ref (ad o) :: rest) (hS8 : (rest.map fun v => v.category).sum ≤ 8) (hP : va_P D zC (z_ws cy ad σ) H) (hD : va_D A (z_ws cy ad σ)) (hS : va_S A s.heap H locs) (hls : ls.size = mi.2.2.1)
    (kk : ∀ r σ1 H1 locs1, P r σ1 → va_P D zC (z_ws cy ad σ1) H1 → va_D A (z_ws cy ad σ1) → va_S A s.heap H1 locs1 → H.size ≤ H1.size → (∀ q, q < H.size → (∀ o, o < zK → q ≠ ad o) → H1[q]? = H[q]?) → W p l e R s m args below meth c' H1 locs1 cells slots Qf (F0 m (pc + 3) ls (.int r :: rest))) : W p l e R s m args below meth c' H locs cells slots Qf (F0 m pc ls st) := by
  subst hst
  obtain ⟨⟨hin, hco, hde, h21⟩, him, hse⟩ := hmv
  obtain ⟨hR1, hR2, hR3, hR4⟩ := C.2.2.2.2.2.2.2.1
  have hw : (z_ws cy ad σ)[o]? = some (ad o, .inr (c, (List.range n).map (fun k => z_fv ad σ o c k))) := by rw [z_at (z_lt hk (by omega)), z_ob hk hc9]
  have hG : GoodIn zTB (wsV mi.1.cls idx mc.1.cls mc.1 (z_wm mc)) := z_gin (fun w hw => by
    unfold wsV at hw
    rcases List.mem_append.mp hw with h | h
    · simp only [List.mem_cons, List.not_mem_nil, or_false] at h
      rcases h with rfl | rfl | rfl | rfl <;> assumption
    · exact z_wsub hco w h)
  have hrun := va_runV (p := p) (l := l) (e := e) (R := R) (s := s) (m := m) (args := args) (below := below) (meth := meth) (c := c') (H := H) (locs := locs) (cells := cells) (slots := slots) (As := As.map (z_en ad)) (rest := rest) (b := ad o) (g := F0 m pc ls ((As.map (z_en ad)).reverse ++ .ref (ad o) :: rest)) ⟨C.1, C.2.1, C.2.2.2.1, C.2.2.2.2.1, C.2.2.2.2.2.1⟩ (hm (d - 1) (by omega) l D cy ad H.size) (cwV (R := R) As.length C.2.2.2.2.2.1 hG rfl rfl rfl ⟨rfl, hde⟩ ⟨by show d - 1 + 1 ≤ _; omega, by show 8 + (mc.2.2.1 + 11) + 40 * (d - 1) ≤ _; omega⟩)
    ⟨z_blind, va_recv C.2.2.2.2.2.2.2.2.1 hP hc hw, fun U hU hW => ⟨rfl, by rw [hU], by rw [hU]; exact hP, va_K.moved hW.alike C.2.2.2.2.2.2.2.2.1, hD.weaken (fun _ _ _ _ => trivial), z_Nw.warm hW C.2.2.2.2.2.2.2.2.2.2.2⟩⟩ rfl (by simp) hls rfl (lv_room hS8) hd ⟨hR3, hR4⟩
  refine va_calli hrun hS (fun q hq h => ?_) (fun q h => ?_) (fun r u t H1 locs1 ht hvm hp hB hz hk1 hS1 => ?_)
  · rcases h with ⟨o', ho, rfl⟩ | h
    · exact hD.2 o' _ (z_at ho)
    · omega
  · rcases h with ⟨o', ho, rfl⟩ | h
    · exact hD.2 o' _ (z_at ho)
    · exact C.2.2.2.2.2.2.2.2.2.1 q (Nat.le_trans hS.1 h)
  · exact kk r u H1 locs1 hp (by rw [← ht]; exact hB.1) (z_D_to hD hB.2.2) hS1 hz (fun q h1 h2 => hk1 q h1 (fun h => by
      rcases h with ⟨o', ho, e1⟩ | h
      · exact h2 o' ho e1
      · omega))
/-- a call that throws; the handler takes it -/
theorem y_callVt (C : z_Cx ⟨p, l, e, R, s, m, args, below, meth, c', ⟨cells, slots⟩, Qf, D, cy, ad, A, d, Po⟩ mi) {dc : Nat} {mc : zM} {o c n idx : Nat} {T : u_T} {As : List zV} {st : List Value} (hm : y_Ct dc mc (.inr o :: As) σ) (hfl : l.flags = flags0) (hdp : dc < d) (hk : z_kd o = (c, n)) (hc9 : c < 9) (hc : zC[c]? = some (mc.1.cls, T, n)) (hml : Cond.methodLink mi.1.cls idx mc.1 ∈ zTB) (hmv : z_mv mc As.length) (hd : decode mi.2.1 pc = .ok (.invokevirtual idx, 3)) (hst : st = (As.map (z_en ad)).reverse ++ .ref (ad o) :: rest) (hS8 : (rest.map fun v => v.category).sum ≤ 8) (hP : va_P D zC (z_ws cy ad σ) H) (hD : va_D A (z_ws cy ad σ)) (hS : va_S A s.heap H locs) (hls : ls.size = mi.2.2.1)
    (hX : yX A s) (hc1 : cells + 1 ≤ R.cells) (hc6 : slots + 6 ≤ R.slots) {hp ct lo hi : Nat} (htab : c'.exceptionTable.toList.map (fun h => (h.startPc, h.endPc, h.handlerPc, h.catchType)) = [(lo, hi, hp, ct)]) (hlo : lo ≤ pc ∧ pc < hi) (hct : ct ≠ 0) (hcl : Cond.classLink mi.1.cls ct yN ∈ zTB)
    (kk : ∀ xa H1 locs1, va_P D zC (z_ws cy ad σ) H1 → va_D A (z_ws cy ad σ) → va_S A s.heap H1 locs1 → H.size ≤ H1.size → (∀ q, q < H.size → (∀ o, o < zK → q ≠ ad o) → H1[q]? = H[q]?) → W p l e R s m args below meth c' H1 locs1 (cells + 1) (slots + 6) Qf (F0 m hp ls [.ref xa])) : W p l e R s m args below meth c' H locs cells slots Qf (F0 m pc ls st) := by
  subst hst
  obtain ⟨⟨hin, hco, hde, h21⟩, him, hse⟩ := hmv
  obtain ⟨hR1, hR2, hR3, hR4⟩ := C.2.2.2.2.2.2.2.1
  have hw : (z_ws cy ad σ)[o]? = some (ad o, .inr (c, (List.range n).map (fun k => z_fv ad σ o c k))) := by rw [z_at (z_lt hk (by omega)), z_ob hk hc9]
  have hts := C.2.2.2.2.2.1
  have hK := C.2.2.2.2.2.2.2.2.1
  intro T₀ hT X
  subst hT
  obtain ⟨cellB, hcB, hoB, hclB⟩ := va_recv hK hP hc hw
  obtain ⟨mk, methM, hnamed, hmethM, hstM, habM⟩ := Cond.instanceMethod_spec (hts _ him)
  obtain ⟨methM', cM, hmethM', hcM, -, hlM, -, -, -, hsigM⟩ := Cond.code_spec hnamed (hts _ hco)
  cases hmethM.symm.trans hmethM'
  obtain ⟨c2, r2, m2, q1, q2, q3, q4, kP, hkP, hkPi⟩ := Cond.selects_spec (hts _ hse)
  cases hclB.symm.trans q1
  have hy : mc.1.cls ≠ "java/lang/invoke/MethodHandle" ∧ mc.1.cls ≠ "java/lang/invoke/VarHandle" := ⟨hde.1, hde.2.1⟩
  cases (State.methodFound?_of_named hnamed hy).symm.trans q2
  cases hnamed.symm.trans q3
  have hselP : selectMethod e.platform s.vm cellB.cls mk = .method mk := by rw [Launch.admits_selectMethod X.admits]; exact q4
  have hlen : (As.map (z_en ad)).length = methM.sig.parameters.length := by
    have h3 := hde.2.2
    rw [hsigM] at h3
    simpa using (Option.some.inj h3).symm
  obtain ⟨vm₁, X₁, hstep₁⟩ := X.invokevirtual C.1 C.2.2.2.2.1 (hts _ hml) hnamed hmethM hstM hkP hkPi hy (a := ad o) (cell := cellB) hcB
    (fun z h => by rw [h] at hoB; cases hoB) hselP hmethM habM hkP hkPi (g := F0 m pc ls ((As.map (z_en ad)).reverse ++ .ref (ad o) :: rest)) rfl (argsL := As.map (z_en ad)) (rest := rest) hlen rfl (by rw [C.2.1]; exact hd)
  -- the callee
  obtain ⟨kY, hkY, -⟩ := className_of_methodNamed (X₁.named hnamed)
  have wordAt : ∀ w ∈ zTB, w.before (Value.ref (ad o) :: As.map (z_en ad)).toArray (T₀.setVm vm₁) = true := fun w hw => word_at X₁.warmed (zi_good w hw).2 (hts w hw)
  have hinitY : kY.init = .initialized := Cond.initialized_spec (findClass_of_methodNamed (X₁.named hnamed)) hkY (wordAt _ hin)
  have hAt : At (T₀.setVm vm₁) m c' below := X₁.here
  obtain ⟨methY, cY, hmY, hcY, -, hlY, -, -, -, -⟩ := Cond.code_spec (X₁.named hnamed) (wordAt _ hco)
  have happ : (headSpec (z_wm mc) (yR (d - 1))).appliesLoose mc.1 e.platform ((T₀.setVm vm₁).calling (F0 m pc ls rest) mk (Value.ref (ad o) :: As.map (z_en ad)).toArray) = true :=
    Spec.appliesLoose_calling (g := F0 m pc ls rest) hAt (by rw [C.2.1]; exact hd) (X₁.named hnamed) hkY hinitY
      (X₁.room_calling (g := F0 m pc ls rest) (R' := yR (d - 1)) (by rw [C.2.2.2.1]; exact hls) hmY hcY (by show d - 1 + 1 ≤ _; omega) (by
        have e1 : 2 * (F0 m pc ls rest).monitorRoom = 0 := rfl
        have e2 : (yR (d - 1)).locals = 40 * (d - 1) := rfl
        have e3 : ((F0 m pc ls rest).stack.map fun v => v.category).sum ≤ 8 := hS8
        rw [hlY]
        omega) hc1 hc6)
      (atoms_intro fun w hw => (List.mem_cons.mp hw).elim (fun h => by rw [h]; exact wordAt _ hco) (fun h => wordAt w h))
  obtain ⟨mid, hmid⟩ := hAt.above
  have hfr : ((T₀.setVm vm₁).setTop (F0 m pc ls rest)).frames = (.java (F0 m pc ls rest) :: mid) ++ below := by rw [State.frames_setTop' _ hAt.top, hmid]; rfl
  have hAA : ∀ q, z_A ad T₀.heap.size q → A q := fun q h => by
    rcases h with ⟨o', ho, rfl⟩ | h
    · exact hD.2 o' _ (z_at ho)
    · exact C.2.2.2.2.2.2.2.2.2.1 q (Nat.le_trans hS.1 h)
  have hXc : yX (z_A ad T₀.heap.size) ((T₀.setVm vm₁).calling (F0 m pc ls rest) mk (Value.ref (ad o) :: As.map (z_en ad)).toArray) := hX.to (U := (T₀.setVm vm₁).calling (F0 m pc ls rest) mk (Value.ref (ad o) :: As.map (z_en ad)).toArray) X₁.warmed (fun q h1 h2 => hS.2.1 q h1 h2) hAA
  have hPc : z_Pc D cy ad (.inr o :: As) σ T₀.heap.size (Value.ref (ad o) :: As.map (z_en ad)).toArray (T₀.setVm vm₁) := ⟨rfl, rfl, hP, va_K.moved X₁.warmed.alike hK, hD.weaken (fun _ _ _ _ => trivial), z_Nw.warm (U := T₀.setVm vm₁) X₁.warmed C.2.2.2.2.2.2.2.2.2.2.2⟩
  obtain ⟨oc, t, hsteps, -, hend, x, rfl, ⟨ce, hce, hcv, hcc⟩, hB, hF, hWt, L, hsame, hL⟩ := Steps.callFree (hm (d - 1) (by omega) l hfl D cy ad T₀.heap.size) p X₁.admits X₁.cas X₁.clock (acts := []) hfr happ ⟨z_blind _ _ _ _ hPc, hXc⟩ trivial
  rw [State.frames_setTop' _ hAt.top] at hend
  have htl : (T₀.setVm vm₁).frames.tail = below := X₁.tail
  rw [htl] at hend
  obtain ⟨T', X', hW', hsame', ht⟩ := X₁.outOfThrown (g := F0 m pc ls rest) rfl hend hWt hsame
  have hh : T'.heap = t.heap := by rw [ht]; rfl
  have hv : T'.vm = t.vm := by rw [ht]; rfl
  -- the handler
  have hpl : e.platform.magicAccessors = ({} : Platform).magicAccessors := by rw [X.admits.platform]
  obtain ⟨cE, hcE, hln⟩ := Cond.classLink_spec C.2.2.2.2.1 (hts _ hcl) e.platform hpl
  obtain ⟨hg1, hw1, hr1⟩ := State.classEntry (e := e) X'.warmed hln
  obtain ⟨x0, hx0, hx1⟩ : ∃ x0 : ExceptionTableEntry, c'.exceptionTable.toList = [x0] ∧ (x0.startPc, x0.endPc, x0.handlerPc, x0.catchType) = (lo, hi, hp, ct) := by
    cases htl2 : c'.exceptionTable.toList with
    | nil => rw [htl2] at htab; cases htab
    | cons y ys =>
      rw [htl2, List.map_cons] at htab
      obtain ⟨e1, e2⟩ := List.cons.inj htab
      exact ⟨y, by rw [List.map_eq_nil_iff.mp e2], e1⟩
  have f1 : x0.startPc = lo := congrArg (fun q => q.1) hx1
  have f2 : x0.endPc = hi := congrArg (fun q => q.2.1) hx1
  have f3 : x0.handlerPc = hp := congrArg (fun q => q.2.2.1) hx1
  have f4 : x0.catchType = ct := congrArg (fun q => q.2.2.2) hx1
  have hal1 : T'.vm.Alike (T'.vm.noted m.cls ct (.cls cE)) := (Vm.Alike.refl T'.vm).noted _ _ _
  have hcc' : s.vm.findClass yN = some ce.cls := by
    have : ((T₀.setVm vm₁).calling (F0 m pc ls rest) mk (Value.ref (ad o) :: As.map (z_en ad)).toArray).vm.findClass yN = s.vm.findClass yN := X₁.warmed.alike.findClass yN none
    rw [← this]; exact hcc
  have eC : ce.cls = cE := Option.some.inj (hcc'.symm.trans hcE)
  have hfc : T'.vm.findClass yN = some cE := by rw [X'.warmed.alike.findClass]; exact hcE
  have hcast := Cond.castable_spec (hX.w (w := .castable yN yN) (by simp [yX_ws]) rfl args)
  obtain ⟨c3, c4, hc3, hc4, hasg⟩ := hcast
  cases Option.some.inj (hc3.symm.trans hcE)
  cases Option.some.inj (hc4.symm.trans hcE)
  have X2 := X'.noted hw1
  have keepH : ∀ q, q < T₀.heap.size → (∀ o, o < zK → q ≠ ad o) → T'.heap[q]? = T₀.heap[q]? := fun q h1 h2 => by
    rw [hh]
    exact hF.2 q h1 (fun h => by
      rcases h with ⟨o', ho, e1⟩ | h
      · exact h2 o' ho e1
      · exact absurd h (by show ¬ T₀.heap.size ≤ q; omega))
  have hS2 : va_S A s.heap T'.heap (locs ++ L) := by
    refine ⟨Nat.le_trans hS.1 (by rw [hh]; exact hF.1), fun q h1 h2 => ?_, fun q hq => ?_⟩
    · rw [hh, hF.2 q (Nat.lt_of_lt_of_le h1 hS.1) (fun h => h2 (hAA q h))]
      exact hS.2.1 q h1 h2
    · rcases List.mem_append.mp hq with h | h
      · exact hS.2.2 q h
      · exact hAA _ (hL q h)
  obtain ⟨t2, a1, b1⟩ := kk x T'.heap (locs ++ L) (by rw [hh]; exact hB.1) (z_D_to hD hB.2.2) hS2 (by rw [hh]; exact hF.1) keepH (T'.setVm (T'.vm.noted m.cls ct (.cls cE))) rfl X2
  refine ⟨t2, hstep₁ _ (fun acts => ?_), b1⟩
  rw [doInvoke_state]
  refine hsteps.trans ?_
  rw [ht]
  refine y_caught (meth := meth) (vm' := T'.vm.noted m.cls ct (.cls cE)) (g := F0 m pc ls rest) (a := x) X'.here X'.method' X'.code hx0 (by simp [covers, f1, f2]; exact hlo) (by rw [f4]; exact hct) (cE := cE) (cell := ce) (by rw [f4]; exact hg1) hal1 hal1.size_le (by rw [hh]; exact hce) (fun k h => by rw [hcv] at h; cases h) (by rw [eC]; exact Vm.classAt_of_findClass hfc) (Vm.classAt_of_findClass hfc) (by rw [eC, X'.warmed.alike.assignable]; exact hasg) ?_
  rw [f3]
  exact a1
end
