section
variable {p : Program} {l : Launch} {e : Env} {R : Room} {s : State} {m : MethodId} {args : Array Value} {below : List Frame} {meth : Method} {c : Code} {H : Heap} {locs : List Loc} {cells slots : Nat} {Q : State → Prop} {cc : ByteArray} {pc : Nat} {ls : Array Slot} {rest : List Value}
set_option maxHeartbeats 1000000 in
theorem y_multi (hexec : p.tables.exec = Jvm.exec) (hb : c.code = cc) {own : String} {index : Nat} (hown : s.vm.findClass own = some m.cls) (hcl : (Cond.classLink own index "[[I").before args s = true) {cA cI c0 : ClassId} {kA kI : Class} (hA : s.vm.findClass "[[I" = some cA) (hA1 : s.vm.classes[cA]? = some kA) (hA2 : kA.kind = .array cI (.array .int)) (hI1 : s.vm.classes[cI]? = some kI) (hI2 : kI.kind = .array c0 .int)
    {n k : Nat} (hn : n < 1000) (hk : k < 1000) (hcells : cells + (1 + n) ≤ R.cells) (hslots : slots + (n + n * k) ≤ R.slots) (hd : decode cc pc = .ok (.multianewarray index 2, 4))
    (kk : ∀ (H1 : Heap) (L : List Loc), H1.size = H.size + 1 + n → H1[H.size]? = some (yO cA n H.size n) → (∀ j, j < n → H1[H.size + 1 + j]? = some (arrV cI k (fun _ => .int 0))) → (∀ q, q < H.size → H1[q]? = H[q]?) → (∀ q ∈ L, q.base = H.size) → W p l e R s m args below meth c H1 (locs ++ L) (cells + 1 + n) (slots + n + n * k) Q (F0 m (pc + 4) ls (.ref H.size :: rest))) :
    W p l e R s m args below meth c H locs cells slots Q (F0 m pc ls (.int (nI k) :: .int (nI n) :: rest)) := by
  intro T hT X
  subst hT
  have hpl : e.platform.magicAccessors = ({} : Platform).magicAccessors := by rw [X.admits.platform]
  obtain ⟨c1, hc1, hln⟩ := Cond.classLink_spec hown hcl e.platform hpl
  cases hc1.symm.trans hA
  obtain ⟨hg1, hw1, hr1⟩ := State.classEntry (e := e) X.warmed hln
  generalize T.vm.noted m.cls index (.cls cA) = vm1 at hg1 hw1 hr1
  obtain ⟨kA', hkA', eA⟩ := hw1.alike.2.2 _ _ hA1
  obtain ⟨kI', hkI', eI⟩ := hw1.alike.2.2 _ _ hI1
  have X1 := X.noted hw1
  have hI := yT_I X1 cA cI n k n
  obtain ⟨⟨L, hL, XT⟩, hv, hu, hz, ho, hr, hqq⟩ := id hI
  obtain ⟨t, a1, b1⟩ := kk _ L hz ho hr hqq hL _ rfl XT
  refine ⟨t, ?_, b1⟩
  subst hb
  jvm_step X.here [hexec, hd]
  simp only [multianewarray.sem, wp_bind', Jvm.W.resolveClassAt_links (State.method?_setTop (F0 m pc ls (.int (nI k) :: .int (nI n) :: rest)) X.here.top) hg1]
  rw [Jvm.W.popN, if_neg (by decide)]
  refine ⟨F0 m pc ls (.int (nI k) :: .int (nI n) :: rest), State.topJava?_setTop' (s := T.setVm vm1) _ X.here.top, [.int (nI n), .int (nI k)], rest, rfl, rfl, ?_⟩
  simp only [List.mapM_cons, List.mapM_nil, wp_bind', wp_pure']
  have eS : ((T.setTop (F0 m pc ls (.int (nI k) :: .int (nI n) :: rest))).setVm vm1).setTop (F0 m pc ls rest) = (T.setVm vm1).setTop (F0 m pc ls rest) := by
    show ((T.setVm vm1).setTop _).setTop _ = _
    rw [State.setTop_setTop]
  rw [show ({ F0 m pc ls (.int (nI k) :: .int (nI n) :: rest) with stack := rest } : JFrame) = F0 m pc ls rest from rfl, eS]
  refine y_wpRows X1 (g := F0 m pc ls rest) (kA := kA') (kI := kI') (cc := c0) hkA' (by rw [eA]; exact hA2) hkI' (by rw [eI]; exact hI2) hn hk hcells hslots (fun d' acts' => ?_)
  simp only [wp_bind', Jvm.W.mark, Jvm.W.pushRef, State.topJava?_setTop' _ XT.here.top, Option.some.injEq, exists_eq_left', State.setTop_setTop, State.heap_setTop]
  intro acts
  simp [jvm, XT.here.top]
  exact a1
end
