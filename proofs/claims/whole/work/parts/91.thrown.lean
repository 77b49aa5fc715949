/-! a method that throws: its walk and its contract -/
/-- behind the throw of x -/
def yTX (x : Addr) (D : va_G) (cy : Nat → ClassId) (ad : Nat → Nat) (A : Nat → Prop) (σ : zS) (s : State) (cells slots : Nat) (t : State) : Prop :=
  (∃ ce, t.heap[x]? = some ce ∧ ce.vm = .none ∧ s.vm.findClass yN = some ce.cls) ∧ z_B D cy ad A σ t ∧ va_F A s t ∧ s.WarmedH t.vm ∧ ∃ L, s.sameButNew ({ t with vm := s.vm } : State) L cells slots ∧ ∀ q ∈ L, A q.base
def z_TH : zG → zS → Prop := fun ⟨p, l, e, R, s, m, args, below, meth, c, ⟨cells, slots⟩, Qf, D, cy, ad, A, d, Po⟩ σ => l.flags = flags0 ∧ l.admits e ∧ yX A s ∧ cells + 1 ≤ R.cells ∧ slots + 6 ≤ R.slots ∧ 6 ≤ d ∧ c.exceptionTable.isEmpty = true ∧ ∀ t x, t.status = .running → Ended t below (.threw x) → yTX x D cy ad A σ s (cells + 1) (slots + 6) t → Qf t
section
variable {p : Program} {l : Launch} {e : Env} {R : Room} {s : State} {m : MethodId} {args : Array Value} {below : List Frame} {meth : Method} {c : Code} {H : Heap} {locs : List Loc} {cells slots : Nat} {Q : State → Prop} {cc : ByteArray} {pc : Nat} {ls : Array Slot} {rest : List Value}
theorem y_ldcS (hexec : p.tables.exec = Jvm.exec) (hb : c.code = cc) {own tx : String} {k a : Nat} (hown : s.vm.findClass own = some m.cls) (hR : vk_R own k tx a s) (hd : decode cc pc = .ok (.ldc k, 2)) (kk : W p l e R s m args below meth c H locs cells slots Q (F0 m (pc + 2) ls (.ref a :: rest))) : W p l e R s m args below meth c H locs cells slots Q (F0 m pc ls rest) := by
  intro T hT X
  obtain ⟨t, a1, b1⟩ := kk T hT X
  exact ⟨t, X.ldcString hexec (own := own) (text := tx) (index := k) (a := a) hown hR.1 hR.2 (g := F0 m pc ls rest) rfl (by rw [hb]; exact hd) t a1, b1⟩
theorem y_ldcWS (hexec : p.tables.exec = Jvm.exec) (hb : c.code = cc) {own tx : String} {k a : Nat} (hown : s.vm.findClass own = some m.cls) (hR : vk_R own k tx a s) (hd : decode cc pc = .ok (.ldc_w k, 3)) (kk : W p l e R s m args below meth c H locs cells slots Q (F0 m (pc + 3) ls (.ref a :: rest))) : W p l e R s m args below meth c H locs cells slots Q (F0 m pc ls rest) := by
  intro T hT X
  obtain ⟨t, a1, b1⟩ := kk T hT X
  exact ⟨t, X.ldcStringW hexec (own := own) (text := tx) (index := k) (a := a) hown hR.1 hR.2 (g := F0 m pc ls rest) rfl (by rw [hb]; exact hd) t a1, b1⟩
end
theorem yX_in {w : Cond} (h : w ∈ yX_ws) : w ∈ yX_ws := h
section
variable {Γ : zG} {mi : zM} {pc : Nat} {L : List (Option zV)} {σ : zS}
set_option maxHeartbeats 1000000 in
theorem zj_throwAt {p : Program} {l : Launch} {e : Env} {R : Room} {s : State} {m : MethodId} {args : Array Value} {below : List Frame} {meth : Method} {c : Code} {cells slots : Nat} {Qf : State → Prop} {D : va_G} {cy : Nat → ClassId} {ad : Nat → Nat} {A : Nat → Prop} {d : Nat} {Po : Option Int32 → zS → Prop}
    (hT : z_TH ⟨p, l, e, R, s, m, args, below, meth, c, ⟨cells, slots⟩, Qf, D, cy, ad, A, d, Po⟩ σ) (hcls : mi.1.cls = zr_Walls) (d6 : decode mi.2.1 pc = .ok (.invokespecial 144, 3)) (d9 : decode mi.2.1 (pc + 3) = .ok (.athrow, 1))
    (C : z_Cx ⟨p, l, e, R, s, m, args, below, meth, c, ⟨cells, slots⟩, Qf, D, cy, ad, A, d, Po⟩ mi) {H : Heap} {locs : List Loc} {ls : Array Slot} (hP : va_P D zC (z_ws cy ad σ) H) (hD : va_D A (z_ws cy ad σ)) (hS : va_S A s.heap H locs) (hls : ls.size = mi.2.2.1)
    {cX : ClassId} {kX : Class} (h1 : s.vm.findClass yN = some cX) (h2 : s.vm.classes[cX]? = some kX) {sa : Addr} :
    W p l e R s m args below meth c (H.push { cls := cX, slots := kX.instanceTypes.map defaultValue, vm := .none }) locs (cells + 1) (slots + 6) Qf (F0 m pc ls [.ref sa, .ref H.size, .ref H.size]) := by
  obtain ⟨t1, t2, t3, t4, t5, t6, t7, t8⟩ := hT
  obtain ⟨hR1, hR2, hR3, hR4⟩ := C.2.2.2.2.2.2.2.1
  intro T hTH X
  have hsz : T.heap.size = H.size + 1 := by rw [hTH]; simp
  have hold : ∀ q, q < H.size → T.heap[q]? = H[q]? := fun q hq => by rw [hTH, Array.getElem?_push, if_neg (by omega)]
  have hcell : T.heap[H.size]? = some (freshCell cX kX) := by rw [hTH, Array.getElem?_push, if_pos rfl]
  obtain ⟨vm', ce, L5, X', hL5, e1, e2, st⟩ := y_made (A := A) X C.1 (Launch.traces_off t1 t2) (by rw [← hcls]; exact C.2.2.2.2.1) t3 (fun q h1 h2 => by rw [hold q (Nat.lt_of_lt_of_le h1 hS.1)]; exact hS.2.1 q h1 h2) h1 h2 hcell hS.1 (msg := .ref sa) rfl
    (g := F0 m pc ls [.ref sa, .ref H.size, .ref H.size]) rfl (by rw [C.2.2.2.1]; exact hls) (rest := [.ref H.size]) rfl (by rw [C.2.1]; exact d6) (by omega) (by simp [Value.category]; omega)
  obtain ⟨hwalk, hrun, hended, hW, hsame⟩ := X'.athrowLeaves C.1 (g := F0 m (pc + 3) ls [.ref H.size]) rfl rfl rfl (covers_of_empty t7 _) (a := H.size) (rest := []) rfl (by rw [C.2.1]; exact d9) C.2.2.2.2.2.2.1
  have hheap : ((((T.setVm vm').setCell H.size ce).setFrames (.throwing H.size :: below))).heap = T.heap.setIfInBounds H.size ce := rfl
  have hq : ∀ q, q < H.size → ((((T.setVm vm').setCell H.size ce).setFrames (.throwing H.size :: below))).heap[q]? = H[q]? := fun q hq => by
    rw [hheap, Array.getElem?_setIfInBounds, if_neg (by omega)]; exact hold q hq
  refine ⟨_, st _ hwalk, t8 _ _ hrun hended ⟨⟨ce, ?_, e2, by rw [e1]; exact h1⟩, ⟨hP.kept (fun k q hk => hq _ (hP k q hk).lt), va_K.moved hW.alike C.2.2.2.2.2.2.2.2.1, hD⟩, ⟨?_, fun q g1 g2 => ?_⟩, hW, _, hsame, ?_⟩⟩
  · rw [hheap, Array.getElem?_setIfInBounds, if_pos rfl, if_pos (by rw [hsz]; omega)]
  · rw [hheap, Array.size_setIfInBounds, hsz]; have := hS.1; omega
  · rw [hq q (Nat.lt_of_lt_of_le g1 hS.1)]; exact hS.2.1 q g1 g2
  · intro q hq
    rcases List.mem_append.mp hq with h | h
    · exact hS.2.2 q h
    · rw [hL5 q h]; exact C.2.2.2.2.2.2.2.2.2.1 _ hS.1
theorem zj_throw {k : Nat} {tx : String} (hT : z_TH Γ σ) (hcls : mi.1.cls = zr_Walls) (hs : (k, tx) ∈ yX_str) (d0 : decode mi.2.1 pc = .ok (.new 140, 3)) (d3 : decode mi.2.1 (pc + 3) = .ok (.dup, 1)) (d4 : decode mi.2.1 (pc + 4) = .ok (.ldc k, 2)) (d6 : decode mi.2.1 (pc + 6) = .ok (.invokespecial 144, 3)) (d9 : decode mi.2.1 (pc + 9) = .ok (.athrow, 1)) : z_J Γ mi pc L [] σ := by
  obtain ⟨p, l, e, R, s, m, args, below, meth, c', ⟨cells, slots⟩, Qf, D, cy, ad, A, d, Po⟩ := Γ
  intro C H locs ls hP hD hS hls
  have hT' := hT
  obtain ⟨t1, t2, t3, t4, t5, t6, t7, t8⟩ := hT
  obtain ⟨sa, hsa⟩ := t3.2.1 _ hs
  have hown : s.vm.findClass zr_Walls = some m.cls := by rw [← hcls]; exact C.2.2.2.2.1
  refine W.newc (C := yN) (n := 6) C.1 C.2.1 hown (t3.w (w := .classLink zr_Walls 140 yN) (by simp [yX_ws]) rfl args) (t3.w (w := .instantiable yN 6) (by simp [yX_ws]) rfl args) (t3.w (w := .initialized yN) (by simp [yX_ws]) rfl args) rfl d0 t4 t5 (fun cX kX h1 h2 h3 h4 => ?_)
  refine lv_dup C.1 C.2.1 d3 rfl ?_
  refine y_ldcS C.1 C.2.1 hown hsa d4 ?_
  exact zj_throwAt hT' hcls d6 d9 C hP hD hS hls.1 h1 h2
theorem zj_throwW {k : Nat} {tx : String} (hT : z_TH Γ σ) (hcls : mi.1.cls = zr_Walls) (hs : (k, tx) ∈ yX_str) (d0 : decode mi.2.1 pc = .ok (.new 140, 3)) (d3 : decode mi.2.1 (pc + 3) = .ok (.dup, 1)) (d4 : decode mi.2.1 (pc + 4) = .ok (.ldc_w k, 3)) (d6 : decode mi.2.1 (pc + 7) = .ok (.invokespecial 144, 3)) (d9 : decode mi.2.1 (pc + 10) = .ok (.athrow, 1)) : z_J Γ mi pc L [] σ := by
  obtain ⟨p, l, e, R, s, m, args, below, meth, c', ⟨cells, slots⟩, Qf, D, cy, ad, A, d, Po⟩ := Γ
  intro C H locs ls hP hD hS hls
  have hT' := hT
  obtain ⟨t1, t2, t3, t4, t5, t6, t7, t8⟩ := hT
  obtain ⟨sa, hsa⟩ := t3.2.1 _ hs
  have hown : s.vm.findClass zr_Walls = some m.cls := by rw [← hcls]; exact C.2.2.2.2.1
  refine W.newc (C := yN) (n := 6) C.1 C.2.1 hown (t3.w (w := .classLink zr_Walls 140 yN) (by simp [yX_ws]) rfl args) (t3.w (w := .instantiable yN 6) (by simp [yX_ws]) rfl args) (t3.w (w := .initialized yN) (by simp [yX_ws]) rfl args) rfl d0 t4 t5 (fun cX kX h1 h2 h3 h4 => ?_)
  refine lv_dup C.1 C.2.1 d3 rfl ?_
  refine y_ldcWS C.1 C.2.1 hown hsa d4 ?_
  exact zj_throwAt hT' hcls d6 d9 C hP hD hS hls.1 h1 h2
end
def yR (d : Nat) : Room := { frames := d, cells := 1, slots := 6, locals := 40 * d }
/-- the contract of a method that throws: nothing of the world changes -/
def y_Ct (dc : Nat) (mc : zM) (av : List zV) (σ : zS) : Prop := ∀ (d : Nat), dc ≤ d → ∀ (l : Launch), l.flags = flags0 → ∀ (D : va_G) (cy : Nat → ClassId) (ad : Nat → Nat) (sz : Nat), MetFree l mc.1 (headSpec (z_wm mc) (yR d)) (fun a U => z_Pc D cy ad av σ sz a U ∧ yX (z_A ad sz) U) (fun _ _ _ _ _ => True) (fun _ st o t => ∃ x, o = .threw x ∧ yTX x D cy ad (z_A ad sz) σ st 1 6 t)
theorem y_Ct_of {dc : Nat} {mc : zM} {av : List zV} {σ : zS} (hp : plainName mc.1.cls = true) (hav : av.length ≤ mc.2.2.1) (h6 : 6 ≤ dc) (h : ∀ Γ : zG, dc ≤ z_dep Γ → z_TH Γ σ → z_J Γ mc 0 (av.map some ++ List.replicate (mc.2.2.1 - av.length) none) [] σ) : y_Ct dc mc av σ := by
  intro d hd l hl D cy ad sz
  refine MetFree.of_bodyS (code := mc.2.1) (maxLocals := mc.2.2.1) (ret := mc.2.2.2) hp ?_ ?_
  · intro args s m h hn
    obtain ⟨meth, c, h1, h2, h3, h4, h5, h6, -, -⟩ := Cond.code_spec hn (atoms_spec (ws := z_wm mc) h _ List.mem_cons_self)
    exact ⟨meth, c, h1, h2, h3, h4, h5, h6⟩
  · intro p e s m args below meth c s₁ B hml hv _
    obtain ⟨⟨rfl, hsz, hP, hK, hD0, hN⟩, hX⟩ := hv
    subst hsz
    have hts := atoms_spec (ws := z_wm mc) B.pre
    have hown := findClass_of_methodNamed B.named
    have X₀ := Stand.of_body B
    have hh0 : s₁.heap = s.heap := by rw [B.state]; rfl
    have key := h ⟨p, l, e, (headSpec (z_wm mc) (yR d)).room, s, m, _, below, meth, c, ⟨0, 0⟩, fun t => ∃ x, t.status = .running ∧ Ended t below (.threw x) ∧ yTX x D cy ad (z_A ad s.heap.size) σ s 1 6 t, D, cy, ad, z_A ad s.heap.size, d, fun _ _ => False⟩ hd
      ⟨hl, X₀.admits, hX, Nat.le_refl 1, Nat.le_refl 6, (show 6 ≤ d by omega), B.noHandlers (hts _ List.mem_cons_self), fun t x h1 h2 h3 => ⟨x, h1, h2, h3⟩⟩
      ⟨B.exec, B.bytes, B.returns, hml, hown, fun w hw => hts w (List.mem_cons_of_mem _ hw), B.notSynchronized, ⟨(show d ≤ d from Nat.le_refl d), (show 40 * d ≤ 40 * d from Nat.le_refl _), Nat.zero_le _, Nat.zero_le _⟩, hK, fun q hq => Or.inr hq, fun t ht => by obtain ⟨o, h1, h2, ⟨⟨r, u, ho, hf, hb⟩, hF⟩, h4⟩ := ht; exact hf.elim, hN⟩ s.heap [] _ hP (z_D_A hD0) va_S.rf (z_lk.entry hav)
    obtain ⟨t, a1, x, b1, b2, b3⟩ := key s₁ hh0 X₀
    rw [lg_entry_eq]
    exact ⟨t, .threw x, a1, b1, b2, x, rfl, b3⟩
