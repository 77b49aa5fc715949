section
variable {p : Program} {l : Launch} {e : Env} {R : Room} {s : State} {m : MethodId} {args : Array Value} {below : List Frame} {meth : Method} {c : Code} {Qf : State → Prop} {D : va_G} {cy : Nat → ClassId} {h0 ci d : Nat} {mi : zM} {pc : Nat} {st fs : List Value} {ws : va_W} {N M : Nat}
theorem yP_blind {sz : Nat} {bl : List Value} : FrameBlind (yPc D cy h0 sz ci bl) := by
  intro a U g mk q
  obtain ⟨q0, q1, q2, qP, qK, qV⟩ := q
  exact ⟨q0, q1, q2, qP, va_K.moved (u := U) (U := U.calling g mk a) (Vm.Alike.refl U.vm) qK, fun w hw => va_Nw.same (yN_on w hw) (u := U) rfl (qV.1 w hw), qV.2⟩
/-- behind the call of a constructor -/
theorem y_newBack {ci' N' M' : Nat} {fs' : Nat → List Value} {ws' : (Nat → ClassId) → Nat → va_W} {n' pc2 : Nat} (C : yCx p l e R s m args meth c D cy h0 ci d mi) {H : Heap} {locs : List Loc} {ls : Array Slot} (a1 : H.size = s.heap.size + (N + 1)) (a2 : va_P D zC [(h0, .inr (ci, fs))] H) (a3 : va_P D zC ws H) (a4 : ∀ q ∈ ws, s.heap.size ≤ q.1 ∧ q.1 < s.heap.size + N) (a5 : ∀ q, q < s.heap.size → q ≠ h0 → H[q]? = s.heap[q]?) (a6 : ∀ x ∈ locs, x.base = h0) (a7 : lv_has ls mi.2.2.1 [(0, .ref h0)])
    (hrun : va_Run p l e R s m args below meth c H locs (N + 1) (M + n') N' M' (F0 m pc2 ls (.ref (s.heap.size + N) :: .ref (s.heap.size + N) :: st)) (.ref (s.heap.size + N) :: st) (yQc D (s.heap.size + N) (s.heap.size + N + 1) ci' (fs' (s.heap.size + N + 1)) (ws' cy (s.heap.size + N + 1)) N' [Value.ref (s.heap.size + N)].toArray) (fun q => q = s.heap.size + N ∨ s.heap.size + N + 1 ≤ q))
    (k : yJ p l e R s m args below meth c Qf D h0 ci mi.2.2.1 (pc2 + 3) (.ref (s.heap.size + N) :: st) fs (ws ++ (s.heap.size + N, .inr (ci', fs' (s.heap.size + N + 1))) :: ws' cy (s.heap.size + N + 1)) (N + 1 + N') (M + n' + M')) : W p l e R s m args below meth c H locs (N + 1) (M + n') Qf (F0 m pc2 ls (.ref (s.heap.size + N) :: .ref (s.heap.size + N) :: st)) := by
  intro T hT X
  obtain ⟨v, st₀, t, T', L, g0, X', hL, e1, e2, ⟨hv, hz, hP, hPw, hb, hk⟩, go⟩ := hrun T hT X
  cases hv
  rw [g0] at hk
  have h0lt := C.2.2.2.2.2.2.2.2.2.1
  have hold : ∀ q, q < s.heap.size + N → T'.heap[q]? = H[q]? := fun q hq => by rw [e1]; exact hk q (by omega) (by omega)
  have X2 := Stand.forget (extra := L) X' (fun q hq => by have h : q.base = s.heap.size + N ∨ s.heap.size + N + 1 ≤ q.base := hL q hq; exact h.elim (fun h => by rw [h]; exact Nat.le_add_right _ _) (fun h => Nat.le_trans (by rw [Nat.add_assoc]; exact Nat.le_add_right _ _) h))
  have p3 : va_P D zC (ws ++ (s.heap.size + N, .inr (ci', fs' (s.heap.size + N + 1))) :: ws' cy (s.heap.size + N + 1)) T'.heap := by
    refine (a3.stay (fun q hq => hold _ (a4 q hq).2)).app (fun i q hq => ?_)
    rw [e1]
    cases i with
    | zero => cases hq; exact hP.one
    | succ i => exact hPw i q hq
  have p4 : ∀ q ∈ ws ++ (s.heap.size + N, .inr (ci', fs' (s.heap.size + N + 1))) :: ws' cy (s.heap.size + N + 1), s.heap.size ≤ q.1 ∧ q.1 < s.heap.size + (N + 1 + N') := fun q hq => by
    rcases List.mem_append.mp hq with h | h
    · have := a4 q h; omega
    · rcases List.mem_cons.mp h with rfl | h
      · exact ⟨by show _ ≤ s.heap.size + N; omega, by show s.heap.size + N < _; omega⟩
      · have := hb q h; omega
  obtain ⟨t2, b1, b2⟩ := k T'.heap locs ls (by rw [e1, hz]; omega) (a2.stay (fun q hq => by rw [List.mem_singleton.mp hq]; exact hold h0 (by omega))) p3 p4 (fun q c1 c2 => by rw [hold q (by omega)]; exact a5 q c1 c2) a6 a7 T' rfl X2
  exact ⟨t2, go t2 b1, b2⟩
/-- an object is made, by a constructor that a nest mate keeps to itself -/
theorem yj_newN {dc : Nat} {mc : zM} {ci' N' M' n' : Nat} {bl' : List Value} {fs' : Nat → List Value} {ws' : (Nat → ClassId) → Nat → va_W} {T' : u_T} {ty' : Nat → FieldType} {i1 i2 : Nat} (C : yCx p l e R s m args meth c D cy h0 ci d mi) (hm : yCt dc mc ci' bl' fs' ws' N' M') (hdp : dc < d) (hname : mc.1.name = "<init>") (hret : mc.2.2.2 = none) (hcz : zC[ci']? = some (mc.1.cls, T', n')) (hu : ∀ w ∈ u_ws mc.1.cls T' n', w ∈ zTB) (hty : ∀ k, k < n' → parseFieldDescriptor (T' k).2.2.1 = some (ty' k)) (hbl : ∀ j, j < n' → defaultValue (ty' j) = vp_V bl' j)
    (hl1 : Cond.classLink mi.1.cls i1 mc.1.cls ∈ zTB) (hl2 : Cond.instantiable mc.1.cls n' ∈ zTB) (hmb : z_mb mc 0) (him : Cond.instanceMethod mc.1 ∈ zTB) (hN : Cond.methodLinkNest mi.1.cls i2 mc.1 "WallsOfBooks" ∈ yN_all) (hS8 : ((Value.ref 0 :: st).map fun v => v.category).sum ≤ 8) (hc : N + 1 + N' ≤ R.cells) (hs : M + n' + M' ≤ R.slots)
    (d0 : decode mi.2.1 pc = .ok (.new i1, 3)) (d3 : decode mi.2.1 (pc + 3) = .ok (.dup, 1)) (d4 : decode mi.2.1 (pc + 4) = .ok (.invokespecial i2, 3))
    (k : yJ p l e R s m args below meth c Qf D h0 ci mi.2.2.1 (pc + 7) (.ref (s.heap.size + N) :: st) fs (ws ++ (s.heap.size + N, .inr (ci', fs' (s.heap.size + N + 1))) :: ws' cy (s.heap.size + N + 1)) (N + 1 + N') (M + n' + M')) : yJ p l e R s m args below meth c Qf D h0 ci mi.2.2.1 pc st fs ws N M := by
  intro H locs ls a1 a2 a3 a4 a5 a6 a7
  have hK := C.2.2.2.2.2.2.2.2.1
  have hKn := hK.1 ci' _ hcz
  have h0lt := C.2.2.2.2.2.2.2.2.2.1
  obtain ⟨b1, b2, b3⟩ := C.2.2.2.2.2.2.2.2.2.2.1
  obtain ⟨hin, hco, hde, h21⟩ := hmb
  have hco' : Cond.code mc.1 mc.2.1 mc.2.2.1 none ∈ zTB := by rw [← hret]; exact hco
  refine W.newcK (n := n') C.1 C.2.1 C.2.2.2.2.1 (C.2.2.2.2.2.1 _ hl1) (C.2.2.2.2.2.1 _ hl2) (C.2.2.2.2.2.1 _ hin) rfl d0 (by omega) (by omega) hKn.2.1 a1 (fun H1 kC hkC e1 z1 o1 => ?_)
  refine lv_dup C.1 C.2.1 d3 rfl ?_
  have hnew : va_P D zC [(s.heap.size + N, .inr (ci', bl'))] H1 := va_P1 ⟨_, hcz, (u_born ty' C.2.2.2.2.2.1 hu hKn hkC e1 hty).to hbl⟩
  have g3 : va_P D zC ws H1 := a3.stay (fun q hq => o1 _ (a4 q hq).2)
  have g2 : va_P D zC [(h0, .inr (ci, fs))] H1 := a2.stay (fun q hq => by rw [List.mem_singleton.mp hq]; exact o1 h0 (by omega))
  have hws : z_wm mc = Cond.code mc.1 mc.2.1 mc.2.2.1 none :: zTB := by unfold z_wm; rw [hret]
  have hrun := va_runIN (p := p) (l := l) (e := e) (R := R) (s := s) (m := m) (args := args) (below := below) (meth := meth) (c := c) (H := H1) (locs := locs) (cells := N + 1) (slots := M + n') (host := "WallsOfBooks") (index := i2) (As := []) (rest := .ref (s.heap.size + N) :: st) (b := s.heap.size + N) (g := F0 m (pc + 4) ls (.ref (s.heap.size + N) :: .ref (s.heap.size + N) :: st)) ⟨C.1, C.2.1, C.2.2.2.1, C.2.2.2.2.1, C.2.2.2.2.2.1⟩ (hm l D cy (s.heap.size + N) (s.heap.size + N + 1))
    ⟨va_cnB (R := R) 0 C.2.2.2.2.2.1 (z_gin (z_wsub hco)) hws rfl rfl (C.2.2.2.2.2.2.2.2.2.2.2.1 _ hN) (C.2.2.2.2.2.1 _ hin) hde ⟨by show dc + 1 ≤ _; omega, by show 8 + (mc.2.2.1 + 11) + 40 * dc ≤ _; omega⟩, hname, C.2.2.2.2.2.1 _ him⟩
    ⟨yP_blind, fun U hU hW => ⟨rfl, by rw [hU]; omega, by omega, by rw [hU]; exact hnew, va_K.moved hW.alike hK, yV.warm hW C.2.2.2.2.2.2.2.2.2.2.2⟩⟩ rfl rfl a7.1 rfl (lv_room (by simpa [Value.category] using hS8)) d4 ⟨by omega, by omega⟩
  exact y_newBack (pc2 := pc + 4) C (by omega) g2 g3 a4 (fun q c1 c2 => by rw [o1 q (by omega)]; exact a5 q c1 c2) a6 a7 hrun k
/-- an object is made -/
theorem yj_newI {dc : Nat} {mc : zM} {ci' N' M' n' : Nat} {bl' : List Value} {fs' : Nat → List Value} {ws' : (Nat → ClassId) → Nat → va_W} {T' : u_T} {ty' : Nat → FieldType} {i1 i2 : Nat} (C : yCx p l e R s m args meth c D cy h0 ci d mi) (hm : yCt dc mc ci' bl' fs' ws' N' M') (hdp : dc < d) (hname : mc.1.name = "<init>") (hret : mc.2.2.2 = none) (hcz : zC[ci']? = some (mc.1.cls, T', n')) (hu : ∀ w ∈ u_ws mc.1.cls T' n', w ∈ zTB) (hty : ∀ k, k < n' → parseFieldDescriptor (T' k).2.2.1 = some (ty' k)) (hbl : ∀ j, j < n' → defaultValue (ty' j) = vp_V bl' j)
    (hl1 : Cond.classLink mi.1.cls i1 mc.1.cls ∈ zTB) (hl2 : Cond.instantiable mc.1.cls n' ∈ zTB) (hmb : z_mb mc 0) (him : Cond.instanceMethod mc.1 ∈ zTB) (hN : Cond.methodLink mi.1.cls i2 mc.1 ∈ zTB) (hS8 : ((Value.ref 0 :: st).map fun v => v.category).sum ≤ 8) (hc : N + 1 + N' ≤ R.cells) (hs : M + n' + M' ≤ R.slots)
    (d0 : decode mi.2.1 pc = .ok (.new i1, 3)) (d3 : decode mi.2.1 (pc + 3) = .ok (.dup, 1)) (d4 : decode mi.2.1 (pc + 4) = .ok (.invokespecial i2, 3))
    (k : yJ p l e R s m args below meth c Qf D h0 ci mi.2.2.1 (pc + 7) (.ref (s.heap.size + N) :: st) fs (ws ++ (s.heap.size + N, .inr (ci', fs' (s.heap.size + N + 1))) :: ws' cy (s.heap.size + N + 1)) (N + 1 + N') (M + n' + M')) : yJ p l e R s m args below meth c Qf D h0 ci mi.2.2.1 pc st fs ws N M := by
  intro H locs ls a1 a2 a3 a4 a5 a6 a7
  have hK := C.2.2.2.2.2.2.2.2.1
  have hKn := hK.1 ci' _ hcz
  have h0lt := C.2.2.2.2.2.2.2.2.2.1
  obtain ⟨b1, b2, b3⟩ := C.2.2.2.2.2.2.2.2.2.2.1
  obtain ⟨hin, hco, hde, h21⟩ := hmb
  have hco' : Cond.code mc.1 mc.2.1 mc.2.2.1 none ∈ zTB := by rw [← hret]; exact hco
  refine W.newcK (n := n') C.1 C.2.1 C.2.2.2.2.1 (C.2.2.2.2.2.1 _ hl1) (C.2.2.2.2.2.1 _ hl2) (C.2.2.2.2.2.1 _ hin) rfl d0 (by omega) (by omega) hKn.2.1 a1 (fun H1 kC hkC e1 z1 o1 => ?_)
  refine lv_dup C.1 C.2.1 d3 rfl ?_
  have hnew : va_P D zC [(s.heap.size + N, .inr (ci', bl'))] H1 := va_P1 ⟨_, hcz, (u_born ty' C.2.2.2.2.2.1 hu hKn hkC e1 hty).to hbl⟩
  have g3 : va_P D zC ws H1 := a3.stay (fun q hq => o1 _ (a4 q hq).2)
  have g2 : va_P D zC [(h0, .inr (ci, fs))] H1 := a2.stay (fun q hq => by rw [List.mem_singleton.mp hq]; exact o1 h0 (by omega))
  have hws : z_wm mc = Cond.code mc.1 mc.2.1 mc.2.2.1 none :: zTB := by unfold z_wm; rw [hret]
  have hrun := va_runI (p := p) (l := l) (e := e) (R := R) (s := s) (m := m) (args := args) (below := below) (meth := meth) (c := c) (H := H1) (locs := locs) (cells := N + 1) (slots := M + n') (index := i2) (As := []) (rest := .ref (s.heap.size + N) :: st) (b := s.heap.size + N) (g := F0 m (pc + 4) ls (.ref (s.heap.size + N) :: .ref (s.heap.size + N) :: st)) ⟨C.1, C.2.1, C.2.2.2.1, C.2.2.2.2.1, C.2.2.2.2.2.1⟩ (hm l D cy (s.heap.size + N) (s.heap.size + N + 1))
    (cwI (R := R) 0 C.2.2.2.2.2.1 (z_gin (z_wsub hco)) hws rfl rfl (C.2.2.2.2.2.1 _ hin) (C.2.2.2.2.2.1 _ hN) (C.2.2.2.2.2.1 _ him) hname hde ⟨by show dc + 1 ≤ _; omega, by show 8 + (mc.2.2.1 + 11) + 40 * dc ≤ _; omega⟩)
    ⟨yP_blind, fun U hU hW => ⟨rfl, by rw [hU]; omega, by omega, by rw [hU]; exact hnew, va_K.moved hW.alike hK, yV.warm hW C.2.2.2.2.2.2.2.2.2.2.2⟩⟩ rfl rfl a7.1 rfl (lv_room (by simpa [Value.category] using hS8)) d4 ⟨by omega, by omega⟩
  exact y_newBack (pc2 := pc + 4) C (by omega) g2 g3 a4 (fun q c1 c2 => by rw [o1 q (by omega)]; exact a5 q c1 c2) a6 a7 hrun k
end
