theorem va_P_left {D : va_G} {A B : va_W} {H : Heap} (h : va_P D zC (A ++ B) H) : va_P D zC A H := fun i q hq => h i q (by rw [List.getElem?_append_left (List.getElem?_eq_some_iff.mp hq).1]; exact hq)
theorem va_P_right {D : va_G} {A B : va_W} {H : Heap} (h : va_P D zC (A ++ B) H) : va_P D zC B H := fun i q hq => h (A.length + i) q (by rw [List.getElem?_append_right (Nat.le_add_right _ _), Nat.add_sub_cancel_left]; exact hq)
section
variable {p : Program} {l : Launch} {e : Env} {s : State} {m : MethodId} {b : Nat} {below : List Frame} {meth : Method} {c : Code} {Qf : State → Prop} {D : va_G} {cy : Nat → ClassId} {cJ : ClassId} {L : Nat} {xs : Nat → Int32} {H : Heap} {ls : Array Slot} {st : List Value} {ws : va_W} {N M pc : Nat}
/-- the law makes an object -/
theorem l_new (S : lS p l e s m b below meth c Qf D cy cJ L xs) (hV : yV cy s) {dc : Nat} {mc : zM} {ci' N' M' n' : Nat} {bl' : List Value} {fs' : Nat → List Value} {ws' : (Nat → ClassId) → Nat → va_W} {T' : u_T} {ty' : Nat → FieldType} {i1 i2 : Nat} (hm : yCt dc mc ci' bl' fs' ws' N' M') (hdp : dc < 1000) (hname : mc.1.name = "<init>") (hret : mc.2.2.2 = none) (hcz : zC[ci']? = some (mc.1.cls, T', n')) (hu : ∀ w ∈ u_ws mc.1.cls T' n', w ∈ zTB) (hty : ∀ k, k < n' → parseFieldDescriptor (T' k).2.2.1 = some (ty' k)) (hbl : ∀ j, j < n' → defaultValue (ty' j) = vp_V bl' j)
    (hl1 : Cond.classLink "WallsOfBooksLaw" i1 mc.1.cls ∈ zTB) (hl2 : Cond.instantiable mc.1.cls n' ∈ zTB) (hmb : z_mb mc 0) (him : Cond.instanceMethod mc.1 ∈ zTB) (hN : Cond.methodLink "WallsOfBooksLaw" i2 mc.1 ∈ zTB) (hS8 : ((Value.ref 0 :: st).map fun v => v.category).sum ≤ 8) (hc : N + 1 + N' ≤ 601024) (hs : M + n' + M' ≤ 7293033)
    (d0 : decode code pc = .ok (.new i1, 3)) (d3 : decode code (pc + 3) = .ok (.dup, 1)) (d4 : decode code (pc + 4) = .ok (.invokespecial i2, 3))
    (a1 : H.size = s.heap.size + N) (a3 : va_P D zC ws H) (a4 : ∀ q ∈ ws, s.heap.size ≤ q.1 ∧ q.1 < s.heap.size + N) (a5 : ∀ q, q < s.heap.size → H[q]? = s.heap[q]?) (a7 : ls.size = 7)
    (k : ∀ H1 : Heap, H1.size = s.heap.size + (N + 1 + N') → va_P D zC (ws ++ (s.heap.size + N, .inr (ci', fs' (s.heap.size + N + 1))) :: ws' cy (s.heap.size + N + 1)) H1 → (∀ q ∈ ws ++ (s.heap.size + N, .inr (ci', fs' (s.heap.size + N + 1))) :: ws' cy (s.heap.size + N + 1), s.heap.size ≤ q.1 ∧ q.1 < s.heap.size + (N + 1 + N')) → (∀ q, q < s.heap.size → H1[q]? = s.heap[q]?) →
      W p l e room_1 s m #[Value.ref b] below meth c H1 [] (N + 1 + N') (M + n' + M') Qf (F0 m (pc + 7) ls (.ref (s.heap.size + N) :: st))) : W p l e room_1 s m #[Value.ref b] below meth c H [] N M Qf (F0 m pc ls st) := by
  have C := S.1 (N + 1 + N') (M + n' + M') hc hs
  have hK : va_K D zC (z_ty cy) s := C.2.2.2.2.2.2.2.2.1
  have hKn := hK.1 ci' _ hcz
  have hR : 2000 ≤ room_1.frames ∧ 40 * 2000 ≤ room_1.locals ∧ N + 1 + N' ≤ room_1.cells ∧ M + n' + M' ≤ room_1.slots := C.2.2.2.2.2.2.2.1
  obtain ⟨b1, b2, b3, b4⟩ := hR
  obtain ⟨hin, hco, hde, h21⟩ := hmb
  have hco' : Cond.code mc.1 mc.2.1 mc.2.2.1 none ∈ zTB := by rw [← hret]; exact hco
  refine W.newcK (n := n') C.1 C.2.1 C.2.2.2.2.1 (C.2.2.2.2.2.1 _ hl1) (C.2.2.2.2.2.1 _ hl2) (C.2.2.2.2.2.1 _ hin) rfl d0 (by omega) (by omega) hKn.2.1 a1 (fun H1 kC hkC e1 z1 o1 => ?_)
  refine lv_dup C.1 C.2.1 d3 rfl ?_
  have hnew : va_P D zC [(s.heap.size + N, .inr (ci', bl'))] H1 := va_P1 ⟨_, hcz, (u_born ty' C.2.2.2.2.2.1 hu hKn hkC e1 hty).to hbl⟩
  have g3 : va_P D zC ws H1 := a3.stay (fun q hq => o1 _ (a4 q hq).2)
  have hws : z_wm mc = Cond.code mc.1 mc.2.1 mc.2.2.1 none :: zTB := by unfold z_wm; rw [hret]
  have hrun := va_runI (p := p) (l := l) (e := e) (R := room_1) (s := s) (m := m) (args := #[Value.ref b]) (below := below) (meth := meth) (c := c) (H := H1) (locs := []) (cells := N + 1) (slots := M + n') (index := i2) (As := []) (rest := .ref (s.heap.size + N) :: st) (b := s.heap.size + N) (g := F0 m (pc + 4) ls (.ref (s.heap.size + N) :: .ref (s.heap.size + N) :: st)) ⟨C.1, C.2.1, C.2.2.2.1, C.2.2.2.2.1, C.2.2.2.2.2.1⟩ (hm l D cy (s.heap.size + N) (s.heap.size + N + 1))
    (cwI (R := room_1) 0 C.2.2.2.2.2.1 (z_gin (z_wsub hco)) hws rfl rfl (C.2.2.2.2.2.1 _ hin) (C.2.2.2.2.2.1 _ hN) (C.2.2.2.2.2.1 _ him) hname hde ⟨by show dc + 1 ≤ _; omega, by show 8 + (mc.2.2.1 + 11) + 40 * dc ≤ _; omega⟩)
    ⟨yP_blind, fun U hU hW => ⟨rfl, by rw [hU]; omega, by omega, by rw [hU]; exact hnew, va_K.moved hW.alike hK, yV.warm hW hV⟩⟩ rfl rfl a7 rfl (lv_room (by simpa [Value.category] using hS8)) d4 ⟨by omega, by omega⟩
  intro T hT X
  obtain ⟨v, st₀, t, T', L', g0, X', hL, e1', e2, ⟨hv, hz, hP, hPw, hb, hk⟩, go⟩ := hrun T hT X
  cases hv
  rw [g0] at hk
  have hold : ∀ q, q < s.heap.size + N → T'.heap[q]? = H1[q]? := fun q hq => by rw [e1']; exact hk q (by omega) (by omega)
  have X2 := Stand.forget (extra := L') X' (fun q hq => by have h : q.base = s.heap.size + N ∨ s.heap.size + N + 1 ≤ q.base := hL q hq; exact h.elim (fun h => by rw [h]; exact Nat.le_add_right _ _) (fun h => Nat.le_trans (by rw [Nat.add_assoc]; exact Nat.le_add_right _ _) h))
  have p3 : va_P D zC (ws ++ (s.heap.size + N, .inr (ci', fs' (s.heap.size + N + 1))) :: ws' cy (s.heap.size + N + 1)) T'.heap := by
    refine (g3.stay (fun q hq => hold _ (a4 q hq).2)).app (fun i q hq => ?_)
    rw [e1']
    cases i with
    | zero => cases hq; exact hP.one
    | succ i => exact hPw i q hq
  have p4 : ∀ q ∈ ws ++ (s.heap.size + N, .inr (ci', fs' (s.heap.size + N + 1))) :: ws' cy (s.heap.size + N + 1), s.heap.size ≤ q.1 ∧ q.1 < s.heap.size + (N + 1 + N') := fun q hq => by
    rcases List.mem_append.mp hq with h | h
    · have := a4 q h; omega
    · rcases List.mem_cons.mp h with rfl | h
      · exact ⟨by show _ ≤ s.heap.size + N; omega, by show s.heap.size + N < _; omega⟩
      · have := hb q h; omega
  obtain ⟨t2, b1, b2⟩ := k T'.heap (by rw [e1', hz]; omega) p3 p4 (fun q c1 => by rw [hold q (by omega), o1 q (by omega)]; exact a5 q c1) T' rfl X2
  exact ⟨t2, go t2 b1, b2⟩
/-- the law's beginning: both sides are made, and the loop begins -/
theorem l_start (S : lS p l e s m b below meth c Qf D cy cJ L xs) (hV : yV cy s) (hJ : s.vm.findClass ("[" ++ (FieldType.long).toString) = some cJ) (kk : lJ p l e s m b below meth c Qf D cy cJ 0 90 3495 23 y_X0) (a7 : lv_has ls 7 [(0, .ref b)]) : W p l e room_1 s m #[Value.ref b] below meth c s.heap [] 0 0 Qf (F0 m 0 ls []) := by
  have C := S.1 601024 7293033 (Nat.le_refl _) (Nat.le_refl _)
  have hR : 2000 ≤ room_1.frames ∧ 40 * 2000 ≤ room_1.locals ∧ 601024 ≤ room_1.cells ∧ 7293033 ≤ room_1.slots := C.2.2.2.2.2.2.2.1
  refine l_new (ws := []) (N := 0) (M := 0) S hV (T' := zt_Walls) (ty' := zy_Walls) yc_Walls (by decide) rfl rfl rfl zu_Walls zy_Walls_ok yb_Walls_ok yl_L_8 yn_Walls yq_Walls yi_Walls zl_L_25 (Nat.le_of_ble_eq_true rfl) (Nat.le_of_ble_eq_true rfl) (Nat.le_of_ble_eq_true rfl) zd_L_0 zd_L_3 zd_L_4 rfl (fun k q h => by simp at h) (fun q h => by simp at h) (fun _ _ => rfl) a7.1 (fun H1 z1 p1 r1 o1 => ?_)
  refine lv_astore_n (i := 1) C.1 C.2.1 zd_L_7 rfl a7 (by decide) rfl (fun ls1 h1 => ?_)
  have h1 : lv_has ls1 7 [(1, .ref s.heap.size), (0, .ref b)] := h1
  refine l_new (N := 63) (M := 1860) S hV (T' := zt_Model) (ty' := zy_Model) yc_Model (by decide) rfl rfl rfl zu_Model zy_Model_ok yb_Model_ok yl_L_26 yn_Model yq_Model yi_Model zl_L_28 (Nat.le_of_ble_eq_true rfl) (Nat.le_of_ble_eq_true rfl) (Nat.le_of_ble_eq_true rfl) zd_L_8 zd_L_11 zd_L_12 z1 p1 r1 o1 h1.1 (fun H2 z2 p2 r2 o2 => ?_)
  refine lv_astore_n (i := 2) C.1 C.2.1 zd_L_15 rfl h1 (by decide) rfl (fun ls2 h2 => ?_)
  have h2 : lv_has ls2 7 [(2, .ref (s.heap.size + 63)), (1, .ref s.heap.size), (0, .ref b)] := h2
  refine lv_iconst (v := nI 1) C.1 C.2.1 zd_L_16 (by decide) ?_
  refine va_newaK (atype := .long) (N := 1) C.1 C.2.1 (C.2.2.2.2.2.1 _ yx_aJ) rfl zd_L_17 rfl (by decide) (by decide) (by decide) (by have := hR.2.2.1; omega) (by have := hR.2.2.2; omega) z2 (fun H3 cA e3 z3 o3 hAr hNm => ?_)
  have ecA : cA = cJ := Option.some.inj (hNm.symm.trans hJ)
  subst ecA
  refine lv_astore_n (i := 3) C.1 C.2.1 zd_L_19 rfl h2 (by decide) rfl (fun ls3 h3 => ?_)
  have h3 : lv_has ls3 7 [(3, .ref (s.heap.size + 89)), (2, .ref (s.heap.size + 63)), (1, .ref s.heap.size), (0, .ref b)] := h3
  refine lv_iconst (v := nI 0) C.1 C.2.1 zd_L_20 (by decide) ?_
  refine lv_istore C.1 C.2.1 zd_L_21 h3 (by decide) rfl (fun ls4 h4 => ?_)
  have h4 : lv_has ls4 7 [(4, .int (nI 0)), (3, .ref (s.heap.size + 89)), (2, .ref (s.heap.size + 63)), (1, .ref s.heap.size), (0, .ref b)] := h4
  have z2' : H2.size = s.heap.size + 89 := z2
  have p3 := p2.stay (H1 := H3) (fun q hq => o3 q.1 (r2 q hq).2)
  have hP : va_P D zC (z_ws cy (y_ad s.heap.size b) y_σ0) H3 := by
    have pL := va_P_left p3
    have pR := va_P_right p3
    exact y_world (pL 0 _ rfl) (fun i q hq => pL (i + 1) q hq) pR
  refine kk y_σ0 H3 [] ls4 0 y_cA0 y_mA0 hP (y_apart (fun q h => h)) ⟨by omega, fun q h1 _ => by rw [o3 q (by omega)]; exact o2 q h1, fun q h => by simp at h⟩ e3 (lv_sub h4 [4, 3, 2, 1, 0] rfl)
end
