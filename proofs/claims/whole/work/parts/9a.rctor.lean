theorem zd_Rule_init_0 : decode zm_Rule_init.2.1 0 = .ok (.aload_n 0, 1) := by decide +kernel
theorem zd_Rule_init_1 : decode zm_Rule_init.2.1 1 = .ok (.invokespecial 3, 3) := by decide +kernel
theorem zd_Rule_init_4 : decode zm_Rule_init.2.1 4 = .ok (.aload_n 0, 1) := by decide +kernel
theorem zd_Rule_init_5 : decode zm_Rule_init.2.1 5 = .ok (.bipush 40, 2) := by decide +kernel
theorem zd_Rule_init_7 : decode zm_Rule_init.2.1 7 = .ok (.newarray .int, 2) := by decide +kernel
theorem zd_Rule_init_9 : decode zm_Rule_init.2.1 9 = .ok (.putfield 9, 3) := by decide +kernel
theorem zd_Rule_init_12 : decode zm_Rule_init.2.1 12 = .ok (.aload_n 0, 1) := by decide +kernel
theorem zd_Rule_init_13 : decode zm_Rule_init.2.1 13 = .ok (.bipush 40, 2) := by decide +kernel
theorem zd_Rule_init_15 : decode zm_Rule_init.2.1 15 = .ok (.newarray .int, 2) := by decide +kernel
theorem zd_Rule_init_17 : decode zm_Rule_init.2.1 17 = .ok (.putfield 15, 3) := by decide +kernel
theorem zd_Rule_init_20 : decode zm_Rule_init.2.1 20 = .ok (.aload_n 0, 1) := by decide +kernel
theorem zd_Rule_init_21 : decode zm_Rule_init.2.1 21 = .ok (.bipush 40, 2) := by decide +kernel
theorem zd_Rule_init_23 : decode zm_Rule_init.2.1 23 = .ok (.newarray .int, 2) := by decide +kernel
theorem zd_Rule_init_25 : decode zm_Rule_init.2.1 25 = .ok (.putfield 18, 3) := by decide +kernel
theorem zd_Rule_init_28 : decode zm_Rule_init.2.1 28 = .ok (.aload_n 0, 1) := by decide +kernel
theorem zd_Rule_init_29 : decode zm_Rule_init.2.1 29 = .ok (.iconst 5, 1) := by decide +kernel
theorem zd_Rule_init_30 : decode zm_Rule_init.2.1 30 = .ok (.newarray .boolean, 2) := by decide +kernel
theorem zd_Rule_init_32 : decode zm_Rule_init.2.1 32 = .ok (.putfield 21, 3) := by decide +kernel
theorem zd_Rule_init_35 : decode zm_Rule_init.2.1 35 = .ok (.aload_n 0, 1) := by decide +kernel
theorem zd_Rule_init_36 : decode zm_Rule_init.2.1 36 = .ok (.invokevirtual 25, 3) := by decide +kernel
theorem zd_Rule_init_39 : decode zm_Rule_init.2.1 39 = .ok (.return_, 1) := by decide +kernel
def yb_Rule : List Value := [.null, .int 0, .null, .null, .int 0, .null, .int 0, .int 0, .int 0]
theorem yb_Rule_ok : ∀ j, j < 9 → defaultValue (zy_Rule j) = vp_V yb_Rule j := by decide +kernel
theorem yq_Rule : z_mb zm_Rule_init 0 := ⟨zx_Rule, zi_t (List.mem_of_getElem? (i := 114) (by decide +kernel)) (by decide +kernel), ⟨by decide +kernel, by decide +kernel, by decide +kernel⟩, by decide⟩
theorem yi_Rule : Cond.instanceMethod zm_Rule_init.1 ∈ zTB := zi_t (List.mem_of_getElem? (i := 113) (by decide +kernel)) (by decide +kernel)
theorem yn_Rule : Cond.instantiable zr_Rule 9 ∈ zTB := zi_t (List.mem_of_getElem? (i := 111) (by decide +kernel)) (by decide +kernel)
theorem yl_Rule_3 : Cond.methodLink zr_Rule 3 Lib.objectInit ∈ zTB := zi_t (List.mem_of_getElem? (i := 115) (by decide +kernel)) (by decide +kernel)
def yU_f : Nat → Int32 := upd (upd (upd (fun _ => 0) 0 (nI 1116)) 1 (nI 4)) 2 (nI 2042)
def yf_Rule (z : Nat) : List Value := [.ref z, .int (nI 3), .ref (z + 1), .ref (z + 2), .int 0, .ref (z + 3), .int 0, .int 0, .int 0]
def yw_Rule (cy : Nat → ClassId) (z : Nat) : va_W := [(z, .inl (cy 11, 40, .inl yU_f)), (z + 1, .inl (cy 11, 40, .inl (fun _ => 0))), (z + 2, .inl (cy 11, 40, .inl (fun _ => 0))), (z + 3, .inl (cy 12, 5, .inl (fun _ => 0)))]
theorem va_D2 {A : Nat → Prop} {a b : Nat} {x y : va_E} (hab : a ≠ b) (ha : A a) (hb : A b) : va_D A [(a, x), (b, y)] := by
  refine ⟨fun i j p q hi hj hpq => ?_, fun k q hk => ?_⟩
  · have b1 := (List.getElem?_eq_some_iff.mp hi).1
    have b2 := (List.getElem?_eq_some_iff.mp hj).1
    simp at b1 b2
    rcases (show i = 0 ∨ i = 1 by omega) with rfl | rfl <;> rcases (show j = 0 ∨ j = 1 by omega) with rfl | rfl <;> cases hi <;> cases hj
    · rfl
    · exact absurd hpq hab
    · exact absurd hpq.symm hab
    · rfl
  · have b1 := (List.getElem?_eq_some_iff.mp hk).1
    simp at b1
    rcases (show k = 0 ∨ k = 1 by omega) with rfl | rfl <;> cases hk <;> assumption
def yUp (D : va_G) (cy : Nat → ClassId) (h0 a sz : Nat) (fs : List Value) : Array Value → State → Prop := va_Pc [.ref h0] (fun U => U.heap.size = sz ∧ va_P D zC [(h0, .inr (6, fs)), (a, .inl (cy 11, 40, .inl (fun _ => 0)))] U.heap ∧ va_K D zC (z_ty cy) U ∧ h0 ≠ a)
def yUq (D : va_G) (cy : Nat → ClassId) (h0 a sz : Nat) (fs : List Value) : Array Value → State → Outcome → State → Prop := fun _ st o t => o = .returned none ∧ t.heap.size = sz ∧ va_P D zC [(h0, .inr (6, fs.set 1 (.int (nI 3)))), (a, .inl (cy 11, 40, .inl yU_f))] t.heap ∧ ∀ q, q < sz → q ≠ h0 → q ≠ a → t.heap[q]? = st.heap[q]?
theorem yc_setUsual (l : Launch) (D : va_G) (cy : Nat → ClassId) (h0 a sz : Nat) {fs : List Value} (hfs : fs[0]? = some (.ref a)) (hfl : fs.length = 9) : Met l zm_Rule_setUsual.1 (z_wm zm_Rule_setUsual) (yRc 1 0 0) (yUp D cy h0 a sz fs) (yUq D cy h0 a sz fs) 0 0 (fun q => q = h0 ∨ q = a) := by
  refine Met.ofW (cc := zm_Rule_setUsual.2.1) (maxL := 1) (ret := none) (by decide) rfl ?_
  intro p e s m args below meth c s₁ B hml hv
  obtain ⟨rfl, hsz, hP, hK, hne⟩ := hv
  subst hsz
  have hx := B.exec
  have hb := B.bytes
  have hr := B.returns
  have hts0 := atoms_spec (ws := z_wm zm_Rule_setUsual) B.pre
  have hts : ∀ w ∈ zTB, w.before [Value.ref h0].toArray s = true := fun w hw => hts0 w (List.mem_cons_of_mem _ hw)
  have hown : s.vm.findClass zr_Rule = some m.cls := findClass_of_methodNamed B.named
  have hD : va_D (fun q => q = h0 ∨ q = a) [(h0, .inr (6, fs)), (a, .inl (cy 11, 40, .inl (fun _ => 0)))] := va_D2 hne (Or.inl rfl) (Or.inr rfl)
  have hS : va_S (fun q => q = h0 ∨ q = a) s.heap s.heap [] := va_S.rf
  have hl := lv_entry ([Value.ref h0]) (n := 1) (Nat.le_of_ble_eq_true rfl)
  rw [lg_entry_eq]
  generalize (lg_sl ([Value.ref h0]) ++ List.replicate (1 - (lg_sl ([Value.ref h0])).length) Slot.unset).toArray = ls at hl ⊢
  have hl : lv_has ls 1 [(0, .ref h0)] := hl
  refine lv_aload_n hx hb zd_Rule_setUsual_0 rfl (lv_at hl 0 rfl) ?_
  refine va_get (v := .ref a) hx hb hts zu_Rule hown hK hP 0 rfl rfl 0 (by decide) (hts _ zl_Rule_9) (fun _ h => h) hfs zd_Rule_setUsual_1 ?_
  refine lv_iconst (v := nI 0) hx hb zd_Rule_setUsual_4 (by decide) ?_
  refine lv_sipush (v := nI 1116) hx hb zd_Rule_setUsual_5 (by decide) ?_
  refine va_iast hx hb hK hP hD hS 1 2 rfl rfl (vp_in_nI (by decide) (by decide)) zd_Rule_setUsual_8 (fun H1 locs1 hP hD hS => ?_)
  have hP : va_P D zC [(h0, .inr (6, fs)), (a, .inl (cy 11, 40, .inl (upd (fun _ => 0) 0 (nI 1116))))] H1 := hP
  have hD : va_D (fun q => q = h0 ∨ q = a) [(h0, .inr (6, fs)), (a, .inl (cy 11, 40, .inl (upd (fun _ => 0) 0 (nI 1116))))] := hD
  refine lv_aload_n hx hb zd_Rule_setUsual_9 rfl (lv_at hl 0 rfl) ?_
  refine va_get (v := .ref a) hx hb hts zu_Rule hown hK hP 0 rfl rfl 0 (by decide) (hts _ zl_Rule_9) (fun _ h => h) hfs zd_Rule_setUsual_10 ?_
  refine lv_iconst (v := nI 1) hx hb zd_Rule_setUsual_13 (by decide) ?_
  refine lv_iconst (v := nI 4) hx hb zd_Rule_setUsual_14 (by decide) ?_
  refine va_iast hx hb hK hP hD hS 1 2 rfl rfl (vp_in_nI (by decide) (by decide)) zd_Rule_setUsual_15 (fun H2 locs2 hP hD hS => ?_)
  have hP : va_P D zC [(h0, .inr (6, fs)), (a, .inl (cy 11, 40, .inl (upd (upd (fun _ => 0) 0 (nI 1116)) 1 (nI 4))))] H2 := hP
  have hD : va_D (fun q => q = h0 ∨ q = a) [(h0, .inr (6, fs)), (a, .inl (cy 11, 40, .inl (upd (upd (fun _ => 0) 0 (nI 1116)) 1 (nI 4))))] := hD
  refine lv_aload_n hx hb zd_Rule_setUsual_16 rfl (lv_at hl 0 rfl) ?_
  refine va_get (v := .ref a) hx hb hts zu_Rule hown hK hP 0 rfl rfl 0 (by decide) (hts _ zl_Rule_9) (fun _ h => h) hfs zd_Rule_setUsual_17 ?_
  refine lv_iconst (v := nI 2) hx hb zd_Rule_setUsual_20 (by decide) ?_
  refine lv_sipush (v := nI 2042) hx hb zd_Rule_setUsual_21 (by decide) ?_
  refine va_iast hx hb hK hP hD hS 1 2 rfl rfl (vp_in_nI (by decide) (by decide)) zd_Rule_setUsual_24 (fun H3 locs3 hP hD hS => ?_)
  have hP : va_P D zC [(h0, .inr (6, fs)), (a, .inl (cy 11, 40, .inl yU_f))] H3 := hP
  have hD : va_D (fun q => q = h0 ∨ q = a) [(h0, .inr (6, fs)), (a, .inl (cy 11, 40, .inl yU_f))] := hD
  refine lv_aload_n hx hb zd_Rule_setUsual_25 rfl (lv_at hl 0 rfl) ?_
  refine lv_iconst (v := nI 3) hx hb zd_Rule_setUsual_26 (by decide) ?_
  refine va_put (v := .int (nI 3)) (ty := .int) hx hb hts zu_Rule zy_Rule zy_Rule_ok zn_Rule hown hK hP hD hS 0 rfl rfl 1 (by decide) (hts _ zl_Rule_28) (fun _ h => h) rfl (zy_Rule_ok 1 (by decide)) rfl rfl (by omega) zd_Rule_setUsual_27 (fun H4 locs4 hP hD hS => ?_)
  have hP : va_P D zC [(h0, .inr (6, fs.set 1 (.int (nI 3)))), (a, .inl (cy 11, 40, .inl yU_f))] H4 := hP
  intro T hT X
  have hz : H4.size = s.heap.size := by
    have h1 := X.heapSize
    have h2 := hS.1
    rw [hT] at h1
    omega
  exact W.vret hx hb hr (fun t ht hW => ⟨rfl, by rw [ht]; exact hz, by rw [ht]; exact hP, fun q b1 b2 b3 => by rw [ht]; exact hS.2.1 q b1 (fun h => h.elim b2 b3)⟩) hS.2.2 zd_Rule_setUsual_30 B.notSynchronized T hT X
theorem y_ruleEnd {p : Program} {l : Launch} {e : Env} {s : State} {m : MethodId} {args : Array Value} {below : List Frame} {meth : Method} {c : Code} {D : va_G} {cy : Nat → ClassId} {h0 : Nat} (C : yCx p l e (yRc 3 4 125) s m args meth c D cy h0 6 3 zm_Rule_init) :
    yJ p l e (yRc 3 4 125) s m args below meth c (MQ below (yQc D h0 s.heap.size 6 (yf_Rule s.heap.size) (yw_Rule cy s.heap.size) 4) args s 4 125 (fun q => q = h0 ∨ s.heap.size ≤ q)) D h0 6 1 35 [] [.ref s.heap.size, .int 0, .ref (s.heap.size + 1), .ref (s.heap.size + 2), .int 0, .ref (s.heap.size + 3), .int 0, .int 0, .int 0]
      [(s.heap.size, .inl (cy 11, 40, .inl (fun _ => 0))), (s.heap.size + 1, .inl (cy 11, 40, .inl (fun _ => 0))), (s.heap.size + 2, .inl (cy 11, 40, .inl (fun _ => 0))), (s.heap.size + 3, .inl (cy 12, 5, .inl (fun _ => 0)))] 4 125 := by
  intro H locs ls a1 a2 a3 a4 a5 a6 a7
  have hlt := C.2.2.2.2.2.2.2.2.2.1
  have hK := C.2.2.2.2.2.2.2.2.1
  refine lv_aload_n C.1 C.2.1 zd_Rule_init_35 rfl (lv_at a7 0 rfl) ?_
  obtain ⟨⟨hin, hco, hde, h21⟩, him, hse⟩ := zq_Rule_setUsual
  have hG : GoodIn zTB (wsV zr_Rule 25 zr_Rule zm_Rule_setUsual.1 (z_wm zm_Rule_setUsual)) := z_gin (fun w hw => by
    unfold wsV at hw
    rcases List.mem_append.mp hw with h | h
    · simp only [List.mem_cons, List.not_mem_nil, or_false] at h
      rcases h with rfl | rfl | rfl | rfl
      · exact zl_Rule_25
      · exact him
      · exact hse
      · exact hin
    · exact z_wsub hco w h)
  have h2 : va_P D zC [(h0, .inr (6, [.ref s.heap.size, .int 0, .ref (s.heap.size + 1), .ref (s.heap.size + 2), .int 0, .ref (s.heap.size + 3), .int 0, .int 0, .int 0])), (s.heap.size, .inl (cy 11, 40, .inl (fun _ => 0)))] H := va_P.app (w1 := [_]) a2 (a3.sub [0] rfl)
  have hrun := va_runV (p := p) (l := l) (e := e) (R := yRc 3 4 125) (s := s) (m := m) (args := args) (below := below) (meth := meth) (c := c) (H := H) (locs := locs) (cells := 4) (slots := 125) (As := []) (rest := []) (b := h0) (g := F0 m 36 ls [.ref h0]) ⟨C.1, C.2.1, C.2.2.2.1, C.2.2.2.2.1, C.2.2.2.2.2.1⟩ (yc_setUsual l D cy h0 s.heap.size H.size (fs := [.ref s.heap.size, .int 0, .ref (s.heap.size + 1), .ref (s.heap.size + 2), .int 0, .ref (s.heap.size + 3), .int 0, .int 0, .int 0]) rfl rfl)
    (cwV (R := yRc 3 4 125) 0 C.2.2.2.2.2.1 hG rfl rfl rfl ⟨rfl, hde⟩ ⟨by decide, by decide⟩)
    ⟨fun a U g mk q => by obtain ⟨q0, q1, qP, qK, qn⟩ := q; exact ⟨q0, q1, qP, va_K.moved (u := U) (U := U.calling g mk a) (Vm.Alike.refl U.vm) qK, qn⟩, va_recv hK a2 (ci := 6) (q0 := 0) rfl rfl, fun U hU hW => ⟨rfl, by rw [hU], by rw [hU]; exact h2, va_K.moved hW.alike hK, by omega⟩⟩ rfl rfl a7.1 rfl (lv_room (by decide)) zd_Rule_init_36 ⟨Nat.le_refl _, Nat.le_refl _⟩
  intro T hT X
  obtain ⟨v, st₀, t, T', L, g0, X', hL, e1, e2, ⟨hv, hz, hP, hk⟩, go⟩ := hrun T hT X
  cases hv
  rw [g0] at hk
  have hold : ∀ q, q < H.size → q ≠ h0 → q ≠ s.heap.size → T'.heap[q]? = H[q]? := fun q b1 b2 b3 => by rw [e1]; exact hk q b1 b2 b3
  have kk : W p l e (yRc 3 4 125) s m args below meth c T'.heap (locs ++ L) 4 125 (MQ below (yQc D h0 s.heap.size 6 (yf_Rule s.heap.size) (yw_Rule cy s.heap.size) 4) args s 4 125 (fun q => q = h0 ∨ s.heap.size ≤ q)) (F0 m 39 ls []) := by
    have p1 : va_P D zC [(s.heap.size, .inl (cy 11, 40, .inl yU_f))] T'.heap := by rw [e1]; exact hP.sub [1] rfl
    have p2 : va_P D zC [(s.heap.size + 1, .inl (cy 11, 40, .inl (fun _ => 0))), (s.heap.size + 2, .inl (cy 11, 40, .inl (fun _ => 0))), (s.heap.size + 3, .inl (cy 12, 5, .inl (fun _ => 0)))] T'.heap := by
      have p3 : va_P D zC [(s.heap.size + 1, .inl (cy 11, 40, .inl (fun _ => 0))), (s.heap.size + 2, .inl (cy 11, 40, .inl (fun _ => 0))), (s.heap.size + 3, .inl (cy 12, 5, .inl (fun _ => 0)))] H := a3.sub [1, 2, 3] rfl
      refine p3.stay (fun q hq => ?_)
      simp only [List.mem_cons, List.not_mem_nil, or_false] at hq
      rcases hq with rfl | rfl | rfl <;> exact hold _ (by show _ + _ < _; omega) (by show _ + _ ≠ _; omega) (by show _ + _ ≠ _; omega)
    have w3 : va_P D zC (yw_Rule cy s.heap.size) T'.heap := p1.app p2
    have w4 : ∀ q ∈ yw_Rule cy s.heap.size, s.heap.size ≤ q.1 ∧ q.1 < s.heap.size + 4 := fun q hq => by
      unfold yw_Rule at hq
      simp only [List.mem_cons, List.not_mem_nil, or_false] at hq
      rcases hq with rfl | rfl | rfl | rfl <;> exact ⟨by show _ ≤ _; omega, by show _ < _; omega⟩
    have w6 : ∀ q ∈ locs ++ L, q.base = h0 ∨ s.heap.size ≤ q.base := fun q hq => by
      rcases List.mem_append.mp hq with h | h
      · exact Or.inl (a6 q h)
      · have h3 : q.base = h0 ∨ q.base = s.heap.size := hL q h
        exact h3.elim Or.inl (fun h4 => Or.inr (by rw [h4]; exact Nat.le_refl _))
    exact W.vret C.1 C.2.1 C.2.2.1 (fun t2 ht hW => ⟨rfl, by rw [ht, e1, hz]; exact a1, by rw [ht, e1]; exact hP.sub [0] rfl, by rw [ht]; exact w3, w4, fun q b1 b2 => by rw [ht, hold q (by omega) b2 (by omega)]; exact a5 q b1 b2⟩) w6 zd_Rule_init_39 C.2.2.2.2.2.2.1
  obtain ⟨t2, b1, b2⟩ := kk T' rfl X'
  exact ⟨t2, go t2 b1, b2⟩

set_option maxRecDepth 20000 in
theorem yc_Rule : yCt 3 zm_Rule_init 6 yb_Rule yf_Rule yw_Rule 4 125 := by
  refine yCt_of (by decide) rfl rfl rfl (by decide) (fun p l e s m args below meth c Qf D cy h0 C => ?_)
  refine yj_aload0 C zd_Rule_init_0 ?_
  refine yj_obj C yl_Rule_3 (by decide) zd_Rule_init_1 ?_
  refine yj_aload0 C zd_Rule_init_4 ?_
  refine yj_bipush (v := nI 40) C zd_Rule_init_5 (by decide) ?_
  refine yj_newarr (ty := .int) (j := 2) (t := 11) (n := 40) C rfl yx_a11 rfl rfl rfl (by decide) (by decide) (Nat.le_of_ble_eq_true rfl) (Nat.le_of_ble_eq_true rfl) zd_Rule_init_7 ?_
  refine yj_put (k0 := 0) C rfl zu_Rule zy_Rule_ok zn_Rule (by decide) rfl rfl zl_Rule_9 rfl rfl zd_Rule_init_9 ?_
  refine yj_aload0 C zd_Rule_init_12 ?_
  refine yj_bipush (v := nI 40) C zd_Rule_init_13 (by decide) ?_
  refine yj_newarr (ty := .int) (j := 2) (t := 11) (n := 40) C rfl yx_a11 rfl rfl rfl (by decide) (by decide) (Nat.le_of_ble_eq_true rfl) (Nat.le_of_ble_eq_true rfl) zd_Rule_init_15 ?_
  refine yj_put (k0 := 2) C rfl zu_Rule zy_Rule_ok zn_Rule (by decide) rfl rfl zl_Rule_15 rfl rfl zd_Rule_init_17 ?_
  refine yj_aload0 C zd_Rule_init_20 ?_
  refine yj_bipush (v := nI 40) C zd_Rule_init_21 (by decide) ?_
  refine yj_newarr (ty := .int) (j := 2) (t := 11) (n := 40) C rfl yx_a11 rfl rfl rfl (by decide) (by decide) (Nat.le_of_ble_eq_true rfl) (Nat.le_of_ble_eq_true rfl) zd_Rule_init_23 ?_
  refine yj_put (k0 := 3) C rfl zu_Rule zy_Rule_ok zn_Rule (by decide) rfl rfl zl_Rule_18 rfl rfl zd_Rule_init_25 ?_
  refine yj_aload0 C zd_Rule_init_28 ?_
  refine yj_iconst (v := nI 5) C zd_Rule_init_29 (by decide) ?_
  refine yj_newarr (ty := .boolean) (j := 3) (t := 12) (n := 5) C rfl yx_a12 rfl rfl rfl (by decide) (by decide) (Nat.le_of_ble_eq_true rfl) (Nat.le_of_ble_eq_true rfl) zd_Rule_init_30 ?_
  refine yj_put (k0 := 5) C rfl zu_Rule zy_Rule_ok zn_Rule (by decide) rfl rfl zl_Rule_21 rfl rfl zd_Rule_init_32 ?_
  exact y_ruleEnd C
