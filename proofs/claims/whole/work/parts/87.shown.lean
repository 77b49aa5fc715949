/-! the program: how many heights a column shows -/
theorem yd_h_0 : decode zm_Walls_heightsShown.2.1 0 = .ok (.lconst 0, 1) := by decide +kernel
theorem yd_h_1 : decode zm_Walls_heightsShown.2.1 1 = .ok (.lstore_n 2, 1) := by decide +kernel
theorem yd_h_2 : decode zm_Walls_heightsShown.2.1 2 = .ok (.iconst 0, 1) := by decide +kernel
theorem yd_h_3 : decode zm_Walls_heightsShown.2.1 3 = .ok (.istore 4, 2) := by decide +kernel
theorem yd_h_5 : decode zm_Walls_heightsShown.2.1 5 = .ok (.iload 4, 2) := by decide +kernel
theorem yd_h_7 : decode zm_Walls_heightsShown.2.1 7 = .ok (.iconst 1, 1) := by decide +kernel
theorem yd_h_8 : decode zm_Walls_heightsShown.2.1 8 = .ok (.aload_n 0, 1) := by decide +kernel
theorem yd_h_9 : decode zm_Walls_heightsShown.2.1 9 = .ok (.getfield 20, 3) := by decide +kernel
theorem yd_h_12 : decode zm_Walls_heightsShown.2.1 12 = .ok (.getfield 179, 3) := by decide +kernel
theorem yd_h_15 : decode zm_Walls_heightsShown.2.1 15 = .ok (.iload_n 1, 1) := by decide +kernel
theorem yd_h_16 : decode zm_Walls_heightsShown.2.1 16 = .ok (.iaload, 1) := by decide +kernel
theorem yd_h_17 : decode zm_Walls_heightsShown.2.1 17 = .ok (.ishl, 1) := by decide +kernel
theorem yd_h_18 : decode zm_Walls_heightsShown.2.1 18 = .ok (.if_icmp .ge 24, 3) := by decide +kernel
theorem yd_h_21 : decode zm_Walls_heightsShown.2.1 21 = .ok (.lload_n 2, 1) := by decide +kernel
theorem yd_h_22 : decode zm_Walls_heightsShown.2.1 22 = .ok (.lconst 1, 1) := by decide +kernel
theorem yd_h_23 : decode zm_Walls_heightsShown.2.1 23 = .ok (.aload_n 0, 1) := by decide +kernel
theorem yd_h_24 : decode zm_Walls_heightsShown.2.1 24 = .ok (.getfield 20, 3) := by decide +kernel
theorem yd_h_27 : decode zm_Walls_heightsShown.2.1 27 = .ok (.iload_n 1, 1) := by decide +kernel
theorem yd_h_28 : decode zm_Walls_heightsShown.2.1 28 = .ok (.iload 4, 2) := by decide +kernel
theorem yd_h_30 : decode zm_Walls_heightsShown.2.1 30 = .ok (.invokevirtual 335, 3) := by decide +kernel
theorem yd_h_33 : decode zm_Walls_heightsShown.2.1 33 = .ok (.lshl, 1) := by decide +kernel
theorem yd_h_34 : decode zm_Walls_heightsShown.2.1 34 = .ok (.lor, 1) := by decide +kernel
theorem yd_h_35 : decode zm_Walls_heightsShown.2.1 35 = .ok (.lstore_n 2, 1) := by decide +kernel
theorem yd_h_36 : decode zm_Walls_heightsShown.2.1 36 = .ok (.iinc 4 1, 3) := by decide +kernel
theorem yd_h_39 : decode zm_Walls_heightsShown.2.1 39 = .ok (.goto (-34), 3) := by decide +kernel
theorem yd_h_42 : decode zm_Walls_heightsShown.2.1 42 = .ok (.lload_n 2, 1) := by decide +kernel
theorem yd_h_43 : decode zm_Walls_heightsShown.2.1 43 = .ok (.invokestatic 424, 3) := by decide +kernel
theorem yd_h_46 : decode zm_Walls_heightsShown.2.1 46 = .ok (.ireturn, 1) := by decide +kernel
theorem y_lk424 : Cond.methodLink zr_Walls 424 zm_Long_bitCount.1 ∈ zTB := zi_t (List.mem_of_getElem? (i := 831) (by decide +kernel)) (by decide +kernel)
theorem y_ms : z_ms zm_Long_bitCount 1 := ⟨⟨zi_t (List.mem_of_getElem? (i := 18) (by decide +kernel)) (by decide +kernel), zi_t (List.mem_of_getElem? (i := 833) (by decide +kernel)) (by decide +kernel), ⟨by decide +kernel, by decide +kernel, by decide +kernel⟩, by decide⟩, zi_t (List.mem_of_getElem? (i := 832) (by decide +kernel)) (by decide +kernel)⟩
section
variable {p : Program} {l : Launch} {e : Env} {R : Room} {s : State} {m : MethodId} {args : Array Value} {below : List Frame} {meth : Method} {c' : Code} {cells slots : Nat} {Qf : State → Prop} {D : va_G} {cy : Nat → ClassId} {ad : Nat → Nat} {A : Nat → Prop} {d : Nat} {Po : Option Int32 → zS → Prop} {mi : zM} {pc : Nat} {σ : zS} {H : Heap} {locs : List Loc} {ls : Array Slot} {rest : List Value}
theorem y_getR (C : z_Cx ⟨p, l, e, R, s, m, args, below, meth, c', ⟨cells, slots⟩, Qf, D, cy, ad, A, d, Po⟩ mi) {o c n k idx : Nat} {Cn : String} {T : u_T} (hk : z_kd o = (c, n)) (hc9 : c < 9) (hc : zC[c]? = some (Cn, T, n)) (hu : ∀ w ∈ u_ws Cn T n, w ∈ zTB) (hn : k < n) (hf : z_fk c k = 1) (hl : Cond.fieldLink mi.1.cls idx (T k).1 (T k).2.1 (T k).2.2.1 ∈ zTB) (hd : decode mi.2.1 pc = .ok (.getfield idx, 3)) {o' : Nat} (ho : o + z_of c k = o') (hP : va_P D zC (z_ws cy ad σ) H) (kk : W p l e R s m args below meth c' H locs cells slots Qf (F0 m (pc + 3) ls (.ref (ad o') :: rest))) : W p l e R s m args below meth c' H locs cells slots Qf (F0 m pc ls (.ref (ad o) :: rest)) := by
  subst ho
  have hw : (z_ws cy ad σ)[o]? = some (ad o, .inr (c, (List.range n).map (fun k => z_fv ad σ o c k))) := by rw [z_at (z_lt hk (by omega)), z_ob hk hc9]
  exact va_get (v := .ref (ad (o + z_of c k))) C.1 C.2.1 C.2.2.2.2.2.1 hu C.2.2.2.2.1 C.2.2.2.2.2.2.2.2.1 hP o hw hc k hn (C.2.2.2.2.2.1 _ hl) (fun _ h => h) (by simp [hn, z_fv, hf]) hd kk
theorem y_callVi (C : z_Cx ⟨p, l, e, R, s, m, args, below, meth, c', ⟨cells, slots⟩, Qf, D, cy, ad, A, d, Po⟩ mi) {dc : Nat} {mc : zM} {o c n idx : Nat} {T : u_T} {As : List zV} {P : Int32 → zS → Prop} (hm : z_Ci dc mc (.inr o :: As) σ P) (hdp : dc < d) (hk : z_kd o = (c, n)) (hc9 : c < 9) (hc : zC[c]? = some (mc.1.cls, T, n)) (hml : Cond.methodLink mi.1.cls idx mc.1 ∈ zTB) (hmv : z_mv mc As.length) (hd : decode mi.2.1 pc = .ok (.invokevirtual idx, 3)) (hS8 : (rest.map fun v => v.category).sum ≤ 8) (hP : va_P D zC (z_ws cy ad σ) H) (hD : va_D A (z_ws cy ad σ)) (hS : va_S A s.heap H locs) (hls : ls.size = mi.2.2.1) (kk : ∀ r σ1 H1 locs1, P r σ1 → va_P D zC (z_ws cy ad σ1) H1 → va_D A (z_ws cy ad σ1) → va_S A s.heap H1 locs1 → W p l e R s m args below meth c' H1 locs1 cells slots Qf (F0 m (pc + 3) ls (.int r :: rest))) : W p l e R s m args below meth c' H locs cells slots Qf (F0 m pc ls ((As.map (z_en ad)).reverse ++ .ref (ad o) :: rest)) := by
  obtain ⟨⟨hin, hco, hde, h21⟩, him, hse⟩ := hmv
  obtain ⟨hR1, hR2, hR3, hR4⟩ := C.2.2.2.2.2.2.2.1
  have hw : (z_ws cy ad σ)[o]? = some (ad o, .inr (c, (List.range n).map (fun k => z_fv ad σ o c k))) := by rw [z_at (z_lt hk (by omega)), z_ob hk hc9]
  have hG : GoodIn zTB (wsV mi.1.cls idx mc.1.cls mc.1 (z_wm mc)) := z_gin (fun w hw => by
    unfold wsV at hw
    rcases List.mem_append.mp hw with h | h
    · simp only [List.mem_cons, List.not_mem_nil, or_false] at h
      rcases h with rfl | rfl | rfl | rfl <;> assumption
    · exact z_wsub hco w h)
  have hrun := va_runV (p := p) (l := l) (e := e) (R := R) (s := s) (m := m) (args := args) (below := below) (meth := meth) (c := c') (H := H) (locs := locs) (cells := cells) (slots := slots) (As := As.map (z_en ad)) (rest := rest) (b := ad o) (g := F0 m pc ls ((As.map (z_en ad)).reverse ++ .ref (ad o) :: rest)) ⟨C.1, C.2.1, C.2.2.2.1, C.2.2.2.2.1, C.2.2.2.2.2.1⟩ (hm (d - 1) (by omega) l D cy ad H.size) (cwV (R := R) As.length C.2.2.2.2.2.1 hG rfl rfl rfl ⟨rfl, hde⟩ ⟨by show d - 1 + 1 ≤ _; omega, by show 8 + (mc.2.2.1 + 11) + 40 * (d - 1) ≤ _; omega⟩)
    ⟨z_blind, va_recv C.2.2.2.2.2.2.2.2.1 hP hc hw, fun U hU hW => ⟨rfl, by rw [hU], by rw [hU]; exact hP, va_K.moved hW.alike C.2.2.2.2.2.2.2.2.1, hD.weaken (fun _ _ _ _ => trivial), z_Nw.warm hW C.2.2.2.2.2.2.2.2.2.2.2⟩⟩ rfl (by simp) hls rfl (lv_room hS8) hd ⟨hR3, hR4⟩
  refine va_calli hrun hS (fun q hq h => ?_) (fun q h => ?_) (fun r u t H1 locs1 ht hvm hp hB hz hk1 hS1 => ?_)
  · rcases h with ⟨o', ho, rfl⟩ | h
    · exact hD.2 o' _ (z_at ho)
    · omega
  · rcases h with ⟨o', ho, rfl⟩ | h
    · exact hD.2 o' _ (z_at ho)
    · exact C.2.2.2.2.2.2.2.2.2.1 q (Nat.le_trans hS.1 h)
  · exact kk r u H1 locs1 hp (by rw [← ht]; exact hB.1) (z_D_to hD hB.2.2) hS1
theorem y_blind {x : Nat} {sz : Nat} : FrameBlind (va_Pc [Value.long (lN x)] (fun U => U.heap.size = sz ∧ va_P D zC (z_ws cy ad σ) U.heap ∧ va_K D zC (z_ty cy) U ∧ va_D (fun _ => True) (z_ws cy ad σ) ∧ z_Nw U)) := by
  intro a U g mk q
  obtain ⟨q0, q1, qP, qK, qD, qN⟩ := q
  exact ⟨q0, q1, qP, va_K.moved (u := U) (U := U.calling g mk a) (Vm.Alike.refl U.vm) qK, qD, va_tabs (A := #[]) (u := U) rfl rfl qN.1, va_tabs (A := #[]) (u := U) rfl rfl qN.2.1, va_tabs (A := #[]) (u := U) rfl rfl qN.2.2⟩
theorem y_callL (C : z_Cx ⟨p, l, e, R, s, m, args, below, meth, c', ⟨cells, slots⟩, Qf, D, cy, ad, A, d, Po⟩ mi) {x idx : Nat} {P : Int32 → zS → Prop} (hm : y_Cl x σ P) (hdp : 0 < d) (hml : Cond.methodLink mi.1.cls idx zm_Long_bitCount.1 ∈ zTB) (hd : decode mi.2.1 pc = .ok (.invokestatic idx, 3)) (hP : va_P D zC (z_ws cy ad σ) H) (hD : va_D A (z_ws cy ad σ)) (hS : va_S A s.heap H locs) (hls : ls.size = mi.2.2.1) (kk : ∀ r σ1 H1 locs1, P r σ1 → va_P D zC (z_ws cy ad σ1) H1 → va_D A (z_ws cy ad σ1) → va_S A s.heap H1 locs1 → W p l e R s m args below meth c' H1 locs1 cells slots Qf (F0 m (pc + 3) ls [.int r])) : W p l e R s m args below meth c' H locs cells slots Qf (F0 m pc ls [.long (lN x)]) := by
  obtain ⟨⟨hin, hco, hde, h21⟩, hsta⟩ := y_ms
  obtain ⟨hR1, hR2, hR3, hR4⟩ := C.2.2.2.2.2.2.2.1
  have hG : GoodIn zTB (va_wsS mi.1.cls idx zm_Long_bitCount.1 (z_wm zm_Long_bitCount)) := z_gin (fun w hw => by
    unfold va_wsS at hw
    rcases List.mem_append.mp hw with h | h
    · simp only [List.mem_cons, List.not_mem_nil, or_false] at h
      rcases h with rfl | rfl | rfl <;> assumption
    · exact z_wsub hco w h)
  have hrun := va_runS (p := p) (l := l) (e := e) (R := R) (s := s) (m := m) (args := args) (below := below) (meth := meth) (c := c') (H := H) (locs := locs) (cells := cells) (slots := slots) (As := [Value.long (lN x)]) (rest := []) (g := F0 m pc ls [Value.long (lN x)]) ⟨C.1, C.2.1, C.2.2.2.1, C.2.2.2.2.1, C.2.2.2.2.2.1⟩ (hm (d - 1) l D cy ad H.size) (va_cwS (R := R) 1 C.2.2.2.2.2.1 hG rfl rfl rfl hde ⟨by show d - 1 + 1 ≤ _; omega, by show 8 + (2 + 11) + 40 * (d - 1) ≤ _; omega⟩)
    ⟨y_blind, fun U hU hW => ⟨rfl, by rw [hU], by rw [hU]; exact hP, va_K.moved hW.alike C.2.2.2.2.2.2.2.2.1, hD.weaken (fun _ _ _ _ => trivial), z_Nw.warm hW C.2.2.2.2.2.2.2.2.2.2.2⟩⟩ rfl rfl hls rfl (lv_room (by simp)) hd ⟨hR3, hR4⟩
  refine va_calli hrun hS (fun q hq h => ?_) (fun q h => ?_) (fun r u t H1 locs1 ht hvm hp hB hz hk1 hS1 => ?_)
  · rcases h with ⟨o', ho, rfl⟩ | h
    · exact hD.2 o' _ (z_at ho)
    · omega
  · rcases h with ⟨o', ho, rfl⟩ | h
    · exact hD.2 o' _ (z_at ho)
    · exact C.2.2.2.2.2.2.2.2.2.1 q (Nat.le_trans hS.1 h)
  · exact kk r u H1 locs1 hp (by rw [← ht]; exact hB.1) (z_D_to hD hB.2.2) hS1
end
def y_hs (s : aS) (v : aV) (c : Nat) : Nat → Nat
  | 0 => 0
  | i + 1 => y_hs s v c i ||| 2 ^ (a_hw s v c i)
theorem a_hw36 {s : aS} {v : aV} (hI : aI s v) {c : Nat} (hc : c < s_c s) (m : Nat) : a_hw s v c m ≤ 36 := by
  show l_hwi (s_t s) (v_p v c) m (v_p v c).length ≤ 36
  rw [l_hwi_bt (hI.nd hc)]
  exact l_bt36 hI hc _
theorem y_hs_lt {s : aS} {v : aV} (hI : aI s v) {c : Nat} (hc : c < s_c s) : ∀ i, y_hs s v c i < 2 ^ 64
  | 0 => by show 0 < _; decide
  | i + 1 => by
    rw [y_hs]
    exact Nat.or_lt_two_pow (y_hs_lt hI hc i) (Nat.pow_lt_pow_right (by decide) (by have := a_hw36 hI hc i; omega))
theorem cc_heightsShown {s : aS} {v : aV} {σ : zS} {c : Nat} (hR : cR s v σ 33) (hc : c < s_c s) : z_Ci 2 zm_Walls_heightsShown [.inr 0, .inl (nI c)] σ (z_is (nI (m_thk (fun _ => 1) (y_hs s v c (2 ^ (v_p v c).length)) 64)) σ) := by
  have h6 := hR.c6
  have hl4 := hR.1.l4 hc
  have hp : 2 ^ (v_p v c).length ≤ 2 ^ 4 := Nat.pow_le_pow_right (by decide) hl4
  refine z_Ci_of (by decide) (Nat.le_of_ble_eq_true rfl) (fun Γ hd he => ?_)
  obtain ⟨p, l, e, R, s0, m, args, below, meth, c', ⟨cells, slots⟩, Qf, D, cy, ad, A, d, Po⟩ := Γ
  have hd : 2 ≤ d := hd
  have he : Po = (fun r u => ∃ x, r = some x ∧ z_is (nI (m_thk (fun _ => 1) (y_hs s v c (2 ^ (v_p v c).length)) 64)) σ x u) := he
  intro C H locs ls hP hD hS hl
  have h0 : lv_has ls 5 [(0, Value.ref (ad 0)), (1, Value.int (nI c))] := hl.has
  refine lv_lconst C.1 C.2.1 yd_h_0 (v := lN 0) rfl ?_
  refine lv_lstore_n C.1 C.2.1 yd_h_1 rfl h0 (by decide) rfl (fun ls1 h1 => ?_)
  have h1 : lv_has ls1 5 [(2, Value.long (lN 0)), (0, Value.ref (ad 0)), (1, Value.int (nI c))] := h1
  refine lv_iconst C.1 C.2.1 yd_h_2 (v := nI 0) rfl ?_
  refine lv_istore C.1 C.2.1 yd_h_3 h1 (by decide) rfl (fun ls2 h2 => ?_)
  have h2 : lv_has ls2 5 [(4, Value.int (nI 0)), (2, Value.long (lN (y_hs s v c 0))), (0, Value.ref (ad 0)), (1, Value.int (nI c))] := h2
  have loop : ∀ j i H locs ls, i + j = 2 ^ (v_p v c).length → va_P D zC (z_ws cy ad σ) H → va_D A (z_ws cy ad σ) → va_S A s0.heap H locs → lv_has ls 5 [(4, Value.int (nI i)), (2, Value.long (lN (y_hs s v c i))), (0, Value.ref (ad 0)), (1, Value.int (nI c))] → W p l e R s0 m args below meth c' H locs cells slots Qf (F0 m 5 ls []) := by
    intro j
    induction j with
    | zero =>
      intro i H locs ls hij hP hD hS h
      refine lv_iload C.1 C.2.1 yd_h_5 (lv_at h 0 rfl) ?_
      refine lv_iconst C.1 C.2.1 yd_h_7 (v := nI 1) rfl ?_
      refine lv_aload_n C.1 C.2.1 yd_h_8 rfl (lv_at h 2 rfl) ?_
      refine y_getR C rfl (by decide) rfl zu_Walls (k := 4) (by decide) rfl zl_Walls_20 yd_h_9 (o' := 33) rfl hP ?_
      refine y_getR C rfl (by decide) rfl zu_City (k := 7) (by decide) rfl zl_Walls_179 yd_h_12 (o' := 39) rfl hP ?_
      refine lv_iload_n C.1 C.2.1 yd_h_15 rfl (lv_at h 3 rfl) ?_
      have hix : z_ix (nI c) 6 c := z_ixn (by omega)
      refine va_iald C.1 C.2.1 C.2.2.2.2.2.2.2.2.1 hP 39 2 (z_w_ar (a := 39) (c := 11) (n := 6) rfl (by decide) (by decide)) rfl (hix.in (by decide)) yd_h_16 ?_
      rw [hix.cl (by decide), show σ.1 39 c = nI (v_p v c).length from hR.fM hc]
      refine lv_ishl C.1 C.2.1 yd_h_17 ?_
      rw [zn_shl (by omega)]
      refine lv_icmp_ge C.1 C.2.1 yd_h_18 (tgt := 42) rfl (fun _ => ?_) (fun z => absurd (by rw [zn_le (by omega) (by omega)]; omega) z)
      refine lv_lload_n C.1 C.2.1 yd_h_42 rfl (lv_at h 1 rfl) ?_
      refine y_callL C (y_bitCount (y_hs_lt hR.1 hc i) σ) (by omega) y_lk424 yd_h_43 hP hD hS h.1 (fun r σ1 H1 locs1 hr hP1 hD1 hS1 => ?_)
      obtain ⟨rfl, rfl⟩ := hr
      have ei : i = 2 ^ (v_p v c).length := by omega
      exact z_W_mono C.2.2.2.2.2.2.2.2.2.2.1 (W.iret C.1 C.2.1 C.2.2.1 (fun t ht hW => ⟨⟨some _, σ1, rfl, by rw [he, ei]; exact ⟨_, rfl, rfl, rfl⟩, by rw [ht]; exact hP1, va_K.moved hW.alike C.2.2.2.2.2.2.2.2.1, hD1⟩, hS1.F ht⟩) hS1.2.2 yd_h_46 C.2.2.2.2.2.2.1)
    | succ j ih =>
      intro i H locs ls hij hP hD hS h
      have hh := a_hw36 hR.1 hc i
      refine lv_iload C.1 C.2.1 yd_h_5 (lv_at h 0 rfl) ?_
      refine lv_iconst C.1 C.2.1 yd_h_7 (v := nI 1) rfl ?_
      refine lv_aload_n C.1 C.2.1 yd_h_8 rfl (lv_at h 2 rfl) ?_
      refine y_getR C rfl (by decide) rfl zu_Walls (k := 4) (by decide) rfl zl_Walls_20 yd_h_9 (o' := 33) rfl hP ?_
      refine y_getR C rfl (by decide) rfl zu_City (k := 7) (by decide) rfl zl_Walls_179 yd_h_12 (o' := 39) rfl hP ?_
      refine lv_iload_n C.1 C.2.1 yd_h_15 rfl (lv_at h 3 rfl) ?_
      have hix : z_ix (nI c) 6 c := z_ixn (by omega)
      refine va_iald C.1 C.2.1 C.2.2.2.2.2.2.2.2.1 hP 39 2 (z_w_ar (a := 39) (c := 11) (n := 6) rfl (by decide) (by decide)) rfl (hix.in (by decide)) yd_h_16 ?_
      rw [hix.cl (by decide), show σ.1 39 c = nI (v_p v c).length from hR.fM hc]
      refine lv_ishl C.1 C.2.1 yd_h_17 ?_
      rw [zn_shl (by omega)]
      refine lv_icmp_ge C.1 C.2.1 yd_h_18 (tgt := 42) rfl (fun z => absurd z (by rw [zn_le (by omega) (by omega)]; omega)) (fun _ => ?_)
      refine lv_lload_n C.1 C.2.1 yd_h_21 rfl (lv_at h 1 rfl) ?_
      refine lv_lconst C.1 C.2.1 yd_h_22 (v := lN 1) rfl ?_
      refine lv_aload_n C.1 C.2.1 yd_h_23 rfl (lv_at h 2 rfl) ?_
      refine y_getR C rfl (by decide) rfl zu_Walls (k := 4) (by decide) rfl zl_Walls_20 yd_h_24 (o' := 33) rfl hP ?_
      refine lv_iload_n C.1 C.2.1 yd_h_27 rfl (lv_at h 3 rfl) ?_
      refine lv_iload C.1 C.2.1 yd_h_28 (lv_at h 0 rfl) ?_
      refine y_callVi C (As := [.inl (nI c), .inl (nI i)]) (rest := [.long (lN 1), .long (lN (y_hs s v c i))]) (cc_heightWithout z_c33 hR hc (m := i) (by omega)) (by omega) rfl (by decide) rfl zl_Walls_335 zq_City_heightWithout yd_h_30 (show (2 + (2 + 0) : Nat) ≤ 8 by decide) hP hD hS h.1 (fun r σ1 H1 locs1 hr hP1 hD1 hS1 => ?_)
      obtain ⟨rfl, rfl⟩ := hr
      refine lv_lshl C.1 C.2.1 yd_h_33 (wb_shl 1 (k := a_hw s v c i) (by omega)) ?_
      refine lv_lor C.1 C.2.1 yd_h_34 ?_
      rw [wb_or (y_hs_lt hR.1 hc i) (by rw [Nat.one_mul]; exact Nat.pow_lt_pow_right (by decide) (by omega)), Nat.one_mul]
      refine lv_lstore_n C.1 C.2.1 yd_h_35 rfl h (by decide) rfl (fun ls3 h3 => ?_)
      have h3 : lv_has ls3 5 [(2, Value.long (lN (y_hs s v c (i + 1)))), (4, Value.int (nI i)), (0, Value.ref (ad 0)), (1, Value.int (nI c))] := h3
      refine lv_iinc C.1 C.2.1 yd_h_36 h3 (k := 1) rfl (v := nI (i + 1)) (nI_add i 1) (by decide) rfl (fun ls4 h4 => ?_)
      have h4 : lv_has ls4 5 [(4, Value.int (nI (i + 1))), (2, Value.long (lN (y_hs s v c (i + 1)))), (0, Value.ref (ad 0)), (1, Value.int (nI c))] := h4
      refine lv_goto C.1 C.2.1 yd_h_39 (tgt := 5) rfl ?_
      exact ih (i + 1) H1 locs1 ls4 (by omega) hP1 hD1 hS1 h4
  exact loop (2 ^ (v_p v c).length) 0 H locs ls2 (by omega) hP hD hS h2
