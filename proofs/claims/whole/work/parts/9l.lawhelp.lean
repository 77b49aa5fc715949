section
variable {p : Program} {l : Launch} {e : Env} {s : State} {m : MethodId} {b : Nat} {below : List Frame} {meth : Method} {c : Code} {Qf : State → Prop} {D : va_G} {cy : Nat → ClassId} {cJ : ClassId} {L k cells slots pc : Nat} {xs : Nat → Int32} {x : tX} {H : Heap} {locs : List Loc} {ls : Array Slot} {st : List Value}
/-- a helper is called -/
theorem l_callH (S : lS p l e s m b below meth c Qf D cy cJ L xs) {mi : zM} {hh : List (Nat × Nat × Nat × Nat)} {As : List zV} {o : Option Int32} {σ : zS} {v : Int64} {idx : Nat} (hm : lC mi hh As x o σ) (hcls : mi.1.cls = "WallsOfBooksLaw") (hd0 : mi.1.cls ≠ "java/lang/invoke/MethodHandle" ∧ mi.1.cls ≠ "java/lang/invoke/VarHandle" ∧ (parseMethodDescriptor mi.1.desc).map (fun d => d.parameters.length) = some (As.length + 2)) (hmL : mi.2.2.1 ≤ 5) (hw : Cond.codeWith mi.1 mi.2.1 mi.2.2.1 mi.2.2.2 hh ∈ zTB) (hst : Cond.static mi.1 ∈ zTB) (hml : Cond.methodLink "WallsOfBooksLaw" idx mi.1 ∈ zTB) (hc : cells + 1 ≤ 601024) (hs : slots + 6 ≤ 7293033)
    (hP : va_P D zC (z_ws cy (y_ad s.heap.size b) σ) H) (hD : va_D (fun q => s.heap.size ≤ q) (z_ws cy (y_ad s.heap.size b) σ)) (hS : va_S (fun q => s.heap.size ≤ q) s.heap H locs) (hq : H[lq s]? = some (lO cJ v)) (hls : ls.size = 7) (hd : decode code pc = .ok (.invokestatic idx, 3))
    (kk : ∀ (r : Int32) (v2 : Int64) (u : zS) (H1 : Heap) (locs1 : List Loc), lZ x o σ r v2 u → va_P D zC (z_ws cy (y_ad s.heap.size b) u) H1 → va_D (fun q => s.heap.size ≤ q) (z_ws cy (y_ad s.heap.size b) u) → va_S (fun q => s.heap.size ≤ q) s.heap H1 locs1 → H1[lq s]? = some (lO cJ v2) → W p l e room_1 s m #[Value.ref b] below meth c H1 locs1 (cells + 1) (slots + 6) Qf (F0 m (pc + 3) ls [.int r])) :
    W p l e room_1 s m #[Value.ref b] below meth c H locs cells slots Qf (F0 m pc ls ((Value.ref (y_ad s.heap.size b 0) :: (As.map (z_en (y_ad s.heap.size b)) ++ [.ref (lq s)])).reverse)) := by
  obtain ⟨hC, hfl, hL, hX, hbl, hyX, hAr⟩ := S
  have C := hC cells slots (by omega) (by omega)
  have hts := C.2.2.2.2.2.1
  have hK := C.2.2.2.2.2.2.2.2.1
  intro T hT X
  subst hT
  have hinit : Cond.initialized mi.1.cls ∈ zTB := by rw [hcls]; exact yl_in
  obtain ⟨mk, methM, cM, hnamed, hmethM, hcM, -, -, -, -, -, hsigM⟩ := Cond.codeWith_spec (hts _ hw)
  have hstatic : methM.isStatic = true := Cond.static_spec hnamed hmethM (hts _ hst)
  obtain ⟨kP, hkP, -⟩ := className_of_methodNamed hnamed
  have hinitP : kP.init = .initialized := Cond.initialized_spec (findClass_of_methodNamed hnamed) hkP (hts _ hinit)
  have hlen : (Value.ref (y_ad s.heap.size b 0) :: (As.map (z_en (y_ad s.heap.size b)) ++ [.ref (lq s)])).length = methM.sig.parameters.length := by
    have h3 := hd0.2.2
    rw [hsigM] at h3
    have h4 : methM.sig.parameters.length = As.length + 2 := Option.some.inj h3
    simp only [List.length_cons, List.length_append, List.length_map, List.length_nil]
    omega
  have hml' : (Cond.methodLink zm_law.1.cls idx mi.1).before #[Value.ref b] s = true := hts _ hml
  obtain ⟨vm₁, X₁, hstep₁⟩ := X.invokestatic C.1 C.2.2.2.2.1 hml' hnamed hmethM hstatic hkP hinitP ⟨hd0.1, hd0.2.1⟩ (g := F0 m pc ls ((Value.ref (y_ad s.heap.size b 0) :: (As.map (z_en (y_ad s.heap.size b)) ++ [.ref (lq s)])).reverse)) rfl (argsL := Value.ref (y_ad s.heap.size b 0) :: (As.map (z_en (y_ad s.heap.size b)) ++ [.ref (lq s)])) (rest := []) hlen (by simp) (by rw [C.2.1]; exact hd)
  have hws : ∀ w ∈ yWh mi hh, ∀ a' U, s.WarmedH U.vm → w.before a' U = true := fun w hw' a' U hW => by
    have hz : w ∈ zTB := (List.mem_cons.mp hw').elim (fun e => by rw [e]; exact hw) (fun h => h)
    exact word_at hW (zi_good w hz).2 (hts w hz)
  have hB : Back l room_1 p e below s #[Value.ref b] mi.1 3 8 (PreOf room_1 1 6 (lPc D cy (y_ad s.heap.size b) cJ (lq s) T.heap.size σ v As)) (PostOf (lQc D cy (y_ad s.heap.size b) cJ (lq s) T.heap.size x o σ) 1 6 (lA (y_ad s.heap.size b) (lq s) T.heap.size)) :=
    va_backW (bytes := mi.2.1) (maxL := mi.2.2.1) (ret := mi.2.2.2) (hh := hh) (hm l hfl D cy (y_ad s.heap.size b) cJ (lq s) T.heap.size v) lP_blind rfl rfl (by decide) (by show 8 + (mi.2.2.1 + 11) + 400 ≤ 84000; omega) hws List.mem_cons_self (fun a' U hW => word_at hW (zi_good _ hinit).2 (hts _ hinit))
  have hqlt : lq s < T.heap.size := (Array.getElem?_eq_some_iff.mp hq).1
  have hAA : ∀ q, lA (y_ad s.heap.size b) (lq s) T.heap.size q → s.heap.size ≤ q := fun q h => by
    rcases h with ⟨o', ho, rfl⟩ | rfl | h
    · exact hD.2 o' _ (z_at ho)
    · show s.heap.size ≤ s.heap.size + 89; omega
    · exact Nat.le_trans hS.1 h
  obtain ⟨v', ⟨U', l2, c2, s2⟩, X', ⟨g', mk', t, L', e1, e2, hQ, h1, hL', h2, h3⟩, hsteps⟩ := hB m meth c ⟨T.setVm vm₁, locs, cells, slots⟩ (F0 m pc ls []) (.invokestatic idx) mk _ X₁ rfl (by rw [C.2.2.2.1]; exact hls) (by rw [C.2.1]; exact hd) (Nat.le_of_ble_eq_true rfl) (X₁.named hnamed)
    ⟨hc, hs, rfl, rfl, hP, va_K.moved X₁.warmed.alike hK, hD.weaken (fun _ _ _ _ => trivial), z_Nw.warm (U := T.setVm vm₁) X₁.warmed C.2.2.2.2.2.2.2.2.2.2.2, hyX.to (U := T.setVm vm₁) X₁.warmed (fun q h1 h2 => hS.2.1 q h1 h2) hAA, hq, arrOfT_moved (E := T.setVm vm₁) X₁.warmed.alike hAr, lq_ne⟩
  dsimp only [Pt.U, Pt.locs, Pt.cells, Pt.slots] at X' e1 e2 h1 h2 h3 hsteps
  subst h1; subst h2; subst h3
  obtain ⟨r, v2, u, hv, hZ, hBu, hqo, hF⟩ := hQ
  cases hv
  obtain ⟨t2, a1, b1⟩ := kk r v2 u U'.heap (locs ++ L') hZ (by rw [e1]; exact hBu.1) (z_D_to hD hBu.2.2) ⟨Nat.le_trans hS.1 (by rw [e1]; exact hF.1), fun q g1 g2 => by
      rw [e1, hF.2 q (Nat.lt_of_lt_of_le g1 hS.1) (fun h => g2 (hAA q h))]
      exact hS.2.1 q g1 g2, fun q hq => (List.mem_append.mp hq).elim (hS.2.2 q) (fun h => hAA _ (hL' q h))⟩ (by rw [e1]; exact hqo) U' rfl X'
  refine ⟨t2, hstep₁ _ (fun acts => ?_), b1⟩
  rw [doInvoke_state]
  exact hsteps.trans a1
/-- a question that may be refused -/
theorem l_help (S : lS p l e s m b below meth c Qf D cy cJ L xs) (hc : cells + 1 ≤ 601024) (hs : slots + 6 ≤ 7293033) {mi mm : zM} {hh : List (Nat × Nat × Nat × Nat)} {dm ix im pc1 pc2 : Nat} {off : Int} {As : List zV} {o : Option Int32}
    (hx : ∀ σ, cA x σ → lC mi hh As x o σ) (hm : ∀ σ, mA x σ → z_Ci dm mm (.inr 63 :: As) σ (mZ x o σ)) (hdm : dm < 2000) (hcls : mi.1.cls = "WallsOfBooksLaw") (hd0 : mi.1.cls ≠ "java/lang/invoke/MethodHandle" ∧ mi.1.cls ≠ "java/lang/invoke/VarHandle" ∧ (parseMethodDescriptor mi.1.desc).map (fun d => d.parameters.length) = some (As.length + 2)) (hmL : mi.2.2.1 ≤ 5) (hw : Cond.codeWith mi.1 mi.2.1 mi.2.2.1 mi.2.2.2 hh ∈ zTB) (hst : Cond.static mi.1 ∈ zTB) (hlx : Cond.methodLink "WallsOfBooksLaw" ix mi.1 ∈ zTB)
    (hcm : zC[8]? = some (mm.1.cls, zt_Model, 48)) (hmm : z_mv mm As.length) (hlm : Cond.methodLink "WallsOfBooksLaw" im mm.1 ∈ zTB)
    (hld1 : ∀ (H : Heap) (locs : List Loc) (ls : Array Slot) (st : List Value), va_S (fun q => s.heap.size ≤ q) s.heap H locs → ls[0]? = some (.val (.ref b)) → ls[4]? = some (.val (.int (nI (5 * k)))) → W p l e room_1 s m #[Value.ref b] below meth c H locs cells slots Qf (F0 m pc1 ls ((As.map (z_en (y_ad s.heap.size b))).reverse ++ st)) → W p l e room_1 s m #[Value.ref b] below meth c H locs cells slots Qf (F0 m (pc + 1) ls st))
    (hld2 : ∀ (H : Heap) (locs : List Loc) (ls : Array Slot) (st : List Value), va_S (fun q => s.heap.size ≤ q) s.heap H locs → ls[0]? = some (.val (.ref b)) → ls[4]? = some (.val (.int (nI (5 * k)))) → W p l e room_1 s m #[Value.ref b] below meth c H locs (cells + 1) (slots + 6) Qf (F0 m pc2 ls ((As.map (z_en (y_ad s.heap.size b))).reverse ++ st)) → W p l e room_1 s m #[Value.ref b] below meth c H locs (cells + 1) (slots + 6) Qf (F0 m (pc1 + 7) ls st))
    (d0 : decode code pc = .ok (.aload_n 1, 1)) (d1 : decode code pc1 = .ok (.aload_n 3, 1)) (d2 : decode code (pc1 + 1) = .ok (.invokestatic ix, 3)) (d3 : decode code (pc1 + 4) = .ok (.istore 5, 2)) (d4 : decode code (pc1 + 6) = .ok (.aload_n 2, 1)) (d5 : decode code pc2 = .ok (.invokevirtual im, 3)) (d6 : decode code (pc2 + 3) = .ok (.istore 6, 2)) (d7 : decode code (pc2 + 5) = .ok (.aload_n 2, 1)) (d8 : decode code (pc2 + 6) = .ok (.invokevirtual 61, 3)) (d9 : decode code (pc2 + 9) = .ok (.iload 5, 2)) (d10 : decode code (pc2 + 11) = .ok (.if_icmp .eq 5, 3)) (d11 : decode code (pc2 + 16) = .ok (.iload 5, 2)) (d12 : decode code (pc2 + 18) = .ok (.ifCond .ne 15, 3))
    (d13 : decode code (pc2 + 21) = .ok (.aload_n 3, 1)) (d14 : decode code (pc2 + 22) = .ok (.iconst 0, 1)) (d15 : decode code (pc2 + 23) = .ok (.laload, 1)) (d16 : decode code (pc2 + 24) = .ok (.iload 6, 2)) (d17 : decode code (pc2 + 26) = .ok (.i2l, 1)) (d18 : decode code (pc2 + 27) = .ok (.lcmp, 1)) (d19 : decode code (pc2 + 28) = .ok (.ifCond .eq 5, 3)) (d20 : decode code (pc2 + 33) = .ok (.goto off, 3)) (ht : ((pc2 + 33 : Nat) : Int) + off = ((1331 : Nat) : Int))
    (kk : lJ p l e s m b below meth c Qf D cy cJ k (cells + 1) (slots + 6) 1331 x) : lJ p l e s m b below meth c Qf D cy cJ k cells slots pc x := by
  intro σ H locs ls v a1 a2 a3 a4 a5 a6 a7
  have S' := S
  obtain ⟨hC, hfl, hL, hX, hbl, hyX, hAr⟩ := S
  have C0 := hC cells slots (by omega) (by omega)
  have C := hC (cells + 1) (slots + 6) hc hs
  refine lv_aload_n C.1 C.2.1 d0 rfl (lv_at a7 1 rfl) ?_
  refine hld1 H locs ls _ a5 (lv_at a7 0 rfl) (lv_at a7 4 rfl) ?_
  refine lv_aload_n C.1 C.2.1 d1 rfl (lv_at a7 3 rfl) ?_
  have est : (Value.ref (lq s) :: ((As.map (z_en (y_ad s.heap.size b))).reverse ++ [Value.ref (y_ad s.heap.size b 0)])) = (Value.ref (y_ad s.heap.size b 0) :: (As.map (z_en (y_ad s.heap.size b)) ++ [.ref (lq s)])).reverse := by simp
  rw [est]
  refine l_callH S' (hx σ a1) hcls hd0 hmL hw hst hlx hc hs a3 a4 a5 a6 a7.1 d2 (fun r v2 u H1 locs1 hZ hP1 hD1 hS1 hq1 => ?_)
  obtain ⟨hz, hcu, hWu⟩ := hZ
  refine lv_istore C.1 C.2.1 d3 a7 (by decide) rfl (fun ls5 h5 => ?_)
  have h5 : lv_has ls5 7 [(5, .int r), (0, .ref b), (1, .ref (y_ad s.heap.size b 0)), (2, .ref (y_ad s.heap.size b 63)), (3, .ref (lq s)), (4, .int (nI (5 * k)))] := h5
  refine lv_aload_n C.1 C.2.1 d4 rfl (lv_at h5 3 rfl) ?_
  refine hld2 H1 locs1 ls5 _ hS1 (lv_at h5 1 rfl) (lv_at h5 5 rfl) ?_
  refine y_callVi2 (o := 63) (As := As) (rest := []) C (hm u (mA_W a2 hWu)) hdm rfl (by decide) hcm hlm hmm d5 rfl (by decide) hP1 hD1 hS1 h5.1 (fun r2 w H2 locs2 hr hP2 hD2 hS2 hz2 hk2 => ?_)
  obtain ⟨hr, hmw, hUw⟩ := hr
  have hq2 : H2[lq s]? = some (lO cJ v2) := by rw [hk2 _ (Array.getElem?_eq_some_iff.mp hq1).1 lq_ne]; exact hq1
  refine lv_istore C.1 C.2.1 d6 h5 (by decide) rfl (fun ls6 h6 => ?_)
  have h6 : lv_has ls6 7 [(6, .int r2), (5, .int r), (0, .ref b), (1, .ref (y_ad s.heap.size b 0)), (2, .ref (y_ad s.heap.size b 63)), (3, .ref (lq s)), (4, .int (nI (5 * k)))] := h6
  refine lv_aload_n C.1 C.2.1 d7 rfl (lv_at h6 4 rfl) ?_
  refine y_callVi2 (o := 63) (As := []) (rest := []) C (mc_thrown w) (by decide) rfl (by decide) rfl zl_L_61 zq_Model_thrown d8 rfl (by decide) hP2 hD2 hS2 h6.1 (fun r3 w3 H3 locs3 hr3 hP3 hD3 hS3 hz3 hk3 => ?_)
  obtain ⟨rfl, rfl⟩ := hr3
  have hq3 : H3[lq s]? = some (lO cJ v2) := by rw [hk3 _ (Array.getElem?_eq_some_iff.mp hq2).1 lq_ne]; exact hq2
  refine lv_iload C.1 C.2.1 d9 (lv_at h6 1 rfl) ?_
  have fin : W p l e room_1 s m #[Value.ref b] below meth c H3 locs3 (cells + 1) (slots + 6) Qf (F0 m (pc2 + 33) ls6 []) :=
    lv_goto C.1 C.2.1 d20 ht (kk w3 H3 locs3 ls6 v2 (cA_U hcu hUw) hmw hP3 hD3 hS3 hq3 (lv_sub h6 [2, 3, 4, 5, 6] rfl))
  have tg1 : ((pc2 + 11 : Nat) : Int) + 5 = ((pc2 + 16 : Nat) : Int) := by omega
  have tg2 : ((pc2 + 18 : Nat) : Int) + 15 = ((pc2 + 33 : Nat) : Int) := by omega
  have tg3 : ((pc2 + 28 : Nat) : Int) + 5 = ((pc2 + 33 : Nat) : Int) := by omega
  cases o with
  | none =>
    have hr : w3.1 63 11 = nI 1 := hr
    have hz : r = 1 := hz
    refine lv_icmp_eq C.1 C.2.1 d10 tg1 (fun _ => ?_) (fun h => absurd (by rw [hr, hz]; rfl) h)
    refine lv_iload C.1 C.2.1 d11 (lv_at h6 1 rfl) ?_
    refine lv_if_ne C.1 C.2.1 d12 tg2 (fun _ => fin) (fun h => absurd h (by rw [hz]; decide))
  | some y =>
    have hr : r2 = y ∧ w3.1 63 11 = nI 0 := hr
    have hz : r = 0 ∧ v2 = y.toInt64 := hz
    refine lv_icmp_eq C.1 C.2.1 d10 tg1 (fun _ => ?_) (fun h => absurd (by rw [hr.2, hz.1]; rfl) h)
    refine lv_iload C.1 C.2.1 d11 (lv_at h6 1 rfl) ?_
    refine lv_if_ne C.1 C.2.1 d12 tg2 (fun h => absurd hz.1 h) (fun _ => ?_)
    refine lv_aload_n C.1 C.2.1 d13 rfl (lv_at h6 5 rfl) ?_
    refine lv_iconst (v := 0) C.1 C.2.1 d14 (by decide) ?_
    refine W.lald (v := .long v2) C.1 C.2.1 hq3 (hAr 1 (fun _ => .long v2)) (fun h => by cases h) (by show ¬ ((0 : Int32) < 0 ∨ (arrV _ _ _).slots.size ≤ _); rw [arrV_size]; show ¬ ((0 : Int32) < 0 ∨ 1 ≤ Int32.toNatClampNeg 0); decide) (by show (arrV _ _ _).slots[0]? = _; rw [arrV_read _ _ (by show 0 < 1; decide)]) rfl rfl d15 ?_
    refine lv_iload C.1 C.2.1 d16 (lv_at h6 0 rfl) ?_
    refine lv_i2l C.1 C.2.1 d17 rfl ?_
    refine W.lcmp C.1 C.2.1 d18 ?_
    refine lv_if_eq C.1 C.2.1 d19 tg3 (fun _ => fin) (fun h => absurd ?_ h)
    rw [hz.2, hr.1]
    unfold lg_cmp
    rw [if_neg (by simp), if_pos rfl]
end
